theorem dX0_init_0 : decode cX0_init 0 = .ok (.aload_n 0, 1) := by decide +kernel
theorem dX0_init_1 : decode cX0_init 1 = .ok (.invokespecial 3, 3) := by decide +kernel
theorem dX0_init_4 : decode cX0_init 4 = .ok (.aload_n 0, 1) := by decide +kernel
theorem dX0_init_5 : decode cX0_init 5 = .ok (.sipush 360, 3) := by decide +kernel
theorem dX0_init_8 : decode cX0_init 8 = .ok (.newarray .int, 2) := by decide +kernel
theorem dX0_init_10 : decode cX0_init 10 = .ok (.putfield 9, 3) := by decide +kernel
theorem dX0_init_13 : decode cX0_init 13 = .ok (.return_, 1) := by decide +kernel
theorem dX0_reset_0 : decode cX0_reset 0 = .ok (.aload_n 0, 1) := by decide +kernel
theorem dX0_reset_1 : decode cX0_reset 1 = .ok (.iconst 0, 1) := by decide +kernel
theorem dX0_reset_2 : decode cX0_reset 2 = .ok (.invokestatic 15, 3) := by decide +kernel
theorem dX0_reset_5 : decode cX0_reset 5 = .ok (.putfield 19, 3) := by decide +kernel
theorem dX0_reset_8 : decode cX0_reset 8 = .ok (.aload_n 0, 1) := by decide +kernel
theorem dX0_reset_9 : decode cX0_reset 9 = .ok (.getfield 9, 3) := by decide +kernel
theorem dX0_reset_12 : decode cX0_reset 12 = .ok (.iconst 0, 1) := by decide +kernel
theorem dX0_reset_13 : decode cX0_reset 13 = .ok (.invokestatic 23, 3) := by decide +kernel
theorem dX0_reset_16 : decode cX0_reset 16 = .ok (.return_, 1) := by decide +kernel
theorem dX0_copyFrom_0 : decode cX0_copyFrom 0 = .ok (.aload_n 0, 1) := by decide +kernel
theorem dX0_copyFrom_1 : decode cX0_copyFrom 1 = .ok (.aload_n 1, 1) := by decide +kernel
theorem dX0_copyFrom_2 : decode cX0_copyFrom 2 = .ok (.getfield 19, 3) := by decide +kernel
theorem dX0_copyFrom_5 : decode cX0_copyFrom 5 = .ok (.putfield 19, 3) := by decide +kernel
theorem dX0_copyFrom_8 : decode cX0_copyFrom 8 = .ok (.aload_n 1, 1) := by decide +kernel
theorem dX0_copyFrom_9 : decode cX0_copyFrom 9 = .ok (.getfield 9, 3) := by decide +kernel
theorem dX0_copyFrom_12 : decode cX0_copyFrom 12 = .ok (.iconst 0, 1) := by decide +kernel
theorem dX0_copyFrom_13 : decode cX0_copyFrom 13 = .ok (.aload_n 0, 1) := by decide +kernel
theorem dX0_copyFrom_14 : decode cX0_copyFrom 14 = .ok (.getfield 9, 3) := by decide +kernel
theorem dX0_copyFrom_17 : decode cX0_copyFrom 17 = .ok (.iconst 0, 1) := by decide +kernel
theorem dX0_copyFrom_18 : decode cX0_copyFrom 18 = .ok (.aload_n 0, 1) := by decide +kernel
theorem dX0_copyFrom_19 : decode cX0_copyFrom 19 = .ok (.getfield 9, 3) := by decide +kernel
theorem dX0_copyFrom_22 : decode cX0_copyFrom 22 = .ok (.arraylength, 1) := by decide +kernel
theorem dX0_copyFrom_23 : decode cX0_copyFrom 23 = .ok (.invokestatic 29, 3) := by decide +kernel
theorem dX0_copyFrom_26 : decode cX0_copyFrom 26 = .ok (.return_, 1) := by decide +kernel
theorem dX0_has_0 : decode cX0_has 0 = .ok (.aload_n 0, 1) := by decide +kernel
theorem dX0_has_1 : decode cX0_has 1 = .ok (.getfield 19, 3) := by decide +kernel
theorem dX0_has_4 : decode cX0_has 4 = .ok (.iload_n 1, 1) := by decide +kernel
theorem dX0_has_5 : decode cX0_has 5 = .ok (.invokestatic 35, 3) := by decide +kernel
theorem dX0_has_8 : decode cX0_has 8 = .ok (.ireturn, 1) := by decide +kernel
theorem dX0_valueOf_0 : decode cX0_valueOf 0 = .ok (.aload_n 0, 1) := by decide +kernel
theorem dX0_valueOf_1 : decode cX0_valueOf 1 = .ok (.getfield 9, 3) := by decide +kernel
theorem dX0_valueOf_4 : decode cX0_valueOf 4 = .ok (.iload_n 1, 1) := by decide +kernel
theorem dX0_valueOf_5 : decode cX0_valueOf 5 = .ok (.bipush 6, 2) := by decide +kernel
theorem dX0_valueOf_7 : decode cX0_valueOf 7 = .ok (.imul, 1) := by decide +kernel
theorem dX0_valueOf_8 : decode cX0_valueOf 8 = .ok (.iload_n 2, 1) := by decide +kernel
theorem dX0_valueOf_9 : decode cX0_valueOf 9 = .ok (.iadd, 1) := by decide +kernel
theorem dX0_valueOf_10 : decode cX0_valueOf 10 = .ok (.iaload, 1) := by decide +kernel
theorem dX0_valueOf_11 : decode cX0_valueOf 11 = .ok (.ireturn, 1) := by decide +kernel
theorem dX0_put_0 : decode cX0_put 0 = .ok (.aload_n 0, 1) := by decide +kernel
theorem dX0_put_1 : decode cX0_put 1 = .ok (.getfield 9, 3) := by decide +kernel
theorem dX0_put_4 : decode cX0_put 4 = .ok (.iload_n 1, 1) := by decide +kernel
theorem dX0_put_5 : decode cX0_put 5 = .ok (.bipush 6, 2) := by decide +kernel
theorem dX0_put_7 : decode cX0_put 7 = .ok (.imul, 1) := by decide +kernel
theorem dX0_put_8 : decode cX0_put 8 = .ok (.iload_n 2, 1) := by decide +kernel
theorem dX0_put_9 : decode cX0_put 9 = .ok (.iadd, 1) := by decide +kernel
theorem dX0_put_10 : decode cX0_put 10 = .ok (.iload_n 3, 1) := by decide +kernel
theorem dX0_put_11 : decode cX0_put 11 = .ok (.iastore, 1) := by decide +kernel
theorem dX0_put_12 : decode cX0_put 12 = .ok (.return_, 1) := by decide +kernel
theorem dX0_takeFields_0 : decode cX0_takeFields 0 = .ok (.aload_n 1, 1) := by decide +kernel
theorem dX0_takeFields_1 : decode cX0_takeFields 1 = .ok (.getfield 9, 3) := by decide +kernel
theorem dX0_takeFields_4 : decode cX0_takeFields 4 = .ok (.iload_n 2, 1) := by decide +kernel
theorem dX0_takeFields_5 : decode cX0_takeFields 5 = .ok (.bipush 6, 2) := by decide +kernel
theorem dX0_takeFields_7 : decode cX0_takeFields 7 = .ok (.imul, 1) := by decide +kernel
theorem dX0_takeFields_8 : decode cX0_takeFields 8 = .ok (.aload_n 0, 1) := by decide +kernel
theorem dX0_takeFields_9 : decode cX0_takeFields 9 = .ok (.getfield 9, 3) := by decide +kernel
theorem dX0_takeFields_12 : decode cX0_takeFields 12 = .ok (.iload_n 2, 1) := by decide +kernel
theorem dX0_takeFields_13 : decode cX0_takeFields 13 = .ok (.bipush 6, 2) := by decide +kernel
theorem dX0_takeFields_15 : decode cX0_takeFields 15 = .ok (.imul, 1) := by decide +kernel
theorem dX0_takeFields_16 : decode cX0_takeFields 16 = .ok (.bipush 6, 2) := by decide +kernel
theorem dX0_takeFields_18 : decode cX0_takeFields 18 = .ok (.invokestatic 29, 3) := by decide +kernel
theorem dX0_takeFields_21 : decode cX0_takeFields 21 = .ok (.return_, 1) := by decide +kernel
theorem dX0_clearFields_0 : decode cX0_clearFields 0 = .ok (.iconst 0, 1) := by decide +kernel
theorem dX0_clearFields_1 : decode cX0_clearFields 1 = .ok (.istore_n 2, 1) := by decide +kernel
theorem dX0_clearFields_2 : decode cX0_clearFields 2 = .ok (.iload_n 2, 1) := by decide +kernel
theorem dX0_clearFields_3 : decode cX0_clearFields 3 = .ok (.bipush 6, 2) := by decide +kernel
theorem dX0_clearFields_5 : decode cX0_clearFields 5 = .ok (.if_icmp .ge 16, 3) := by decide +kernel
theorem dX0_clearFields_8 : decode cX0_clearFields 8 = .ok (.aload_n 0, 1) := by decide +kernel
theorem dX0_clearFields_9 : decode cX0_clearFields 9 = .ok (.iload_n 1, 1) := by decide +kernel
theorem dX0_clearFields_10 : decode cX0_clearFields 10 = .ok (.iload_n 2, 1) := by decide +kernel
theorem dX0_clearFields_11 : decode cX0_clearFields 11 = .ok (.iconst 0, 1) := by decide +kernel
theorem dX0_clearFields_12 : decode cX0_clearFields 12 = .ok (.invokevirtual 39, 3) := by decide +kernel
theorem dX0_clearFields_15 : decode cX0_clearFields 15 = .ok (.iinc 2 1, 3) := by decide +kernel
theorem dX0_clearFields_18 : decode cX0_clearFields 18 = .ok (.goto (-16), 3) := by decide +kernel
theorem dX0_clearFields_21 : decode cX0_clearFields 21 = .ok (.return_, 1) := by decide +kernel
theorem dX0_countDifferent_0 : decode cX0_countDifferent 0 = .ok (.iconst 0, 1) := by decide +kernel
theorem dX0_countDifferent_1 : decode cX0_countDifferent 1 = .ok (.istore_n 3, 1) := by decide +kernel
theorem dX0_countDifferent_2 : decode cX0_countDifferent 2 = .ok (.iconst 0, 1) := by decide +kernel
theorem dX0_countDifferent_3 : decode cX0_countDifferent 3 = .ok (.istore 4, 2) := by decide +kernel
theorem dX0_countDifferent_5 : decode cX0_countDifferent 5 = .ok (.iload 4, 2) := by decide +kernel
theorem dX0_countDifferent_7 : decode cX0_countDifferent 7 = .ok (.bipush 6, 2) := by decide +kernel
theorem dX0_countDifferent_9 : decode cX0_countDifferent 9 = .ok (.if_icmp .ge 29, 3) := by decide +kernel
theorem dX0_countDifferent_12 : decode cX0_countDifferent 12 = .ok (.aload_n 0, 1) := by decide +kernel
theorem dX0_countDifferent_13 : decode cX0_countDifferent 13 = .ok (.iload_n 2, 1) := by decide +kernel
theorem dX0_countDifferent_14 : decode cX0_countDifferent 14 = .ok (.iload 4, 2) := by decide +kernel
theorem dX0_countDifferent_16 : decode cX0_countDifferent 16 = .ok (.invokevirtual 43, 3) := by decide +kernel
theorem dX0_countDifferent_19 : decode cX0_countDifferent 19 = .ok (.aload_n 1, 1) := by decide +kernel
theorem dX0_countDifferent_20 : decode cX0_countDifferent 20 = .ok (.iload_n 2, 1) := by decide +kernel
theorem dX0_countDifferent_21 : decode cX0_countDifferent 21 = .ok (.iload 4, 2) := by decide +kernel
theorem dX0_countDifferent_23 : decode cX0_countDifferent 23 = .ok (.invokevirtual 43, 3) := by decide +kernel
theorem dX0_countDifferent_26 : decode cX0_countDifferent 26 = .ok (.if_icmp .eq 6, 3) := by decide +kernel
theorem dX0_countDifferent_29 : decode cX0_countDifferent 29 = .ok (.iinc 3 1, 3) := by decide +kernel
theorem dX0_countDifferent_32 : decode cX0_countDifferent 32 = .ok (.iinc 4 1, 3) := by decide +kernel
theorem dX0_countDifferent_35 : decode cX0_countDifferent 35 = .ok (.goto (-30), 3) := by decide +kernel
theorem dX0_countDifferent_38 : decode cX0_countDifferent 38 = .ok (.iload_n 3, 1) := by decide +kernel
theorem dX0_countDifferent_39 : decode cX0_countDifferent 39 = .ok (.ireturn, 1) := by decide +kernel
theorem dX0_sameAs_0 : decode cX0_sameAs 0 = .ok (.aload_n 0, 1) := by decide +kernel
theorem dX0_sameAs_1 : decode cX0_sameAs 1 = .ok (.getfield 19, 3) := by decide +kernel
theorem dX0_sameAs_4 : decode cX0_sameAs 4 = .ok (.aload_n 1, 1) := by decide +kernel
theorem dX0_sameAs_5 : decode cX0_sameAs 5 = .ok (.getfield 19, 3) := by decide +kernel
theorem dX0_sameAs_8 : decode cX0_sameAs 8 = .ok (.lcmp, 1) := by decide +kernel
theorem dX0_sameAs_9 : decode cX0_sameAs 9 = .ok (.ifCond .eq 5, 3) := by decide +kernel
theorem dX0_sameAs_12 : decode cX0_sameAs 12 = .ok (.iconst 0, 1) := by decide +kernel
theorem dX0_sameAs_13 : decode cX0_sameAs 13 = .ok (.ireturn, 1) := by decide +kernel
theorem dX0_sameAs_14 : decode cX0_sameAs 14 = .ok (.iconst 0, 1) := by decide +kernel
theorem dX0_sameAs_15 : decode cX0_sameAs 15 = .ok (.istore_n 2, 1) := by decide +kernel
theorem dX0_sameAs_16 : decode cX0_sameAs 16 = .ok (.iload_n 2, 1) := by decide +kernel
theorem dX0_sameAs_17 : decode cX0_sameAs 17 = .ok (.bipush 60, 2) := by decide +kernel
theorem dX0_sameAs_19 : decode cX0_sameAs 19 = .ok (.if_icmp .ge 28, 3) := by decide +kernel
theorem dX0_sameAs_22 : decode cX0_sameAs 22 = .ok (.aload_n 0, 1) := by decide +kernel
theorem dX0_sameAs_23 : decode cX0_sameAs 23 = .ok (.iload_n 2, 1) := by decide +kernel
theorem dX0_sameAs_24 : decode cX0_sameAs 24 = .ok (.invokevirtual 47, 3) := by decide +kernel
theorem dX0_sameAs_27 : decode cX0_sameAs 27 = .ok (.ifCond .eq 14, 3) := by decide +kernel
theorem dX0_sameAs_30 : decode cX0_sameAs 30 = .ok (.aload_n 0, 1) := by decide +kernel
theorem dX0_sameAs_31 : decode cX0_sameAs 31 = .ok (.aload_n 1, 1) := by decide +kernel
theorem dX0_sameAs_32 : decode cX0_sameAs 32 = .ok (.iload_n 2, 1) := by decide +kernel
theorem dX0_sameAs_33 : decode cX0_sameAs 33 = .ok (.invokevirtual 51, 3) := by decide +kernel
theorem dX0_sameAs_36 : decode cX0_sameAs 36 = .ok (.ifCond .le 5, 3) := by decide +kernel
theorem dX0_sameAs_39 : decode cX0_sameAs 39 = .ok (.iconst 0, 1) := by decide +kernel
theorem dX0_sameAs_40 : decode cX0_sameAs 40 = .ok (.ireturn, 1) := by decide +kernel
theorem dX0_sameAs_41 : decode cX0_sameAs 41 = .ok (.iinc 2 1, 3) := by decide +kernel
theorem dX0_sameAs_44 : decode cX0_sameAs 44 = .ok (.goto (-28), 3) := by decide +kernel
theorem dX0_sameAs_47 : decode cX0_sameAs 47 = .ok (.iconst 1, 1) := by decide +kernel
theorem dX0_sameAs_48 : decode cX0_sameAs 48 = .ok (.ireturn, 1) := by decide +kernel
theorem dX1_init_0 : decode cX1_init 0 = .ok (.aload_n 0, 1) := by decide +kernel
theorem dX1_init_1 : decode cX1_init 1 = .ok (.invokespecial 3, 3) := by decide +kernel
theorem dX1_init_4 : decode cX1_init 4 = .ok (.aload_n 0, 1) := by decide +kernel
theorem dX1_init_5 : decode cX1_init 5 = .ok (.sipush 240, 3) := by decide +kernel
theorem dX1_init_8 : decode cX1_init 8 = .ok (.newarray .int, 2) := by decide +kernel
theorem dX1_init_10 : decode cX1_init 10 = .ok (.putfield 9, 3) := by decide +kernel
theorem dX1_init_13 : decode cX1_init 13 = .ok (.return_, 1) := by decide +kernel
theorem dX1_copyFrom_0 : decode cX1_copyFrom 0 = .ok (.aload_n 0, 1) := by decide +kernel
theorem dX1_copyFrom_1 : decode cX1_copyFrom 1 = .ok (.aload_n 1, 1) := by decide +kernel
theorem dX1_copyFrom_2 : decode cX1_copyFrom 2 = .ok (.getfield 15, 3) := by decide +kernel
theorem dX1_copyFrom_5 : decode cX1_copyFrom 5 = .ok (.putfield 15, 3) := by decide +kernel
theorem dX1_copyFrom_8 : decode cX1_copyFrom 8 = .ok (.aload_n 1, 1) := by decide +kernel
theorem dX1_copyFrom_9 : decode cX1_copyFrom 9 = .ok (.getfield 9, 3) := by decide +kernel
theorem dX1_copyFrom_12 : decode cX1_copyFrom 12 = .ok (.iconst 0, 1) := by decide +kernel
theorem dX1_copyFrom_13 : decode cX1_copyFrom 13 = .ok (.aload_n 0, 1) := by decide +kernel
theorem dX1_copyFrom_14 : decode cX1_copyFrom 14 = .ok (.getfield 9, 3) := by decide +kernel
theorem dX1_copyFrom_17 : decode cX1_copyFrom 17 = .ok (.iconst 0, 1) := by decide +kernel
theorem dX1_copyFrom_18 : decode cX1_copyFrom 18 = .ok (.aload_n 0, 1) := by decide +kernel
theorem dX1_copyFrom_19 : decode cX1_copyFrom 19 = .ok (.getfield 9, 3) := by decide +kernel
theorem dX1_copyFrom_22 : decode cX1_copyFrom 22 = .ok (.arraylength, 1) := by decide +kernel
theorem dX1_copyFrom_23 : decode cX1_copyFrom 23 = .ok (.invokestatic 19, 3) := by decide +kernel
theorem dX1_copyFrom_26 : decode cX1_copyFrom 26 = .ok (.return_, 1) := by decide +kernel
theorem dX1_part_0 : decode cX1_part 0 = .ok (.aload_n 0, 1) := by decide +kernel
theorem dX1_part_1 : decode cX1_part 1 = .ok (.getfield 9, 3) := by decide +kernel
theorem dX1_part_4 : decode cX1_part 4 = .ok (.iload_n 1, 1) := by decide +kernel
theorem dX1_part_5 : decode cX1_part 5 = .ok (.bipush 6, 2) := by decide +kernel
theorem dX1_part_7 : decode cX1_part 7 = .ok (.imul, 1) := by decide +kernel
theorem dX1_part_8 : decode cX1_part 8 = .ok (.iload_n 2, 1) := by decide +kernel
theorem dX1_part_9 : decode cX1_part 9 = .ok (.iadd, 1) := by decide +kernel
theorem dX1_part_10 : decode cX1_part 10 = .ok (.iaload, 1) := by decide +kernel
theorem dX1_part_11 : decode cX1_part 11 = .ok (.ireturn, 1) := by decide +kernel
theorem dX1_drop_0 : decode cX1_drop 0 = .ok (.aload_n 0, 1) := by decide +kernel
theorem dX1_drop_1 : decode cX1_drop 1 = .ok (.getfield 15, 3) := by decide +kernel
theorem dX1_drop_4 : decode cX1_drop 4 = .ok (.iload_n 1, 1) := by decide +kernel
theorem dX1_drop_5 : decode cX1_drop 5 = .ok (.isub, 1) := by decide +kernel
theorem dX1_drop_6 : decode cX1_drop 6 = .ok (.iconst 1, 1) := by decide +kernel
theorem dX1_drop_7 : decode cX1_drop 7 = .ok (.isub, 1) := by decide +kernel
theorem dX1_drop_8 : decode cX1_drop 8 = .ok (.bipush 6, 2) := by decide +kernel
theorem dX1_drop_10 : decode cX1_drop 10 = .ok (.imul, 1) := by decide +kernel
theorem dX1_drop_11 : decode cX1_drop 11 = .ok (.istore_n 2, 1) := by decide +kernel
theorem dX1_drop_12 : decode cX1_drop 12 = .ok (.aload_n 0, 1) := by decide +kernel
theorem dX1_drop_13 : decode cX1_drop 13 = .ok (.getfield 9, 3) := by decide +kernel
theorem dX1_drop_16 : decode cX1_drop 16 = .ok (.iload_n 1, 1) := by decide +kernel
theorem dX1_drop_17 : decode cX1_drop 17 = .ok (.iconst 1, 1) := by decide +kernel
theorem dX1_drop_18 : decode cX1_drop 18 = .ok (.iadd, 1) := by decide +kernel
theorem dX1_drop_19 : decode cX1_drop 19 = .ok (.bipush 6, 2) := by decide +kernel
theorem dX1_drop_21 : decode cX1_drop 21 = .ok (.imul, 1) := by decide +kernel
theorem dX1_drop_22 : decode cX1_drop 22 = .ok (.aload_n 0, 1) := by decide +kernel
theorem dX1_drop_23 : decode cX1_drop 23 = .ok (.getfield 9, 3) := by decide +kernel
theorem dX1_drop_26 : decode cX1_drop 26 = .ok (.iload_n 1, 1) := by decide +kernel
theorem dX1_drop_27 : decode cX1_drop 27 = .ok (.bipush 6, 2) := by decide +kernel
theorem dX1_drop_29 : decode cX1_drop 29 = .ok (.imul, 1) := by decide +kernel
theorem dX1_drop_30 : decode cX1_drop 30 = .ok (.iload_n 2, 1) := by decide +kernel
theorem dX1_drop_31 : decode cX1_drop 31 = .ok (.invokestatic 19, 3) := by decide +kernel
theorem dX1_drop_34 : decode cX1_drop 34 = .ok (.aload_n 0, 1) := by decide +kernel
theorem dX1_drop_35 : decode cX1_drop 35 = .ok (.dup, 1) := by decide +kernel
theorem dX1_drop_36 : decode cX1_drop 36 = .ok (.getfield 15, 3) := by decide +kernel
theorem dX1_drop_39 : decode cX1_drop 39 = .ok (.iconst 1, 1) := by decide +kernel
theorem dX1_drop_40 : decode cX1_drop 40 = .ok (.isub, 1) := by decide +kernel
theorem dX1_drop_41 : decode cX1_drop 41 = .ok (.putfield 15, 3) := by decide +kernel
theorem dX1_drop_44 : decode cX1_drop 44 = .ok (.return_, 1) := by decide +kernel
theorem dX1_add_0 : decode cX1_add 0 = .ok (.aload_n 0, 1) := by decide +kernel
theorem dX1_add_1 : decode cX1_add 1 = .ok (.getfield 15, 3) := by decide +kernel
theorem dX1_add_4 : decode cX1_add 4 = .ok (.bipush 40, 2) := by decide +kernel
theorem dX1_add_6 : decode cX1_add 6 = .ok (.if_icmp .lt 35, 3) := by decide +kernel
theorem dX1_add_9 : decode cX1_add 9 = .ok (.aload_n 0, 1) := by decide +kernel
theorem dX1_add_10 : decode cX1_add 10 = .ok (.getfield 9, 3) := by decide +kernel
theorem dX1_add_13 : decode cX1_add 13 = .ok (.bipush 6, 2) := by decide +kernel
theorem dX1_add_15 : decode cX1_add 15 = .ok (.aload_n 0, 1) := by decide +kernel
theorem dX1_add_16 : decode cX1_add 16 = .ok (.getfield 9, 3) := by decide +kernel
theorem dX1_add_19 : decode cX1_add 19 = .ok (.iconst 0, 1) := by decide +kernel
theorem dX1_add_20 : decode cX1_add 20 = .ok (.aload_n 0, 1) := by decide +kernel
theorem dX1_add_21 : decode cX1_add 21 = .ok (.getfield 9, 3) := by decide +kernel
theorem dX1_add_24 : decode cX1_add 24 = .ok (.arraylength, 1) := by decide +kernel
theorem dX1_add_25 : decode cX1_add 25 = .ok (.bipush 6, 2) := by decide +kernel
theorem dX1_add_27 : decode cX1_add 27 = .ok (.isub, 1) := by decide +kernel
theorem dX1_add_28 : decode cX1_add 28 = .ok (.invokestatic 19, 3) := by decide +kernel
theorem dX1_add_31 : decode cX1_add 31 = .ok (.aload_n 0, 1) := by decide +kernel
theorem dX1_add_32 : decode cX1_add 32 = .ok (.dup, 1) := by decide +kernel
theorem dX1_add_33 : decode cX1_add 33 = .ok (.getfield 15, 3) := by decide +kernel
theorem dX1_add_36 : decode cX1_add 36 = .ok (.iconst 1, 1) := by decide +kernel
theorem dX1_add_37 : decode cX1_add 37 = .ok (.isub, 1) := by decide +kernel
theorem dX1_add_38 : decode cX1_add 38 = .ok (.putfield 15, 3) := by decide +kernel
theorem dX1_add_41 : decode cX1_add 41 = .ok (.aload_n 0, 1) := by decide +kernel
theorem dX1_add_42 : decode cX1_add 42 = .ok (.getfield 15, 3) := by decide +kernel
theorem dX1_add_45 : decode cX1_add 45 = .ok (.bipush 6, 2) := by decide +kernel
theorem dX1_add_47 : decode cX1_add 47 = .ok (.imul, 1) := by decide +kernel
theorem dX1_add_48 : decode cX1_add 48 = .ok (.istore 7, 2) := by decide +kernel
theorem dX1_add_50 : decode cX1_add 50 = .ok (.aload_n 0, 1) := by decide +kernel
theorem dX1_add_51 : decode cX1_add 51 = .ok (.getfield 9, 3) := by decide +kernel
theorem dX1_add_54 : decode cX1_add 54 = .ok (.iload 7, 2) := by decide +kernel
theorem dX1_add_56 : decode cX1_add 56 = .ok (.iconst 0, 1) := by decide +kernel
theorem dX1_add_57 : decode cX1_add 57 = .ok (.iadd, 1) := by decide +kernel
theorem dX1_add_58 : decode cX1_add 58 = .ok (.iload_n 1, 1) := by decide +kernel
theorem dX1_add_59 : decode cX1_add 59 = .ok (.iastore, 1) := by decide +kernel
theorem dX1_add_60 : decode cX1_add 60 = .ok (.aload_n 0, 1) := by decide +kernel
theorem dX1_add_61 : decode cX1_add 61 = .ok (.getfield 9, 3) := by decide +kernel
theorem dX1_add_64 : decode cX1_add 64 = .ok (.iload 7, 2) := by decide +kernel
theorem dX1_add_66 : decode cX1_add 66 = .ok (.iconst 1, 1) := by decide +kernel
theorem dX1_add_67 : decode cX1_add 67 = .ok (.iadd, 1) := by decide +kernel
theorem dX1_add_68 : decode cX1_add 68 = .ok (.iload_n 2, 1) := by decide +kernel
theorem dX1_add_69 : decode cX1_add 69 = .ok (.iastore, 1) := by decide +kernel
theorem dX1_add_70 : decode cX1_add 70 = .ok (.aload_n 0, 1) := by decide +kernel
theorem dX1_add_71 : decode cX1_add 71 = .ok (.getfield 9, 3) := by decide +kernel
theorem dX1_add_74 : decode cX1_add 74 = .ok (.iload 7, 2) := by decide +kernel
theorem dX1_add_76 : decode cX1_add 76 = .ok (.iconst 2, 1) := by decide +kernel
theorem dX1_add_77 : decode cX1_add 77 = .ok (.iadd, 1) := by decide +kernel
theorem dX1_add_78 : decode cX1_add 78 = .ok (.iload_n 3, 1) := by decide +kernel
theorem dX1_add_79 : decode cX1_add 79 = .ok (.iastore, 1) := by decide +kernel
theorem dX1_add_80 : decode cX1_add 80 = .ok (.aload_n 0, 1) := by decide +kernel
theorem dX1_add_81 : decode cX1_add 81 = .ok (.getfield 9, 3) := by decide +kernel
theorem dX1_add_84 : decode cX1_add 84 = .ok (.iload 7, 2) := by decide +kernel
theorem dX1_add_86 : decode cX1_add 86 = .ok (.iconst 3, 1) := by decide +kernel
theorem dX1_add_87 : decode cX1_add 87 = .ok (.iadd, 1) := by decide +kernel
theorem dX1_add_88 : decode cX1_add 88 = .ok (.iload 4, 2) := by decide +kernel
theorem dX1_add_90 : decode cX1_add 90 = .ok (.iastore, 1) := by decide +kernel
theorem dX1_add_91 : decode cX1_add 91 = .ok (.aload_n 0, 1) := by decide +kernel
theorem dX1_add_92 : decode cX1_add 92 = .ok (.getfield 9, 3) := by decide +kernel
theorem dX1_add_95 : decode cX1_add 95 = .ok (.iload 7, 2) := by decide +kernel
theorem dX1_add_97 : decode cX1_add 97 = .ok (.iconst 4, 1) := by decide +kernel
theorem dX1_add_98 : decode cX1_add 98 = .ok (.iadd, 1) := by decide +kernel
theorem dX1_add_99 : decode cX1_add 99 = .ok (.iload 5, 2) := by decide +kernel
theorem dX1_add_101 : decode cX1_add 101 = .ok (.iastore, 1) := by decide +kernel
theorem dX1_add_102 : decode cX1_add 102 = .ok (.aload_n 0, 1) := by decide +kernel
theorem dX1_add_103 : decode cX1_add 103 = .ok (.getfield 9, 3) := by decide +kernel
theorem dX1_add_106 : decode cX1_add 106 = .ok (.iload 7, 2) := by decide +kernel
theorem dX1_add_108 : decode cX1_add 108 = .ok (.iconst 5, 1) := by decide +kernel
theorem dX1_add_109 : decode cX1_add 109 = .ok (.iadd, 1) := by decide +kernel
theorem dX1_add_110 : decode cX1_add 110 = .ok (.iload 6, 2) := by decide +kernel
theorem dX1_add_112 : decode cX1_add 112 = .ok (.iastore, 1) := by decide +kernel
theorem dX1_add_113 : decode cX1_add 113 = .ok (.aload_n 0, 1) := by decide +kernel
theorem dX1_add_114 : decode cX1_add 114 = .ok (.dup, 1) := by decide +kernel
theorem dX1_add_115 : decode cX1_add 115 = .ok (.getfield 15, 3) := by decide +kernel
theorem dX1_add_118 : decode cX1_add 118 = .ok (.iconst 1, 1) := by decide +kernel
theorem dX1_add_119 : decode cX1_add 119 = .ok (.iadd, 1) := by decide +kernel
theorem dX1_add_120 : decode cX1_add 120 = .ok (.putfield 15, 3) := by decide +kernel
theorem dX1_add_123 : decode cX1_add 123 = .ok (.return_, 1) := by decide +kernel
theorem dX1_countOf_0 : decode cX1_countOf 0 = .ok (.iconst 0, 1) := by decide +kernel
theorem dX1_countOf_1 : decode cX1_countOf 1 = .ok (.istore_n 2, 1) := by decide +kernel
theorem dX1_countOf_2 : decode cX1_countOf 2 = .ok (.iconst 0, 1) := by decide +kernel
theorem dX1_countOf_3 : decode cX1_countOf 3 = .ok (.istore_n 3, 1) := by decide +kernel
theorem dX1_countOf_4 : decode cX1_countOf 4 = .ok (.iload_n 3, 1) := by decide +kernel
theorem dX1_countOf_5 : decode cX1_countOf 5 = .ok (.aload_n 0, 1) := by decide +kernel
theorem dX1_countOf_6 : decode cX1_countOf 6 = .ok (.getfield 15, 3) := by decide +kernel
theorem dX1_countOf_9 : decode cX1_countOf 9 = .ok (.if_icmp .ge 22, 3) := by decide +kernel
theorem dX1_countOf_12 : decode cX1_countOf 12 = .ok (.aload_n 0, 1) := by decide +kernel
theorem dX1_countOf_13 : decode cX1_countOf 13 = .ok (.iload_n 3, 1) := by decide +kernel
theorem dX1_countOf_14 : decode cX1_countOf 14 = .ok (.iconst 0, 1) := by decide +kernel
theorem dX1_countOf_15 : decode cX1_countOf 15 = .ok (.invokevirtual 25, 3) := by decide +kernel
theorem dX1_countOf_18 : decode cX1_countOf 18 = .ok (.iload_n 1, 1) := by decide +kernel
theorem dX1_countOf_19 : decode cX1_countOf 19 = .ok (.if_icmp .ne 6, 3) := by decide +kernel
theorem dX1_countOf_22 : decode cX1_countOf 22 = .ok (.iinc 2 1, 3) := by decide +kernel
theorem dX1_countOf_25 : decode cX1_countOf 25 = .ok (.iinc 3 1, 3) := by decide +kernel
theorem dX1_countOf_28 : decode cX1_countOf 28 = .ok (.goto (-24), 3) := by decide +kernel
theorem dX1_countOf_31 : decode cX1_countOf 31 = .ok (.iload_n 2, 1) := by decide +kernel
theorem dX1_countOf_32 : decode cX1_countOf 32 = .ok (.ireturn, 1) := by decide +kernel
theorem dX2_init_0 : decode cX2_init 0 = .ok (.aload_n 0, 1) := by decide +kernel
theorem dX2_init_1 : decode cX2_init 1 = .ok (.invokespecial 3, 3) := by decide +kernel
theorem dX2_init_4 : decode cX2_init 4 = .ok (.aload_n 0, 1) := by decide +kernel
theorem dX2_init_5 : decode cX2_init 5 = .ok (.bipush 8, 2) := by decide +kernel
theorem dX2_init_7 : decode cX2_init 7 = .ok (.anewarray 9, 3) := by decide +kernel
theorem dX2_init_10 : decode cX2_init 10 = .ok (.putfield 11, 3) := by decide +kernel
theorem dX2_init_13 : decode cX2_init 13 = .ok (.iconst 0, 1) := by decide +kernel
theorem dX2_init_14 : decode cX2_init 14 = .ok (.istore_n 1, 1) := by decide +kernel
theorem dX2_init_15 : decode cX2_init 15 = .ok (.iload_n 1, 1) := by decide +kernel
theorem dX2_init_16 : decode cX2_init 16 = .ok (.bipush 8, 2) := by decide +kernel
theorem dX2_init_18 : decode cX2_init 18 = .ok (.if_icmp .ge 22, 3) := by decide +kernel
theorem dX2_init_21 : decode cX2_init 21 = .ok (.aload_n 0, 1) := by decide +kernel
theorem dX2_init_22 : decode cX2_init 22 = .ok (.getfield 11, 3) := by decide +kernel
theorem dX2_init_25 : decode cX2_init 25 = .ok (.iload_n 1, 1) := by decide +kernel
theorem dX2_init_26 : decode cX2_init 26 = .ok (.new 9, 3) := by decide +kernel
theorem dX2_init_29 : decode cX2_init 29 = .ok (.dup, 1) := by decide +kernel
theorem dX2_init_30 : decode cX2_init 30 = .ok (.invokespecial 17, 3) := by decide +kernel
theorem dX2_init_33 : decode cX2_init 33 = .ok (.aastore, 1) := by decide +kernel
theorem dX2_init_34 : decode cX2_init 34 = .ok (.iinc 1 1, 3) := by decide +kernel
theorem dX2_init_37 : decode cX2_init 37 = .ok (.goto (-22), 3) := by decide +kernel
theorem dX2_init_40 : decode cX2_init 40 = .ok (.return_, 1) := by decide +kernel
theorem dX2_forget_0 : decode cX2_forget 0 = .ok (.aload_n 0, 1) := by decide +kernel
theorem dX2_forget_1 : decode cX2_forget 1 = .ok (.iconst 0, 1) := by decide +kernel
theorem dX2_forget_2 : decode cX2_forget 2 = .ok (.putfield 18, 3) := by decide +kernel
theorem dX2_forget_5 : decode cX2_forget 5 = .ok (.return_, 1) := by decide +kernel
theorem dX2_push_0 : decode cX2_push 0 = .ok (.aload_n 0, 1) := by decide +kernel
theorem dX2_push_1 : decode cX2_push 1 = .ok (.getfield 11, 3) := by decide +kernel
theorem dX2_push_4 : decode cX2_push 4 = .ok (.aload_n 0, 1) := by decide +kernel
theorem dX2_push_5 : decode cX2_push 5 = .ok (.getfield 22, 3) := by decide +kernel
theorem dX2_push_8 : decode cX2_push 8 = .ok (.aaload, 1) := by decide +kernel
theorem dX2_push_9 : decode cX2_push 9 = .ok (.aload_n 1, 1) := by decide +kernel
theorem dX2_push_10 : decode cX2_push 10 = .ok (.invokevirtual 25, 3) := by decide +kernel
theorem dX2_push_13 : decode cX2_push 13 = .ok (.aload_n 0, 1) := by decide +kernel
theorem dX2_push_14 : decode cX2_push 14 = .ok (.aload_n 0, 1) := by decide +kernel
theorem dX2_push_15 : decode cX2_push 15 = .ok (.getfield 22, 3) := by decide +kernel
theorem dX2_push_18 : decode cX2_push 18 = .ok (.iconst 1, 1) := by decide +kernel
theorem dX2_push_19 : decode cX2_push 19 = .ok (.iadd, 1) := by decide +kernel
theorem dX2_push_20 : decode cX2_push 20 = .ok (.bipush 8, 2) := by decide +kernel
theorem dX2_push_22 : decode cX2_push 22 = .ok (.irem, 1) := by decide +kernel
theorem dX2_push_23 : decode cX2_push 23 = .ok (.putfield 22, 3) := by decide +kernel
theorem dX2_push_26 : decode cX2_push 26 = .ok (.aload_n 0, 1) := by decide +kernel
theorem dX2_push_27 : decode cX2_push 27 = .ok (.aload_n 0, 1) := by decide +kernel
theorem dX2_push_28 : decode cX2_push 28 = .ok (.getfield 18, 3) := by decide +kernel
theorem dX2_push_31 : decode cX2_push 31 = .ok (.iconst 1, 1) := by decide +kernel
theorem dX2_push_32 : decode cX2_push 32 = .ok (.iadd, 1) := by decide +kernel
theorem dX2_push_33 : decode cX2_push 33 = .ok (.bipush 8, 2) := by decide +kernel
theorem dX2_push_35 : decode cX2_push 35 = .ok (.invokestatic 29, 3) := by decide +kernel
theorem dX2_push_38 : decode cX2_push 38 = .ok (.putfield 18, 3) := by decide +kernel
theorem dX2_push_41 : decode cX2_push 41 = .ok (.return_, 1) := by decide +kernel
theorem dX2_popInto_0 : decode cX2_popInto 0 = .ok (.aload_n 0, 1) := by decide +kernel
theorem dX2_popInto_1 : decode cX2_popInto 1 = .ok (.aload_n 0, 1) := by decide +kernel
theorem dX2_popInto_2 : decode cX2_popInto 2 = .ok (.getfield 22, 3) := by decide +kernel
theorem dX2_popInto_5 : decode cX2_popInto 5 = .ok (.bipush 8, 2) := by decide +kernel
theorem dX2_popInto_7 : decode cX2_popInto 7 = .ok (.iadd, 1) := by decide +kernel
theorem dX2_popInto_8 : decode cX2_popInto 8 = .ok (.iconst 1, 1) := by decide +kernel
theorem dX2_popInto_9 : decode cX2_popInto 9 = .ok (.isub, 1) := by decide +kernel
theorem dX2_popInto_10 : decode cX2_popInto 10 = .ok (.bipush 8, 2) := by decide +kernel
theorem dX2_popInto_12 : decode cX2_popInto 12 = .ok (.irem, 1) := by decide +kernel
theorem dX2_popInto_13 : decode cX2_popInto 13 = .ok (.putfield 22, 3) := by decide +kernel
theorem dX2_popInto_16 : decode cX2_popInto 16 = .ok (.aload_n 0, 1) := by decide +kernel
theorem dX2_popInto_17 : decode cX2_popInto 17 = .ok (.dup, 1) := by decide +kernel
theorem dX2_popInto_18 : decode cX2_popInto 18 = .ok (.getfield 18, 3) := by decide +kernel
theorem dX2_popInto_21 : decode cX2_popInto 21 = .ok (.iconst 1, 1) := by decide +kernel
theorem dX2_popInto_22 : decode cX2_popInto 22 = .ok (.isub, 1) := by decide +kernel
theorem dX2_popInto_23 : decode cX2_popInto 23 = .ok (.putfield 18, 3) := by decide +kernel
theorem dX2_popInto_26 : decode cX2_popInto 26 = .ok (.aload_n 1, 1) := by decide +kernel
theorem dX2_popInto_27 : decode cX2_popInto 27 = .ok (.aload_n 0, 1) := by decide +kernel
theorem dX2_popInto_28 : decode cX2_popInto 28 = .ok (.getfield 11, 3) := by decide +kernel
theorem dX2_popInto_31 : decode cX2_popInto 31 = .ok (.aload_n 0, 1) := by decide +kernel
theorem dX2_popInto_32 : decode cX2_popInto 32 = .ok (.getfield 22, 3) := by decide +kernel
theorem dX2_popInto_35 : decode cX2_popInto 35 = .ok (.aaload, 1) := by decide +kernel
theorem dX2_popInto_36 : decode cX2_popInto 36 = .ok (.invokevirtual 25, 3) := by decide +kernel
theorem dX2_popInto_39 : decode cX2_popInto 39 = .ok (.return_, 1) := by decide +kernel
theorem dX3_init_0 : decode cX3_init 0 = .ok (.aload_n 0, 1) := by decide +kernel
theorem dX3_init_1 : decode cX3_init 1 = .ok (.invokespecial 1, 3) := by decide +kernel
theorem dX3_init_4 : decode cX3_init 4 = .ok (.aload_n 0, 1) := by decide +kernel
theorem dX3_init_5 : decode cX3_init 5 = .ok (.new 7, 3) := by decide +kernel
theorem dX3_init_8 : decode cX3_init 8 = .ok (.dup, 1) := by decide +kernel
theorem dX3_init_9 : decode cX3_init 9 = .ok (.invokespecial 9, 3) := by decide +kernel
theorem dX3_init_12 : decode cX3_init 12 = .ok (.putfield 10, 3) := by decide +kernel
theorem dX3_init_15 : decode cX3_init 15 = .ok (.aload_n 0, 1) := by decide +kernel
theorem dX3_init_16 : decode cX3_init 16 = .ok (.new 7, 3) := by decide +kernel
theorem dX3_init_19 : decode cX3_init 19 = .ok (.dup, 1) := by decide +kernel
theorem dX3_init_20 : decode cX3_init 20 = .ok (.invokespecial 9, 3) := by decide +kernel
theorem dX3_init_23 : decode cX3_init 23 = .ok (.putfield 16, 3) := by decide +kernel
theorem dX3_init_26 : decode cX3_init 26 = .ok (.return_, 1) := by decide +kernel
theorem dX3_copyFrom_0 : decode cX3_copyFrom 0 = .ok (.aload_n 0, 1) := by decide +kernel
theorem dX3_copyFrom_1 : decode cX3_copyFrom 1 = .ok (.aload_n 1, 1) := by decide +kernel
theorem dX3_copyFrom_2 : decode cX3_copyFrom 2 = .ok (.getfield 19, 3) := by decide +kernel
theorem dX3_copyFrom_5 : decode cX3_copyFrom 5 = .ok (.putfield 19, 3) := by decide +kernel
theorem dX3_copyFrom_8 : decode cX3_copyFrom 8 = .ok (.aload_n 0, 1) := by decide +kernel
theorem dX3_copyFrom_9 : decode cX3_copyFrom 9 = .ok (.getfield 19, 3) := by decide +kernel
theorem dX3_copyFrom_12 : decode cX3_copyFrom 12 = .ok (.ifCond .ne 4, 3) := by decide +kernel
theorem dX3_copyFrom_15 : decode cX3_copyFrom 15 = .ok (.return_, 1) := by decide +kernel
theorem dX3_copyFrom_16 : decode cX3_copyFrom 16 = .ok (.aload_n 0, 1) := by decide +kernel
theorem dX3_copyFrom_17 : decode cX3_copyFrom 17 = .ok (.aload_n 1, 1) := by decide +kernel
theorem dX3_copyFrom_18 : decode cX3_copyFrom 18 = .ok (.getfield 23, 3) := by decide +kernel
theorem dX3_copyFrom_21 : decode cX3_copyFrom 21 = .ok (.putfield 23, 3) := by decide +kernel
theorem dX3_copyFrom_24 : decode cX3_copyFrom 24 = .ok (.aload_n 0, 1) := by decide +kernel
theorem dX3_copyFrom_25 : decode cX3_copyFrom 25 = .ok (.aload_n 1, 1) := by decide +kernel
theorem dX3_copyFrom_26 : decode cX3_copyFrom 26 = .ok (.getfield 27, 3) := by decide +kernel
theorem dX3_copyFrom_29 : decode cX3_copyFrom 29 = .ok (.putfield 27, 3) := by decide +kernel
theorem dX3_copyFrom_32 : decode cX3_copyFrom 32 = .ok (.aload_n 0, 1) := by decide +kernel
theorem dX3_copyFrom_33 : decode cX3_copyFrom 33 = .ok (.aload_n 1, 1) := by decide +kernel
theorem dX3_copyFrom_34 : decode cX3_copyFrom 34 = .ok (.getfield 30, 3) := by decide +kernel
theorem dX3_copyFrom_37 : decode cX3_copyFrom 37 = .ok (.putfield 30, 3) := by decide +kernel
theorem dX3_copyFrom_40 : decode cX3_copyFrom 40 = .ok (.aload_n 0, 1) := by decide +kernel
theorem dX3_copyFrom_41 : decode cX3_copyFrom 41 = .ok (.aload_n 1, 1) := by decide +kernel
theorem dX3_copyFrom_42 : decode cX3_copyFrom 42 = .ok (.getfield 33, 3) := by decide +kernel
theorem dX3_copyFrom_45 : decode cX3_copyFrom 45 = .ok (.putfield 33, 3) := by decide +kernel
theorem dX3_copyFrom_48 : decode cX3_copyFrom 48 = .ok (.aload_n 0, 1) := by decide +kernel
theorem dX3_copyFrom_49 : decode cX3_copyFrom 49 = .ok (.getfield 10, 3) := by decide +kernel
theorem dX3_copyFrom_52 : decode cX3_copyFrom 52 = .ok (.aload_n 1, 1) := by decide +kernel
theorem dX3_copyFrom_53 : decode cX3_copyFrom 53 = .ok (.getfield 10, 3) := by decide +kernel
theorem dX3_copyFrom_56 : decode cX3_copyFrom 56 = .ok (.invokevirtual 37, 3) := by decide +kernel
theorem dX3_copyFrom_59 : decode cX3_copyFrom 59 = .ok (.aload_n 0, 1) := by decide +kernel
theorem dX3_copyFrom_60 : decode cX3_copyFrom 60 = .ok (.getfield 16, 3) := by decide +kernel
theorem dX3_copyFrom_63 : decode cX3_copyFrom 63 = .ok (.aload_n 1, 1) := by decide +kernel
theorem dX3_copyFrom_64 : decode cX3_copyFrom 64 = .ok (.getfield 16, 3) := by decide +kernel
theorem dX3_copyFrom_67 : decode cX3_copyFrom 67 = .ok (.invokevirtual 37, 3) := by decide +kernel
theorem dX3_copyFrom_70 : decode cX3_copyFrom 70 = .ok (.return_, 1) := by decide +kernel
theorem dX3_changedFields_0 : decode cX3_changedFields 0 = .ok (.aload_n 0, 1) := by decide +kernel
theorem dX3_changedFields_1 : decode cX3_changedFields 1 = .ok (.getfield 10, 3) := by decide +kernel
theorem dX3_changedFields_4 : decode cX3_changedFields 4 = .ok (.iload_n 1, 1) := by decide +kernel
theorem dX3_changedFields_5 : decode cX3_changedFields 5 = .ok (.invokevirtual 41, 3) := by decide +kernel
theorem dX3_changedFields_8 : decode cX3_changedFields 8 = .ok (.ifCond .eq 29, 3) := by decide +kernel
theorem dX3_changedFields_11 : decode cX3_changedFields 11 = .ok (.aload_n 0, 1) := by decide +kernel
theorem dX3_changedFields_12 : decode cX3_changedFields 12 = .ok (.getfield 16, 3) := by decide +kernel
theorem dX3_changedFields_15 : decode cX3_changedFields 15 = .ok (.iload_n 1, 1) := by decide +kernel
theorem dX3_changedFields_16 : decode cX3_changedFields 16 = .ok (.invokevirtual 41, 3) := by decide +kernel
theorem dX3_changedFields_19 : decode cX3_changedFields 19 = .ok (.ifCond .eq 18, 3) := by decide +kernel
theorem dX3_changedFields_22 : decode cX3_changedFields 22 = .ok (.aload_n 0, 1) := by decide +kernel
theorem dX3_changedFields_23 : decode cX3_changedFields 23 = .ok (.getfield 16, 3) := by decide +kernel
theorem dX3_changedFields_26 : decode cX3_changedFields 26 = .ok (.aload_n 0, 1) := by decide +kernel
theorem dX3_changedFields_27 : decode cX3_changedFields 27 = .ok (.getfield 10, 3) := by decide +kernel
theorem dX3_changedFields_30 : decode cX3_changedFields 30 = .ok (.iload_n 1, 1) := by decide +kernel
theorem dX3_changedFields_31 : decode cX3_changedFields 31 = .ok (.invokevirtual 45, 3) := by decide +kernel
theorem dX3_changedFields_34 : decode cX3_changedFields 34 = .ok (.goto 4, 3) := by decide +kernel
theorem dX3_changedFields_37 : decode cX3_changedFields 37 = .ok (.iconst 0, 1) := by decide +kernel
theorem dX3_changedFields_38 : decode cX3_changedFields 38 = .ok (.ireturn, 1) := by decide +kernel
theorem dX4_init_0 : decode cX4_init 0 = .ok (.aload_n 0, 1) := by decide +kernel
theorem dX4_init_1 : decode cX4_init 1 = .ok (.invokespecial 3, 3) := by decide +kernel
theorem dX4_init_4 : decode cX4_init 4 = .ok (.aload_n 0, 1) := by decide +kernel
theorem dX4_init_5 : decode cX4_init 5 = .ok (.bipush 60, 2) := by decide +kernel
theorem dX4_init_7 : decode cX4_init 7 = .ok (.newarray .int, 2) := by decide +kernel
theorem dX4_init_9 : decode cX4_init 9 = .ok (.putfield 9, 3) := by decide +kernel
theorem dX4_init_12 : decode cX4_init 12 = .ok (.aload_n 0, 1) := by decide +kernel
theorem dX4_init_13 : decode cX4_init 13 = .ok (.bipush 60, 2) := by decide +kernel
theorem dX4_init_15 : decode cX4_init 15 = .ok (.newarray .int, 2) := by decide +kernel
theorem dX4_init_17 : decode cX4_init 17 = .ok (.putfield 15, 3) := by decide +kernel
theorem dX4_init_20 : decode cX4_init 20 = .ok (.aload_n 0, 1) := by decide +kernel
theorem dX4_init_21 : decode cX4_init 21 = .ok (.bipush 60, 2) := by decide +kernel
theorem dX4_init_23 : decode cX4_init 23 = .ok (.newarray .long, 2) := by decide +kernel
theorem dX4_init_25 : decode cX4_init 25 = .ok (.putfield 18, 3) := by decide +kernel
theorem dX4_init_28 : decode cX4_init 28 = .ok (.return_, 1) := by decide +kernel
theorem dX4_reset_0 : decode cX4_reset 0 = .ok (.aload_n 0, 1) := by decide +kernel
theorem dX4_reset_1 : decode cX4_reset 1 = .ok (.iconst 1, 1) := by decide +kernel
theorem dX4_reset_2 : decode cX4_reset 2 = .ok (.putfield 22, 3) := by decide +kernel
theorem dX4_reset_5 : decode cX4_reset 5 = .ok (.aload_n 0, 1) := by decide +kernel
theorem dX4_reset_6 : decode cX4_reset 6 = .ok (.lconst 0, 1) := by decide +kernel
theorem dX4_reset_7 : decode cX4_reset 7 = .ok (.putfield 26, 3) := by decide +kernel
theorem dX4_reset_10 : decode cX4_reset 10 = .ok (.aload_n 0, 1) := by decide +kernel
theorem dX4_reset_11 : decode cX4_reset 11 = .ok (.getfield 9, 3) := by decide +kernel
theorem dX4_reset_14 : decode cX4_reset 14 = .ok (.iconst 0, 1) := by decide +kernel
theorem dX4_reset_15 : decode cX4_reset 15 = .ok (.iconst (-1), 1) := by decide +kernel
theorem dX4_reset_16 : decode cX4_reset 16 = .ok (.iastore, 1) := by decide +kernel
theorem dX4_reset_17 : decode cX4_reset 17 = .ok (.aload_n 0, 1) := by decide +kernel
theorem dX4_reset_18 : decode cX4_reset 18 = .ok (.getfield 15, 3) := by decide +kernel
theorem dX4_reset_21 : decode cX4_reset 21 = .ok (.iconst 0, 1) := by decide +kernel
theorem dX4_reset_22 : decode cX4_reset 22 = .ok (.iconst (-1), 1) := by decide +kernel
theorem dX4_reset_23 : decode cX4_reset 23 = .ok (.iastore, 1) := by decide +kernel
theorem dX4_reset_24 : decode cX4_reset 24 = .ok (.aload_n 0, 1) := by decide +kernel
theorem dX4_reset_25 : decode cX4_reset 25 = .ok (.getfield 18, 3) := by decide +kernel
theorem dX4_reset_28 : decode cX4_reset 28 = .ok (.iconst 0, 1) := by decide +kernel
theorem dX4_reset_29 : decode cX4_reset 29 = .ok (.iconst 0, 1) := by decide +kernel
theorem dX4_reset_30 : decode cX4_reset 30 = .ok (.invokestatic 30, 3) := by decide +kernel
theorem dX4_reset_33 : decode cX4_reset 33 = .ok (.lastore, 1) := by decide +kernel
theorem dX4_reset_34 : decode cX4_reset 34 = .ok (.return_, 1) := by decide +kernel
theorem dX4_copyFrom_0 : decode cX4_copyFrom 0 = .ok (.aload_n 0, 1) := by decide +kernel
theorem dX4_copyFrom_1 : decode cX4_copyFrom 1 = .ok (.aload_n 1, 1) := by decide +kernel
theorem dX4_copyFrom_2 : decode cX4_copyFrom 2 = .ok (.getfield 22, 3) := by decide +kernel
theorem dX4_copyFrom_5 : decode cX4_copyFrom 5 = .ok (.putfield 22, 3) := by decide +kernel
theorem dX4_copyFrom_8 : decode cX4_copyFrom 8 = .ok (.aload_n 0, 1) := by decide +kernel
theorem dX4_copyFrom_9 : decode cX4_copyFrom 9 = .ok (.aload_n 1, 1) := by decide +kernel
theorem dX4_copyFrom_10 : decode cX4_copyFrom 10 = .ok (.getfield 26, 3) := by decide +kernel
theorem dX4_copyFrom_13 : decode cX4_copyFrom 13 = .ok (.putfield 26, 3) := by decide +kernel
theorem dX4_copyFrom_16 : decode cX4_copyFrom 16 = .ok (.aload_n 1, 1) := by decide +kernel
theorem dX4_copyFrom_17 : decode cX4_copyFrom 17 = .ok (.getfield 9, 3) := by decide +kernel
theorem dX4_copyFrom_20 : decode cX4_copyFrom 20 = .ok (.iconst 0, 1) := by decide +kernel
theorem dX4_copyFrom_21 : decode cX4_copyFrom 21 = .ok (.aload_n 0, 1) := by decide +kernel
theorem dX4_copyFrom_22 : decode cX4_copyFrom 22 = .ok (.getfield 9, 3) := by decide +kernel
theorem dX4_copyFrom_25 : decode cX4_copyFrom 25 = .ok (.iconst 0, 1) := by decide +kernel
theorem dX4_copyFrom_26 : decode cX4_copyFrom 26 = .ok (.bipush 60, 2) := by decide +kernel
theorem dX4_copyFrom_28 : decode cX4_copyFrom 28 = .ok (.invokestatic 34, 3) := by decide +kernel
theorem dX4_copyFrom_31 : decode cX4_copyFrom 31 = .ok (.aload_n 1, 1) := by decide +kernel
theorem dX4_copyFrom_32 : decode cX4_copyFrom 32 = .ok (.getfield 15, 3) := by decide +kernel
theorem dX4_copyFrom_35 : decode cX4_copyFrom 35 = .ok (.iconst 0, 1) := by decide +kernel
theorem dX4_copyFrom_36 : decode cX4_copyFrom 36 = .ok (.aload_n 0, 1) := by decide +kernel
theorem dX4_copyFrom_37 : decode cX4_copyFrom 37 = .ok (.getfield 15, 3) := by decide +kernel
theorem dX4_copyFrom_40 : decode cX4_copyFrom 40 = .ok (.iconst 0, 1) := by decide +kernel
theorem dX4_copyFrom_41 : decode cX4_copyFrom 41 = .ok (.bipush 60, 2) := by decide +kernel
theorem dX4_copyFrom_43 : decode cX4_copyFrom 43 = .ok (.invokestatic 34, 3) := by decide +kernel
theorem dX4_copyFrom_46 : decode cX4_copyFrom 46 = .ok (.aload_n 1, 1) := by decide +kernel
theorem dX4_copyFrom_47 : decode cX4_copyFrom 47 = .ok (.getfield 18, 3) := by decide +kernel
theorem dX4_copyFrom_50 : decode cX4_copyFrom 50 = .ok (.iconst 0, 1) := by decide +kernel
theorem dX4_copyFrom_51 : decode cX4_copyFrom 51 = .ok (.aload_n 0, 1) := by decide +kernel
theorem dX4_copyFrom_52 : decode cX4_copyFrom 52 = .ok (.getfield 18, 3) := by decide +kernel
theorem dX4_copyFrom_55 : decode cX4_copyFrom 55 = .ok (.iconst 0, 1) := by decide +kernel
theorem dX4_copyFrom_56 : decode cX4_copyFrom 56 = .ok (.bipush 60, 2) := by decide +kernel
theorem dX4_copyFrom_58 : decode cX4_copyFrom 58 = .ok (.invokestatic 34, 3) := by decide +kernel
theorem dX4_copyFrom_61 : decode cX4_copyFrom 61 = .ok (.return_, 1) := by decide +kernel
theorem dX4_addNext_0 : decode cX4_addNext 0 = .ok (.aload_n 0, 1) := by decide +kernel
theorem dX4_addNext_1 : decode cX4_addNext 1 = .ok (.getfield 22, 3) := by decide +kernel
theorem dX4_addNext_4 : decode cX4_addNext 4 = .ok (.istore 4, 2) := by decide +kernel
theorem dX4_addNext_6 : decode cX4_addNext 6 = .ok (.aload_n 0, 1) := by decide +kernel
theorem dX4_addNext_7 : decode cX4_addNext 7 = .ok (.getfield 9, 3) := by decide +kernel
theorem dX4_addNext_10 : decode cX4_addNext 10 = .ok (.iload 4, 2) := by decide +kernel
theorem dX4_addNext_12 : decode cX4_addNext 12 = .ok (.iload_n 1, 1) := by decide +kernel
theorem dX4_addNext_13 : decode cX4_addNext 13 = .ok (.iastore, 1) := by decide +kernel
theorem dX4_addNext_14 : decode cX4_addNext 14 = .ok (.aload_n 0, 1) := by decide +kernel
theorem dX4_addNext_15 : decode cX4_addNext 15 = .ok (.getfield 15, 3) := by decide +kernel
theorem dX4_addNext_18 : decode cX4_addNext 18 = .ok (.iload 4, 2) := by decide +kernel
theorem dX4_addNext_20 : decode cX4_addNext 20 = .ok (.iload_n 2, 1) := by decide +kernel
theorem dX4_addNext_21 : decode cX4_addNext 21 = .ok (.iastore, 1) := by decide +kernel
theorem dX4_addNext_22 : decode cX4_addNext 22 = .ok (.aload_n 0, 1) := by decide +kernel
theorem dX4_addNext_23 : decode cX4_addNext 23 = .ok (.getfield 18, 3) := by decide +kernel
theorem dX4_addNext_26 : decode cX4_addNext 26 = .ok (.iload 4, 2) := by decide +kernel
theorem dX4_addNext_28 : decode cX4_addNext 28 = .ok (.aload_n 0, 1) := by decide +kernel
theorem dX4_addNext_29 : decode cX4_addNext 29 = .ok (.getfield 18, 3) := by decide +kernel
theorem dX4_addNext_32 : decode cX4_addNext 32 = .ok (.iload_n 1, 1) := by decide +kernel
theorem dX4_addNext_33 : decode cX4_addNext 33 = .ok (.laload, 1) := by decide +kernel
theorem dX4_addNext_34 : decode cX4_addNext 34 = .ok (.iload 4, 2) := by decide +kernel
theorem dX4_addNext_36 : decode cX4_addNext 36 = .ok (.invokestatic 30, 3) := by decide +kernel
theorem dX4_addNext_39 : decode cX4_addNext 39 = .ok (.lor, 1) := by decide +kernel
theorem dX4_addNext_40 : decode cX4_addNext 40 = .ok (.lastore, 1) := by decide +kernel
theorem dX4_addNext_41 : decode cX4_addNext 41 = .ok (.iload_n 3, 1) := by decide +kernel
theorem dX4_addNext_42 : decode cX4_addNext 42 = .ok (.ifCond .eq 17, 3) := by decide +kernel
theorem dX4_addNext_45 : decode cX4_addNext 45 = .ok (.aload_n 0, 1) := by decide +kernel
theorem dX4_addNext_46 : decode cX4_addNext 46 = .ok (.dup, 1) := by decide +kernel
theorem dX4_addNext_47 : decode cX4_addNext 47 = .ok (.getfield 26, 3) := by decide +kernel
theorem dX4_addNext_50 : decode cX4_addNext 50 = .ok (.iload 4, 2) := by decide +kernel
theorem dX4_addNext_52 : decode cX4_addNext 52 = .ok (.invokestatic 30, 3) := by decide +kernel
theorem dX4_addNext_55 : decode cX4_addNext 55 = .ok (.lor, 1) := by decide +kernel
theorem dX4_addNext_56 : decode cX4_addNext 56 = .ok (.putfield 26, 3) := by decide +kernel
theorem dX4_addNext_59 : decode cX4_addNext 59 = .ok (.aload_n 0, 1) := by decide +kernel
theorem dX4_addNext_60 : decode cX4_addNext 60 = .ok (.dup, 1) := by decide +kernel
theorem dX4_addNext_61 : decode cX4_addNext 61 = .ok (.getfield 22, 3) := by decide +kernel
theorem dX4_addNext_64 : decode cX4_addNext 64 = .ok (.iconst 1, 1) := by decide +kernel
theorem dX4_addNext_65 : decode cX4_addNext 65 = .ok (.iadd, 1) := by decide +kernel
theorem dX4_addNext_66 : decode cX4_addNext 66 = .ok (.putfield 22, 3) := by decide +kernel
theorem dX4_addNext_69 : decode cX4_addNext 69 = .ok (.iload 4, 2) := by decide +kernel
theorem dX4_addNext_71 : decode cX4_addNext 71 = .ok (.ireturn, 1) := by decide +kernel
theorem dX4_touch_0 : decode cX4_touch 0 = .ok (.aload_n 0, 1) := by decide +kernel
theorem dX4_touch_1 : decode cX4_touch 1 = .ok (.getfield 18, 3) := by decide +kernel
theorem dX4_touch_4 : decode cX4_touch 4 = .ok (.iload_n 1, 1) := by decide +kernel
theorem dX4_touch_5 : decode cX4_touch 5 = .ok (.laload, 1) := by decide +kernel
theorem dX4_touch_6 : decode cX4_touch 6 = .ok (.iload_n 2, 1) := by decide +kernel
theorem dX4_touch_7 : decode cX4_touch 7 = .ok (.invokestatic 40, 3) := by decide +kernel
theorem dX4_touch_10 : decode cX4_touch 10 = .ok (.ifCond .ne 16, 3) := by decide +kernel
theorem dX4_touch_13 : decode cX4_touch 13 = .ok (.aload_n 0, 1) := by decide +kernel
theorem dX4_touch_14 : decode cX4_touch 14 = .ok (.getfield 18, 3) := by decide +kernel
theorem dX4_touch_17 : decode cX4_touch 17 = .ok (.iload_n 2, 1) := by decide +kernel
theorem dX4_touch_18 : decode cX4_touch 18 = .ok (.laload, 1) := by decide +kernel
theorem dX4_touch_19 : decode cX4_touch 19 = .ok (.iload_n 1, 1) := by decide +kernel
theorem dX4_touch_20 : decode cX4_touch 20 = .ok (.invokestatic 40, 3) := by decide +kernel
theorem dX4_touch_23 : decode cX4_touch 23 = .ok (.ifCond .eq 7, 3) := by decide +kernel
theorem dX4_touch_26 : decode cX4_touch 26 = .ok (.iconst 1, 1) := by decide +kernel
theorem dX4_touch_27 : decode cX4_touch 27 = .ok (.goto 4, 3) := by decide +kernel
theorem dX4_touch_30 : decode cX4_touch 30 = .ok (.iconst 0, 1) := by decide +kernel
theorem dX4_touch_31 : decode cX4_touch 31 = .ok (.ireturn, 1) := by decide +kernel
theorem dX4_atOrBelow_0 : decode cX4_atOrBelow 0 = .ok (.lconst 0, 1) := by decide +kernel
theorem dX4_atOrBelow_1 : decode cX4_atOrBelow 1 = .ok (.lstore_n 2, 1) := by decide +kernel
theorem dX4_atOrBelow_2 : decode cX4_atOrBelow 2 = .ok (.iconst 0, 1) := by decide +kernel
theorem dX4_atOrBelow_3 : decode cX4_atOrBelow 3 = .ok (.istore 4, 2) := by decide +kernel
theorem dX4_atOrBelow_5 : decode cX4_atOrBelow 5 = .ok (.iload 4, 2) := by decide +kernel
theorem dX4_atOrBelow_7 : decode cX4_atOrBelow 7 = .ok (.aload_n 0, 1) := by decide +kernel
theorem dX4_atOrBelow_8 : decode cX4_atOrBelow 8 = .ok (.getfield 22, 3) := by decide +kernel
theorem dX4_atOrBelow_11 : decode cX4_atOrBelow 11 = .ok (.if_icmp .ge 31, 3) := by decide +kernel
theorem dX4_atOrBelow_14 : decode cX4_atOrBelow 14 = .ok (.aload_n 0, 1) := by decide +kernel
theorem dX4_atOrBelow_15 : decode cX4_atOrBelow 15 = .ok (.getfield 18, 3) := by decide +kernel
theorem dX4_atOrBelow_18 : decode cX4_atOrBelow 18 = .ok (.iload 4, 2) := by decide +kernel
theorem dX4_atOrBelow_20 : decode cX4_atOrBelow 20 = .ok (.laload, 1) := by decide +kernel
theorem dX4_atOrBelow_21 : decode cX4_atOrBelow 21 = .ok (.iload_n 1, 1) := by decide +kernel
theorem dX4_atOrBelow_22 : decode cX4_atOrBelow 22 = .ok (.invokestatic 40, 3) := by decide +kernel
theorem dX4_atOrBelow_25 : decode cX4_atOrBelow 25 = .ok (.ifCond .eq 11, 3) := by decide +kernel
theorem dX4_atOrBelow_28 : decode cX4_atOrBelow 28 = .ok (.lload_n 2, 1) := by decide +kernel
theorem dX4_atOrBelow_29 : decode cX4_atOrBelow 29 = .ok (.iload 4, 2) := by decide +kernel
theorem dX4_atOrBelow_31 : decode cX4_atOrBelow 31 = .ok (.invokestatic 30, 3) := by decide +kernel
theorem dX4_atOrBelow_34 : decode cX4_atOrBelow 34 = .ok (.lor, 1) := by decide +kernel
theorem dX4_atOrBelow_35 : decode cX4_atOrBelow 35 = .ok (.lstore_n 2, 1) := by decide +kernel
theorem dX4_atOrBelow_36 : decode cX4_atOrBelow 36 = .ok (.iinc 4 1, 3) := by decide +kernel
theorem dX4_atOrBelow_39 : decode cX4_atOrBelow 39 = .ok (.goto (-34), 3) := by decide +kernel
theorem dX4_atOrBelow_42 : decode cX4_atOrBelow 42 = .ok (.lload_n 2, 1) := by decide +kernel
theorem dX4_atOrBelow_43 : decode cX4_atOrBelow 43 = .ok (.lreturn, 1) := by decide +kernel
theorem dX4_countBelow_0 : decode cX4_countBelow 0 = .ok (.lload_n 1, 1) := by decide +kernel
theorem dX4_countBelow_1 : decode cX4_countBelow 1 = .ok (.aload_n 0, 1) := by decide +kernel
theorem dX4_countBelow_2 : decode cX4_countBelow 2 = .ok (.iload_n 3, 1) := by decide +kernel
theorem dX4_countBelow_3 : decode cX4_countBelow 3 = .ok (.invokevirtual 44, 3) := by decide +kernel
theorem dX4_countBelow_6 : decode cX4_countBelow 6 = .ok (.land, 1) := by decide +kernel
theorem dX4_countBelow_7 : decode cX4_countBelow 7 = .ok (.invokestatic 47, 3) := by decide +kernel
theorem dX4_countBelow_10 : decode cX4_countBelow 10 = .ok (.ireturn, 1) := by decide +kernel
theorem dX4_countChildren_0 : decode cX4_countChildren 0 = .ok (.iconst 0, 1) := by decide +kernel
theorem dX4_countChildren_1 : decode cX4_countChildren 1 = .ok (.istore 4, 2) := by decide +kernel
theorem dX4_countChildren_3 : decode cX4_countChildren 3 = .ok (.iconst 0, 1) := by decide +kernel
theorem dX4_countChildren_4 : decode cX4_countChildren 4 = .ok (.istore 5, 2) := by decide +kernel
theorem dX4_countChildren_6 : decode cX4_countChildren 6 = .ok (.iload 5, 2) := by decide +kernel
theorem dX4_countChildren_8 : decode cX4_countChildren 8 = .ok (.aload_n 0, 1) := by decide +kernel
theorem dX4_countChildren_9 : decode cX4_countChildren 9 = .ok (.getfield 22, 3) := by decide +kernel
theorem dX4_countChildren_12 : decode cX4_countChildren 12 = .ok (.if_icmp .ge 32, 3) := by decide +kernel
theorem dX4_countChildren_15 : decode cX4_countChildren 15 = .ok (.aload_n 0, 1) := by decide +kernel
theorem dX4_countChildren_16 : decode cX4_countChildren 16 = .ok (.getfield 9, 3) := by decide +kernel
theorem dX4_countChildren_19 : decode cX4_countChildren 19 = .ok (.iload 5, 2) := by decide +kernel
theorem dX4_countChildren_21 : decode cX4_countChildren 21 = .ok (.iaload, 1) := by decide +kernel
theorem dX4_countChildren_22 : decode cX4_countChildren 22 = .ok (.iload_n 3, 1) := by decide +kernel
theorem dX4_countChildren_23 : decode cX4_countChildren 23 = .ok (.if_icmp .ne 15, 3) := by decide +kernel
theorem dX4_countChildren_26 : decode cX4_countChildren 26 = .ok (.lload_n 1, 1) := by decide +kernel
theorem dX4_countChildren_27 : decode cX4_countChildren 27 = .ok (.iload 5, 2) := by decide +kernel
theorem dX4_countChildren_29 : decode cX4_countChildren 29 = .ok (.invokestatic 40, 3) := by decide +kernel
theorem dX4_countChildren_32 : decode cX4_countChildren 32 = .ok (.ifCond .eq 6, 3) := by decide +kernel
theorem dX4_countChildren_35 : decode cX4_countChildren 35 = .ok (.iinc 4 1, 3) := by decide +kernel
theorem dX4_countChildren_38 : decode cX4_countChildren 38 = .ok (.iinc 5 1, 3) := by decide +kernel
theorem dX4_countChildren_41 : decode cX4_countChildren 41 = .ok (.goto (-35), 3) := by decide +kernel
theorem dX4_countChildren_44 : decode cX4_countChildren 44 = .ok (.iload 4, 2) := by decide +kernel
theorem dX4_countChildren_46 : decode cX4_countChildren 46 = .ok (.ireturn, 1) := by decide +kernel
theorem dX4_childWith_0 : decode cX4_childWith 0 = .ok (.iconst 0, 1) := by decide +kernel
theorem dX4_childWith_1 : decode cX4_childWith 1 = .ok (.istore 5, 2) := by decide +kernel
theorem dX4_childWith_3 : decode cX4_childWith 3 = .ok (.iload 5, 2) := by decide +kernel
theorem dX4_childWith_5 : decode cX4_childWith 5 = .ok (.aload_n 0, 1) := by decide +kernel
theorem dX4_childWith_6 : decode cX4_childWith 6 = .ok (.getfield 22, 3) := by decide +kernel
theorem dX4_childWith_9 : decode cX4_childWith 9 = .ok (.if_icmp .ge 44, 3) := by decide +kernel
theorem dX4_childWith_12 : decode cX4_childWith 12 = .ok (.aload_n 0, 1) := by decide +kernel
theorem dX4_childWith_13 : decode cX4_childWith 13 = .ok (.getfield 9, 3) := by decide +kernel
theorem dX4_childWith_16 : decode cX4_childWith 16 = .ok (.iload 5, 2) := by decide +kernel
theorem dX4_childWith_18 : decode cX4_childWith 18 = .ok (.iaload, 1) := by decide +kernel
theorem dX4_childWith_19 : decode cX4_childWith 19 = .ok (.iload_n 3, 1) := by decide +kernel
theorem dX4_childWith_20 : decode cX4_childWith 20 = .ok (.if_icmp .ne 27, 3) := by decide +kernel
theorem dX4_childWith_23 : decode cX4_childWith 23 = .ok (.aload_n 0, 1) := by decide +kernel
theorem dX4_childWith_24 : decode cX4_childWith 24 = .ok (.getfield 15, 3) := by decide +kernel
theorem dX4_childWith_27 : decode cX4_childWith 27 = .ok (.iload 5, 2) := by decide +kernel
theorem dX4_childWith_29 : decode cX4_childWith 29 = .ok (.iaload, 1) := by decide +kernel
theorem dX4_childWith_30 : decode cX4_childWith 30 = .ok (.iload 4, 2) := by decide +kernel
theorem dX4_childWith_32 : decode cX4_childWith 32 = .ok (.if_icmp .ne 15, 3) := by decide +kernel
theorem dX4_childWith_35 : decode cX4_childWith 35 = .ok (.lload_n 1, 1) := by decide +kernel
theorem dX4_childWith_36 : decode cX4_childWith 36 = .ok (.iload 5, 2) := by decide +kernel
theorem dX4_childWith_38 : decode cX4_childWith 38 = .ok (.invokestatic 40, 3) := by decide +kernel
theorem dX4_childWith_41 : decode cX4_childWith 41 = .ok (.ifCond .eq 6, 3) := by decide +kernel
theorem dX4_childWith_44 : decode cX4_childWith 44 = .ok (.iload 5, 2) := by decide +kernel
theorem dX4_childWith_46 : decode cX4_childWith 46 = .ok (.ireturn, 1) := by decide +kernel
theorem dX4_childWith_47 : decode cX4_childWith 47 = .ok (.iinc 5 1, 3) := by decide +kernel
theorem dX4_childWith_50 : decode cX4_childWith 50 = .ok (.goto (-47), 3) := by decide +kernel
theorem dX4_childWith_53 : decode cX4_childWith 53 = .ok (.iconst (-1), 1) := by decide +kernel
theorem dX4_childWith_54 : decode cX4_childWith 54 = .ok (.ireturn, 1) := by decide +kernel
theorem dX4_nextChild_0 : decode cX4_nextChild 0 = .ok (.iconst (-1), 1) := by decide +kernel
theorem dX4_nextChild_1 : decode cX4_nextChild 1 = .ok (.istore 5, 2) := by decide +kernel
theorem dX4_nextChild_3 : decode cX4_nextChild 3 = .ok (.iconst 0, 1) := by decide +kernel
theorem dX4_nextChild_4 : decode cX4_nextChild 4 = .ok (.istore 6, 2) := by decide +kernel
theorem dX4_nextChild_6 : decode cX4_nextChild 6 = .ok (.iload 6, 2) := by decide +kernel
theorem dX4_nextChild_8 : decode cX4_nextChild 8 = .ok (.aload_n 0, 1) := by decide +kernel
theorem dX4_nextChild_9 : decode cX4_nextChild 9 = .ok (.getfield 22, 3) := by decide +kernel
theorem dX4_nextChild_12 : decode cX4_nextChild 12 = .ok (.if_icmp .ge 68, 3) := by decide +kernel
theorem dX4_nextChild_15 : decode cX4_nextChild 15 = .ok (.aload_n 0, 1) := by decide +kernel
theorem dX4_nextChild_16 : decode cX4_nextChild 16 = .ok (.getfield 9, 3) := by decide +kernel
theorem dX4_nextChild_19 : decode cX4_nextChild 19 = .ok (.iload 6, 2) := by decide +kernel
theorem dX4_nextChild_21 : decode cX4_nextChild 21 = .ok (.iaload, 1) := by decide +kernel
theorem dX4_nextChild_22 : decode cX4_nextChild 22 = .ok (.iload_n 3, 1) := by decide +kernel
theorem dX4_nextChild_23 : decode cX4_nextChild 23 = .ok (.if_icmp .ne 51, 3) := by decide +kernel
theorem dX4_nextChild_26 : decode cX4_nextChild 26 = .ok (.lload_n 1, 1) := by decide +kernel
theorem dX4_nextChild_27 : decode cX4_nextChild 27 = .ok (.iload 6, 2) := by decide +kernel
theorem dX4_nextChild_29 : decode cX4_nextChild 29 = .ok (.invokestatic 40, 3) := by decide +kernel
theorem dX4_nextChild_32 : decode cX4_nextChild 32 = .ok (.ifCond .eq 42, 3) := by decide +kernel
theorem dX4_nextChild_35 : decode cX4_nextChild 35 = .ok (.aload_n 0, 1) := by decide +kernel
theorem dX4_nextChild_36 : decode cX4_nextChild 36 = .ok (.getfield 15, 3) := by decide +kernel
theorem dX4_nextChild_39 : decode cX4_nextChild 39 = .ok (.iload 6, 2) := by decide +kernel
theorem dX4_nextChild_41 : decode cX4_nextChild 41 = .ok (.iaload, 1) := by decide +kernel
theorem dX4_nextChild_42 : decode cX4_nextChild 42 = .ok (.iload 4, 2) := by decide +kernel
theorem dX4_nextChild_44 : decode cX4_nextChild 44 = .ok (.if_icmp .le 30, 3) := by decide +kernel
theorem dX4_nextChild_47 : decode cX4_nextChild 47 = .ok (.iload 5, 2) := by decide +kernel
theorem dX4_nextChild_49 : decode cX4_nextChild 49 = .ok (.iconst (-1), 1) := by decide +kernel
theorem dX4_nextChild_50 : decode cX4_nextChild 50 = .ok (.if_icmp .eq 20, 3) := by decide +kernel
theorem dX4_nextChild_53 : decode cX4_nextChild 53 = .ok (.aload_n 0, 1) := by decide +kernel
theorem dX4_nextChild_54 : decode cX4_nextChild 54 = .ok (.getfield 15, 3) := by decide +kernel
theorem dX4_nextChild_57 : decode cX4_nextChild 57 = .ok (.iload 6, 2) := by decide +kernel
theorem dX4_nextChild_59 : decode cX4_nextChild 59 = .ok (.iaload, 1) := by decide +kernel
theorem dX4_nextChild_60 : decode cX4_nextChild 60 = .ok (.aload_n 0, 1) := by decide +kernel
theorem dX4_nextChild_61 : decode cX4_nextChild 61 = .ok (.getfield 15, 3) := by decide +kernel
theorem dX4_nextChild_64 : decode cX4_nextChild 64 = .ok (.iload 5, 2) := by decide +kernel
theorem dX4_nextChild_66 : decode cX4_nextChild 66 = .ok (.iaload, 1) := by decide +kernel
theorem dX4_nextChild_67 : decode cX4_nextChild 67 = .ok (.if_icmp .ge 7, 3) := by decide +kernel
theorem dX4_nextChild_70 : decode cX4_nextChild 70 = .ok (.iload 6, 2) := by decide +kernel
theorem dX4_nextChild_72 : decode cX4_nextChild 72 = .ok (.istore 5, 2) := by decide +kernel
theorem dX4_nextChild_74 : decode cX4_nextChild 74 = .ok (.iinc 6 1, 3) := by decide +kernel
theorem dX4_nextChild_77 : decode cX4_nextChild 77 = .ok (.goto (-71), 3) := by decide +kernel
theorem dX4_nextChild_80 : decode cX4_nextChild 80 = .ok (.iload 5, 2) := by decide +kernel
theorem dX4_nextChild_82 : decode cX4_nextChild 82 = .ok (.ireturn, 1) := by decide +kernel
theorem dX4_walked_0 : decode cX4_walked 0 = .ok (.iload_n 3, 1) := by decide +kernel
theorem dX4_walked_1 : decode cX4_walked 1 = .ok (.istore 5, 2) := by decide +kernel
theorem dX4_walked_3 : decode cX4_walked 3 = .ok (.iload 4, 2) := by decide +kernel
theorem dX4_walked_5 : decode cX4_walked 5 = .ok (.istore 6, 2) := by decide +kernel
theorem dX4_walked_7 : decode cX4_walked 7 = .ok (.iconst 0, 1) := by decide +kernel
theorem dX4_walked_8 : decode cX4_walked 8 = .ok (.istore 7, 2) := by decide +kernel
theorem dX4_walked_10 : decode cX4_walked 10 = .ok (.iload 7, 2) := by decide +kernel
theorem dX4_walked_12 : decode cX4_walked 12 = .ok (.bipush 60, 2) := by decide +kernel
theorem dX4_walked_14 : decode cX4_walked 14 = .ok (.if_icmp .ge 99, 3) := by decide +kernel
theorem dX4_walked_17 : decode cX4_walked 17 = .ok (.iload 6, 2) := by decide +kernel
theorem dX4_walked_19 : decode cX4_walked 19 = .ok (.ifCond .le 94, 3) := by decide +kernel
theorem dX4_walked_22 : decode cX4_walked 22 = .ok (.iload 5, 2) := by decide +kernel
theorem dX4_walked_24 : decode cX4_walked 24 = .ok (.iconst (-1), 1) := by decide +kernel
theorem dX4_walked_25 : decode cX4_walked 25 = .ok (.if_icmp .eq 88, 3) := by decide +kernel
theorem dX4_walked_28 : decode cX4_walked 28 = .ok (.iinc 6 (-1), 3) := by decide +kernel
theorem dX4_walked_31 : decode cX4_walked 31 = .ok (.aload_n 0, 1) := by decide +kernel
theorem dX4_walked_32 : decode cX4_walked 32 = .ok (.lload_n 1, 1) := by decide +kernel
theorem dX4_walked_33 : decode cX4_walked 33 = .ok (.iload 5, 2) := by decide +kernel
theorem dX4_walked_35 : decode cX4_walked 35 = .ok (.iconst (-1), 1) := by decide +kernel
theorem dX4_walked_36 : decode cX4_walked 36 = .ok (.invokevirtual 53, 3) := by decide +kernel
theorem dX4_walked_39 : decode cX4_walked 39 = .ok (.istore 8, 2) := by decide +kernel
theorem dX4_walked_41 : decode cX4_walked 41 = .ok (.iconst 0, 1) := by decide +kernel
theorem dX4_walked_42 : decode cX4_walked 42 = .ok (.istore 9, 2) := by decide +kernel
theorem dX4_walked_44 : decode cX4_walked 44 = .ok (.iload 9, 2) := by decide +kernel
theorem dX4_walked_46 : decode cX4_walked 46 = .ok (.bipush 60, 2) := by decide +kernel
theorem dX4_walked_48 : decode cX4_walked 48 = .ok (.if_icmp .ge 55, 3) := by decide +kernel
theorem dX4_walked_51 : decode cX4_walked 51 = .ok (.iload 8, 2) := by decide +kernel
theorem dX4_walked_53 : decode cX4_walked 53 = .ok (.iconst (-1), 1) := by decide +kernel
theorem dX4_walked_54 : decode cX4_walked 54 = .ok (.if_icmp .eq 49, 3) := by decide +kernel
theorem dX4_walked_57 : decode cX4_walked 57 = .ok (.iload 6, 2) := by decide +kernel
theorem dX4_walked_59 : decode cX4_walked 59 = .ok (.aload_n 0, 1) := by decide +kernel
theorem dX4_walked_60 : decode cX4_walked 60 = .ok (.lload_n 1, 1) := by decide +kernel
theorem dX4_walked_61 : decode cX4_walked 61 = .ok (.iload 8, 2) := by decide +kernel
theorem dX4_walked_63 : decode cX4_walked 63 = .ok (.invokevirtual 57, 3) := by decide +kernel
theorem dX4_walked_66 : decode cX4_walked 66 = .ok (.if_icmp .lt 37, 3) := by decide +kernel
theorem dX4_walked_69 : decode cX4_walked 69 = .ok (.iload 6, 2) := by decide +kernel
theorem dX4_walked_71 : decode cX4_walked 71 = .ok (.aload_n 0, 1) := by decide +kernel
theorem dX4_walked_72 : decode cX4_walked 72 = .ok (.lload_n 1, 1) := by decide +kernel
theorem dX4_walked_73 : decode cX4_walked 73 = .ok (.iload 8, 2) := by decide +kernel
theorem dX4_walked_75 : decode cX4_walked 75 = .ok (.invokevirtual 57, 3) := by decide +kernel
theorem dX4_walked_78 : decode cX4_walked 78 = .ok (.isub, 1) := by decide +kernel
theorem dX4_walked_79 : decode cX4_walked 79 = .ok (.istore 6, 2) := by decide +kernel
theorem dX4_walked_81 : decode cX4_walked 81 = .ok (.aload_n 0, 1) := by decide +kernel
theorem dX4_walked_82 : decode cX4_walked 82 = .ok (.lload_n 1, 1) := by decide +kernel
theorem dX4_walked_83 : decode cX4_walked 83 = .ok (.iload 5, 2) := by decide +kernel
theorem dX4_walked_85 : decode cX4_walked 85 = .ok (.aload_n 0, 1) := by decide +kernel
theorem dX4_walked_86 : decode cX4_walked 86 = .ok (.getfield 15, 3) := by decide +kernel
theorem dX4_walked_89 : decode cX4_walked 89 = .ok (.iload 8, 2) := by decide +kernel
theorem dX4_walked_91 : decode cX4_walked 91 = .ok (.iaload, 1) := by decide +kernel
theorem dX4_walked_92 : decode cX4_walked 92 = .ok (.invokevirtual 53, 3) := by decide +kernel
theorem dX4_walked_95 : decode cX4_walked 95 = .ok (.istore 8, 2) := by decide +kernel
theorem dX4_walked_97 : decode cX4_walked 97 = .ok (.iinc 9 1, 3) := by decide +kernel
theorem dX4_walked_100 : decode cX4_walked 100 = .ok (.goto (-56), 3) := by decide +kernel
theorem dX4_walked_103 : decode cX4_walked 103 = .ok (.iload 8, 2) := by decide +kernel
theorem dX4_walked_105 : decode cX4_walked 105 = .ok (.istore 5, 2) := by decide +kernel
theorem dX4_walked_107 : decode cX4_walked 107 = .ok (.iinc 7 1, 3) := by decide +kernel
theorem dX4_walked_110 : decode cX4_walked 110 = .ok (.goto (-100), 3) := by decide +kernel
theorem dX4_walked_113 : decode cX4_walked 113 = .ok (.iload 5, 2) := by decide +kernel
theorem dX4_walked_115 : decode cX4_walked 115 = .ok (.ireturn, 1) := by decide +kernel
theorem dX5_init_0 : decode cX5_init 0 = .ok (.aload_n 0, 1) := by decide +kernel
theorem dX5_init_1 : decode cX5_init 1 = .ok (.invokespecial 3, 3) := by decide +kernel
theorem dX5_init_4 : decode cX5_init 4 = .ok (.aload_n 0, 1) := by decide +kernel
theorem dX5_init_5 : decode cX5_init 5 = .ok (.new 9, 3) := by decide +kernel
theorem dX5_init_8 : decode cX5_init 8 = .ok (.dup, 1) := by decide +kernel
theorem dX5_init_9 : decode cX5_init 9 = .ok (.invokespecial 11, 3) := by decide +kernel
theorem dX5_init_12 : decode cX5_init 12 = .ok (.putfield 12, 3) := by decide +kernel
theorem dX5_init_15 : decode cX5_init 15 = .ok (.aload_n 0, 1) := by decide +kernel
theorem dX5_init_16 : decode cX5_init 16 = .ok (.sipush 600, 3) := by decide +kernel
theorem dX5_init_19 : decode cX5_init 19 = .ok (.newarray .int, 2) := by decide +kernel
theorem dX5_init_21 : decode cX5_init 21 = .ok (.putfield 18, 3) := by decide +kernel
theorem dX5_init_24 : decode cX5_init 24 = .ok (.return_, 1) := by decide +kernel
theorem dX5_addBytes_0 : decode cX5_addBytes 0 = .ok (.bipush 24, 2) := by decide +kernel
theorem dX5_addBytes_2 : decode cX5_addBytes 2 = .ok (.istore_n 2, 1) := by decide +kernel
theorem dX5_addBytes_3 : decode cX5_addBytes 3 = .ok (.iload_n 2, 1) := by decide +kernel
theorem dX5_addBytes_4 : decode cX5_addBytes 4 = .ok (.ifCond .lt 51, 3) := by decide +kernel
theorem dX5_addBytes_7 : decode cX5_addBytes 7 = .ok (.iload_n 1, 1) := by decide +kernel
theorem dX5_addBytes_8 : decode cX5_addBytes 8 = .ok (.iload_n 2, 1) := by decide +kernel
theorem dX5_addBytes_9 : decode cX5_addBytes 9 = .ok (.iushr, 1) := by decide +kernel
theorem dX5_addBytes_10 : decode cX5_addBytes 10 = .ok (.sipush 255, 3) := by decide +kernel
theorem dX5_addBytes_13 : decode cX5_addBytes 13 = .ok (.iand, 1) := by decide +kernel
theorem dX5_addBytes_14 : decode cX5_addBytes 14 = .ok (.istore_n 3, 1) := by decide +kernel
theorem dX5_addBytes_15 : decode cX5_addBytes 15 = .ok (.iload_n 3, 1) := by decide +kernel
theorem dX5_addBytes_16 : decode cX5_addBytes 16 = .ok (.ifCond .eq 33, 3) := by decide +kernel
theorem dX5_addBytes_19 : decode cX5_addBytes 19 = .ok (.aload_n 0, 1) := by decide +kernel
theorem dX5_addBytes_20 : decode cX5_addBytes 20 = .ok (.getfield 22, 3) := by decide +kernel
theorem dX5_addBytes_23 : decode cX5_addBytes 23 = .ok (.sipush 600, 3) := by decide +kernel
theorem dX5_addBytes_26 : decode cX5_addBytes 26 = .ok (.if_icmp .ge 23, 3) := by decide +kernel
theorem dX5_addBytes_29 : decode cX5_addBytes 29 = .ok (.aload_n 0, 1) := by decide +kernel
theorem dX5_addBytes_30 : decode cX5_addBytes 30 = .ok (.getfield 18, 3) := by decide +kernel
theorem dX5_addBytes_33 : decode cX5_addBytes 33 = .ok (.aload_n 0, 1) := by decide +kernel
theorem dX5_addBytes_34 : decode cX5_addBytes 34 = .ok (.getfield 22, 3) := by decide +kernel
theorem dX5_addBytes_37 : decode cX5_addBytes 37 = .ok (.iload_n 3, 1) := by decide +kernel
theorem dX5_addBytes_38 : decode cX5_addBytes 38 = .ok (.iastore, 1) := by decide +kernel
theorem dX5_addBytes_39 : decode cX5_addBytes 39 = .ok (.aload_n 0, 1) := by decide +kernel
theorem dX5_addBytes_40 : decode cX5_addBytes 40 = .ok (.dup, 1) := by decide +kernel
theorem dX5_addBytes_41 : decode cX5_addBytes 41 = .ok (.getfield 22, 3) := by decide +kernel
theorem dX5_addBytes_44 : decode cX5_addBytes 44 = .ok (.iconst 1, 1) := by decide +kernel
theorem dX5_addBytes_45 : decode cX5_addBytes 45 = .ok (.iadd, 1) := by decide +kernel
theorem dX5_addBytes_46 : decode cX5_addBytes 46 = .ok (.putfield 22, 3) := by decide +kernel
theorem dX5_addBytes_49 : decode cX5_addBytes 49 = .ok (.iinc 2 (-8), 3) := by decide +kernel
theorem dX5_addBytes_52 : decode cX5_addBytes 52 = .ok (.goto (-49), 3) := by decide +kernel
theorem dX5_addBytes_55 : decode cX5_addBytes 55 = .ok (.return_, 1) := by decide +kernel
theorem dX5_readAll_0 : decode cX5_readAll 0 = .ok (.aload_n 0, 1) := by decide +kernel
theorem dX5_readAll_1 : decode cX5_readAll 1 = .ok (.getfield 12, 3) := by decide +kernel
theorem dX5_readAll_4 : decode cX5_readAll 4 = .ok (.invokevirtual 26, 3) := by decide +kernel
theorem dX5_readAll_7 : decode cX5_readAll 7 = .ok (.aload_n 0, 1) := by decide +kernel
theorem dX5_readAll_8 : decode cX5_readAll 8 = .ok (.iconst 0, 1) := by decide +kernel
theorem dX5_readAll_9 : decode cX5_readAll 9 = .ok (.putfield 29, 3) := by decide +kernel
theorem dX5_readAll_12 : decode cX5_readAll 12 = .ok (.aload_n 0, 1) := by decide +kernel
theorem dX5_readAll_13 : decode cX5_readAll 13 = .ok (.invokevirtual 32, 3) := by decide +kernel
theorem dX5_readAll_16 : decode cX5_readAll 16 = .ok (.iconst 0, 1) := by decide +kernel
theorem dX5_readAll_17 : decode cX5_readAll 17 = .ok (.istore_n 1, 1) := by decide +kernel
theorem dX5_readAll_18 : decode cX5_readAll 18 = .ok (.iload_n 1, 1) := by decide +kernel
theorem dX5_readAll_19 : decode cX5_readAll 19 = .ok (.sipush 600, 3) := by decide +kernel
theorem dX5_readAll_22 : decode cX5_readAll 22 = .ok (.if_icmp .gt 48, 3) := by decide +kernel
theorem dX5_readAll_25 : decode cX5_readAll 25 = .ok (.aload_n 0, 1) := by decide +kernel
theorem dX5_readAll_26 : decode cX5_readAll 26 = .ok (.invokevirtual 35, 3) := by decide +kernel
theorem dX5_readAll_29 : decode cX5_readAll 29 = .ok (.ifCond .ne 8, 3) := by decide +kernel
theorem dX5_readAll_32 : decode cX5_readAll 32 = .ok (.aload_n 0, 1) := by decide +kernel
theorem dX5_readAll_33 : decode cX5_readAll 33 = .ok (.getfield 39, 3) := by decide +kernel
theorem dX5_readAll_36 : decode cX5_readAll 36 = .ok (.ireturn, 1) := by decide +kernel
theorem dX5_readAll_37 : decode cX5_readAll 37 = .ok (.aload_n 0, 1) := by decide +kernel
theorem dX5_readAll_38 : decode cX5_readAll 38 = .ok (.getfield 42, 3) := by decide +kernel
theorem dX5_readAll_41 : decode cX5_readAll 41 = .ok (.ifCond .ne 5, 3) := by decide +kernel
theorem dX5_readAll_44 : decode cX5_readAll 44 = .ok (.iconst (-1), 1) := by decide +kernel
theorem dX5_readAll_45 : decode cX5_readAll 45 = .ok (.ireturn, 1) := by decide +kernel
theorem dX5_readAll_46 : decode cX5_readAll 46 = .ok (.aload_n 0, 1) := by decide +kernel
theorem dX5_readAll_47 : decode cX5_readAll 47 = .ok (.bipush 59, 2) := by decide +kernel
theorem dX5_readAll_49 : decode cX5_readAll 49 = .ok (.invokevirtual 45, 3) := by decide +kernel
theorem dX5_readAll_52 : decode cX5_readAll 52 = .ok (.ifCond .ne 8, 3) := by decide +kernel
theorem dX5_readAll_55 : decode cX5_readAll 55 = .ok (.aload_n 0, 1) := by decide +kernel
theorem dX5_readAll_56 : decode cX5_readAll 56 = .ok (.getfield 39, 3) := by decide +kernel
theorem dX5_readAll_59 : decode cX5_readAll 59 = .ok (.ireturn, 1) := by decide +kernel
theorem dX5_readAll_60 : decode cX5_readAll 60 = .ok (.aload_n 0, 1) := by decide +kernel
theorem dX5_readAll_61 : decode cX5_readAll 61 = .ok (.invokevirtual 32, 3) := by decide +kernel
theorem dX5_readAll_64 : decode cX5_readAll 64 = .ok (.iinc 1 1, 3) := by decide +kernel
theorem dX5_readAll_67 : decode cX5_readAll 67 = .ok (.goto (-49), 3) := by decide +kernel
theorem dX5_readAll_70 : decode cX5_readAll 70 = .ok (.aload_n 0, 1) := by decide +kernel
theorem dX5_readAll_71 : decode cX5_readAll 71 = .ok (.getfield 39, 3) := by decide +kernel
theorem dX5_readAll_74 : decode cX5_readAll 74 = .ok (.ireturn, 1) := by decide +kernel
theorem dX5_readStatement_0 : decode cX5_readStatement 0 = .ok (.aload_n 0, 1) := by decide +kernel
theorem dX5_readStatement_1 : decode cX5_readStatement 1 = .ok (.ldc 49, 2) := by decide +kernel
theorem dX5_readStatement_3 : decode cX5_readStatement 3 = .ok (.invokevirtual 51, 3) := by decide +kernel
theorem dX5_readStatement_6 : decode cX5_readStatement 6 = .ok (.ifCond .eq 8, 3) := by decide +kernel
theorem dX5_readStatement_9 : decode cX5_readStatement 9 = .ok (.aload_n 0, 1) := by decide +kernel
theorem dX5_readStatement_10 : decode cX5_readStatement 10 = .ok (.invokevirtual 55, 3) := by decide +kernel
theorem dX5_readStatement_13 : decode cX5_readStatement 13 = .ok (.ireturn, 1) := by decide +kernel
theorem dX5_readStatement_14 : decode cX5_readStatement 14 = .ok (.aload_n 0, 1) := by decide +kernel
theorem dX5_readStatement_15 : decode cX5_readStatement 15 = .ok (.ldc 58, 2) := by decide +kernel
theorem dX5_readStatement_17 : decode cX5_readStatement 17 = .ok (.invokevirtual 51, 3) := by decide +kernel
theorem dX5_readStatement_20 : decode cX5_readStatement 20 = .ok (.ifCond .eq 8, 3) := by decide +kernel
theorem dX5_readStatement_23 : decode cX5_readStatement 23 = .ok (.aload_n 0, 1) := by decide +kernel
theorem dX5_readStatement_24 : decode cX5_readStatement 24 = .ok (.invokevirtual 60, 3) := by decide +kernel
theorem dX5_readStatement_27 : decode cX5_readStatement 27 = .ok (.ireturn, 1) := by decide +kernel
theorem dX5_readStatement_28 : decode cX5_readStatement 28 = .ok (.aload_n 0, 1) := by decide +kernel
theorem dX5_readStatement_29 : decode cX5_readStatement 29 = .ok (.ldc 63, 2) := by decide +kernel
theorem dX5_readStatement_31 : decode cX5_readStatement 31 = .ok (.invokevirtual 51, 3) := by decide +kernel
theorem dX5_readStatement_34 : decode cX5_readStatement 34 = .ok (.ifCond .eq 9, 3) := by decide +kernel
theorem dX5_readStatement_37 : decode cX5_readStatement 37 = .ok (.aload_n 0, 1) := by decide +kernel
theorem dX5_readStatement_38 : decode cX5_readStatement 38 = .ok (.iconst 0, 1) := by decide +kernel
theorem dX5_readStatement_39 : decode cX5_readStatement 39 = .ok (.invokevirtual 65, 3) := by decide +kernel
theorem dX5_readStatement_42 : decode cX5_readStatement 42 = .ok (.ireturn, 1) := by decide +kernel
theorem dX5_readStatement_43 : decode cX5_readStatement 43 = .ok (.aload_n 0, 1) := by decide +kernel
theorem dX5_readStatement_44 : decode cX5_readStatement 44 = .ok (.ldc 69, 2) := by decide +kernel
theorem dX5_readStatement_46 : decode cX5_readStatement 46 = .ok (.invokevirtual 51, 3) := by decide +kernel
theorem dX5_readStatement_49 : decode cX5_readStatement 49 = .ok (.ifCond .eq 9, 3) := by decide +kernel
theorem dX5_readStatement_52 : decode cX5_readStatement 52 = .ok (.aload_n 0, 1) := by decide +kernel
theorem dX5_readStatement_53 : decode cX5_readStatement 53 = .ok (.iconst 1, 1) := by decide +kernel
theorem dX5_readStatement_54 : decode cX5_readStatement 54 = .ok (.invokevirtual 65, 3) := by decide +kernel
theorem dX5_readStatement_57 : decode cX5_readStatement 57 = .ok (.ireturn, 1) := by decide +kernel
theorem dX5_readStatement_58 : decode cX5_readStatement 58 = .ok (.aload_n 0, 1) := by decide +kernel
theorem dX5_readStatement_59 : decode cX5_readStatement 59 = .ok (.ldc 71, 2) := by decide +kernel
theorem dX5_readStatement_61 : decode cX5_readStatement 61 = .ok (.invokevirtual 51, 3) := by decide +kernel
theorem dX5_readStatement_64 : decode cX5_readStatement 64 = .ok (.ifCond .eq 14, 3) := by decide +kernel
theorem dX5_readStatement_67 : decode cX5_readStatement 67 = .ok (.aload_n 0, 1) := by decide +kernel
theorem dX5_readStatement_68 : decode cX5_readStatement 68 = .ok (.invokevirtual 73, 3) := by decide +kernel
theorem dX5_readStatement_71 : decode cX5_readStatement 71 = .ok (.ifCond .eq 7, 3) := by decide +kernel
theorem dX5_readStatement_74 : decode cX5_readStatement 74 = .ok (.iconst 1, 1) := by decide +kernel
theorem dX5_readStatement_75 : decode cX5_readStatement 75 = .ok (.goto 4, 3) := by decide +kernel
theorem dX5_readStatement_78 : decode cX5_readStatement 78 = .ok (.iconst 0, 1) := by decide +kernel
theorem dX5_readStatement_79 : decode cX5_readStatement 79 = .ok (.ireturn, 1) := by decide +kernel
theorem dX5_readField_0 : decode cX5_readField 0 = .ok (.aload_n 0, 1) := by decide +kernel
theorem dX5_readField_1 : decode cX5_readField 1 = .ok (.getfield 12, 3) := by decide +kernel
theorem dX5_readField_4 : decode cX5_readField 4 = .ok (.getfield 76, 3) := by decide +kernel
theorem dX5_readField_7 : decode cX5_readField 7 = .ok (.bipush 6, 2) := by decide +kernel
theorem dX5_readField_9 : decode cX5_readField 9 = .ok (.if_icmp .lt 5, 3) := by decide +kernel
theorem dX5_readField_12 : decode cX5_readField 12 = .ok (.iconst 0, 1) := by decide +kernel
theorem dX5_readField_13 : decode cX5_readField 13 = .ok (.ireturn, 1) := by decide +kernel
theorem dX5_readField_14 : decode cX5_readField 14 = .ok (.aload_n 0, 1) := by decide +kernel
theorem dX5_readField_15 : decode cX5_readField 15 = .ok (.invokevirtual 32, 3) := by decide +kernel
theorem dX5_readField_18 : decode cX5_readField 18 = .ok (.aload_n 0, 1) := by decide +kernel
theorem dX5_readField_19 : decode cX5_readField 19 = .ok (.invokevirtual 79, 3) := by decide +kernel
theorem dX5_readField_22 : decode cX5_readField 22 = .ok (.istore_n 1, 1) := by decide +kernel
theorem dX5_readField_23 : decode cX5_readField 23 = .ok (.iload_n 1, 1) := by decide +kernel
theorem dX5_readField_24 : decode cX5_readField 24 = .ok (.iconst (-1), 1) := by decide +kernel
theorem dX5_readField_25 : decode cX5_readField 25 = .ok (.if_icmp .ne 5, 3) := by decide +kernel
theorem dX5_readField_28 : decode cX5_readField 28 = .ok (.iconst 0, 1) := by decide +kernel
theorem dX5_readField_29 : decode cX5_readField 29 = .ok (.ireturn, 1) := by decide +kernel
theorem dX5_readField_30 : decode cX5_readField 30 = .ok (.aload_n 0, 1) := by decide +kernel
theorem dX5_readField_31 : decode cX5_readField 31 = .ok (.getfield 12, 3) := by decide +kernel
theorem dX5_readField_34 : decode cX5_readField 34 = .ok (.getfield 83, 3) := by decide +kernel
theorem dX5_readField_37 : decode cX5_readField 37 = .ok (.aload_n 0, 1) := by decide +kernel
theorem dX5_readField_38 : decode cX5_readField 38 = .ok (.getfield 12, 3) := by decide +kernel
theorem dX5_readField_41 : decode cX5_readField 41 = .ok (.getfield 76, 3) := by decide +kernel
theorem dX5_readField_44 : decode cX5_readField 44 = .ok (.iload_n 1, 1) := by decide +kernel
theorem dX5_readField_45 : decode cX5_readField 45 = .ok (.iastore, 1) := by decide +kernel
theorem dX5_readField_46 : decode cX5_readField 46 = .ok (.aload_n 0, 1) := by decide +kernel
theorem dX5_readField_47 : decode cX5_readField 47 = .ok (.getfield 12, 3) := by decide +kernel
theorem dX5_readField_50 : decode cX5_readField 50 = .ok (.dup, 1) := by decide +kernel
theorem dX5_readField_51 : decode cX5_readField 51 = .ok (.getfield 76, 3) := by decide +kernel
theorem dX5_readField_54 : decode cX5_readField 54 = .ok (.iconst 1, 1) := by decide +kernel
theorem dX5_readField_55 : decode cX5_readField 55 = .ok (.iadd, 1) := by decide +kernel
theorem dX5_readField_56 : decode cX5_readField 56 = .ok (.putfield 76, 3) := by decide +kernel
theorem dX5_readField_59 : decode cX5_readField 59 = .ok (.aload_n 0, 1) := by decide +kernel
theorem dX5_readField_60 : decode cX5_readField 60 = .ok (.invokevirtual 32, 3) := by decide +kernel
theorem dX5_readField_63 : decode cX5_readField 63 = .ok (.iconst 1, 1) := by decide +kernel
theorem dX5_readField_64 : decode cX5_readField 64 = .ok (.ireturn, 1) := by decide +kernel
theorem dX5_readClient_0 : decode cX5_readClient 0 = .ok (.aload_n 0, 1) := by decide +kernel
theorem dX5_readClient_1 : decode cX5_readClient 1 = .ok (.getfield 12, 3) := by decide +kernel
theorem dX5_readClient_4 : decode cX5_readClient 4 = .ok (.getfield 86, 3) := by decide +kernel
theorem dX5_readClient_7 : decode cX5_readClient 7 = .ok (.iconst 5, 1) := by decide +kernel
theorem dX5_readClient_8 : decode cX5_readClient 8 = .ok (.if_icmp .lt 5, 3) := by decide +kernel
theorem dX5_readClient_11 : decode cX5_readClient 11 = .ok (.iconst 0, 1) := by decide +kernel
theorem dX5_readClient_12 : decode cX5_readClient 12 = .ok (.ireturn, 1) := by decide +kernel
theorem dX5_readClient_13 : decode cX5_readClient 13 = .ok (.aload_n 0, 1) := by decide +kernel
theorem dX5_readClient_14 : decode cX5_readClient 14 = .ok (.getfield 12, 3) := by decide +kernel
theorem dX5_readClient_17 : decode cX5_readClient 17 = .ok (.dup, 1) := by decide +kernel
theorem dX5_readClient_18 : decode cX5_readClient 18 = .ok (.getfield 86, 3) := by decide +kernel
theorem dX5_readClient_21 : decode cX5_readClient 21 = .ok (.iconst 1, 1) := by decide +kernel
theorem dX5_readClient_22 : decode cX5_readClient 22 = .ok (.iadd, 1) := by decide +kernel
theorem dX5_readClient_23 : decode cX5_readClient 23 = .ok (.putfield 86, 3) := by decide +kernel
theorem dX5_readClient_26 : decode cX5_readClient 26 = .ok (.aload_n 0, 1) := by decide +kernel
theorem dX5_readClient_27 : decode cX5_readClient 27 = .ok (.invokevirtual 32, 3) := by decide +kernel
theorem dX5_readClient_30 : decode cX5_readClient 30 = .ok (.iconst 1, 1) := by decide +kernel
theorem dX5_readClient_31 : decode cX5_readClient 31 = .ok (.ireturn, 1) := by decide +kernel
theorem dX5_readNode_0 : decode cX5_readNode 0 = .ok (.aload_n 0, 1) := by decide +kernel
theorem dX5_readNode_1 : decode cX5_readNode 1 = .ok (.getfield 12, 3) := by decide +kernel
theorem dX5_readNode_4 : decode cX5_readNode 4 = .ok (.getfield 89, 3) := by decide +kernel
theorem dX5_readNode_7 : decode cX5_readNode 7 = .ok (.astore_n 2, 1) := by decide +kernel
theorem dX5_readNode_8 : decode cX5_readNode 8 = .ok (.aload_n 2, 1) := by decide +kernel
theorem dX5_readNode_9 : decode cX5_readNode 9 = .ok (.getfield 93, 3) := by decide +kernel
theorem dX5_readNode_12 : decode cX5_readNode 12 = .ok (.bipush 60, 2) := by decide +kernel
theorem dX5_readNode_14 : decode cX5_readNode 14 = .ok (.if_icmp .lt 5, 3) := by decide +kernel
theorem dX5_readNode_17 : decode cX5_readNode 17 = .ok (.iconst 0, 1) := by decide +kernel
theorem dX5_readNode_18 : decode cX5_readNode 18 = .ok (.ireturn, 1) := by decide +kernel
theorem dX5_readNode_19 : decode cX5_readNode 19 = .ok (.aload_n 0, 1) := by decide +kernel
theorem dX5_readNode_20 : decode cX5_readNode 20 = .ok (.invokevirtual 32, 3) := by decide +kernel
theorem dX5_readNode_23 : decode cX5_readNode 23 = .ok (.aload_n 0, 1) := by decide +kernel
theorem dX5_readNode_24 : decode cX5_readNode 24 = .ok (.getfield 98, 3) := by decide +kernel
theorem dX5_readNode_27 : decode cX5_readNode 27 = .ok (.istore_n 3, 1) := by decide +kernel
theorem dX5_readNode_28 : decode cX5_readNode 28 = .ok (.iload_n 3, 1) := by decide +kernel
theorem dX5_readNode_29 : decode cX5_readNode 29 = .ok (.iconst (-1), 1) := by decide +kernel
theorem dX5_readNode_30 : decode cX5_readNode 30 = .ok (.if_icmp .eq 22, 3) := by decide +kernel
theorem dX5_readNode_33 : decode cX5_readNode 33 = .ok (.iload_n 3, 1) := by decide +kernel
theorem dX5_readNode_34 : decode cX5_readNode 34 = .ok (.aload_n 2, 1) := by decide +kernel
theorem dX5_readNode_35 : decode cX5_readNode 35 = .ok (.getfield 93, 3) := by decide +kernel
theorem dX5_readNode_38 : decode cX5_readNode 38 = .ok (.if_icmp .ge 14, 3) := by decide +kernel
theorem dX5_readNode_41 : decode cX5_readNode 41 = .ok (.aload_n 2, 1) := by decide +kernel
theorem dX5_readNode_42 : decode cX5_readNode 42 = .ok (.getfield 101, 3) := by decide +kernel
theorem dX5_readNode_45 : decode cX5_readNode 45 = .ok (.iload_n 3, 1) := by decide +kernel
theorem dX5_readNode_46 : decode cX5_readNode 46 = .ok (.invokestatic 105, 3) := by decide +kernel
theorem dX5_readNode_49 : decode cX5_readNode 49 = .ok (.ifCond .eq 5, 3) := by decide +kernel
theorem dX5_readNode_52 : decode cX5_readNode 52 = .ok (.iconst 0, 1) := by decide +kernel
theorem dX5_readNode_53 : decode cX5_readNode 53 = .ok (.ireturn, 1) := by decide +kernel
theorem dX5_readNode_54 : decode cX5_readNode 54 = .ok (.aload_n 0, 1) := by decide +kernel
theorem dX5_readNode_55 : decode cX5_readNode 55 = .ok (.invokevirtual 32, 3) := by decide +kernel
theorem dX5_readNode_58 : decode cX5_readNode 58 = .ok (.aload_n 0, 1) := by decide +kernel
theorem dX5_readNode_59 : decode cX5_readNode 59 = .ok (.getfield 98, 3) := by decide +kernel
theorem dX5_readNode_62 : decode cX5_readNode 62 = .ok (.istore 4, 2) := by decide +kernel
theorem dX5_readNode_64 : decode cX5_readNode 64 = .ok (.iload 4, 2) := by decide +kernel
theorem dX5_readNode_66 : decode cX5_readNode 66 = .ok (.iconst (-1), 1) := by decide +kernel
theorem dX5_readNode_67 : decode cX5_readNode 67 = .ok (.if_icmp .eq 32, 3) := by decide +kernel
theorem dX5_readNode_70 : decode cX5_readNode 70 = .ok (.iload 4, 2) := by decide +kernel
theorem dX5_readNode_72 : decode cX5_readNode 72 = .ok (.sipush 999, 3) := by decide +kernel
theorem dX5_readNode_75 : decode cX5_readNode 75 = .ok (.if_icmp .gt 24, 3) := by decide +kernel
theorem dX5_readNode_78 : decode cX5_readNode 78 = .ok (.aload_n 2, 1) := by decide +kernel
theorem dX5_readNode_79 : decode cX5_readNode 79 = .ok (.aload_n 0, 1) := by decide +kernel
theorem dX5_readNode_80 : decode cX5_readNode 80 = .ok (.getfield 12, 3) := by decide +kernel
theorem dX5_readNode_83 : decode cX5_readNode 83 = .ok (.getfield 109, 3) := by decide +kernel
theorem dX5_readNode_86 : decode cX5_readNode 86 = .ok (.getfield 113, 3) := by decide +kernel
theorem dX5_readNode_89 : decode cX5_readNode 89 = .ok (.iload_n 3, 1) := by decide +kernel
theorem dX5_readNode_90 : decode cX5_readNode 90 = .ok (.iload 4, 2) := by decide +kernel
theorem dX5_readNode_92 : decode cX5_readNode 92 = .ok (.invokevirtual 118, 3) := by decide +kernel
theorem dX5_readNode_95 : decode cX5_readNode 95 = .ok (.iconst (-1), 1) := by decide +kernel
theorem dX5_readNode_96 : decode cX5_readNode 96 = .ok (.if_icmp .eq 5, 3) := by decide +kernel
theorem dX5_readNode_99 : decode cX5_readNode 99 = .ok (.iconst 0, 1) := by decide +kernel
theorem dX5_readNode_100 : decode cX5_readNode 100 = .ok (.ireturn, 1) := by decide +kernel
theorem dX5_readNode_101 : decode cX5_readNode 101 = .ok (.aload_n 0, 1) := by decide +kernel
theorem dX5_readNode_102 : decode cX5_readNode 102 = .ok (.getfield 12, 3) := by decide +kernel
theorem dX5_readNode_105 : decode cX5_readNode 105 = .ok (.getfield 109, 3) := by decide +kernel
theorem dX5_readNode_108 : decode cX5_readNode 108 = .ok (.dup, 1) := by decide +kernel
theorem dX5_readNode_109 : decode cX5_readNode 109 = .ok (.getfield 113, 3) := by decide +kernel
theorem dX5_readNode_112 : decode cX5_readNode 112 = .ok (.aload_n 2, 1) := by decide +kernel
theorem dX5_readNode_113 : decode cX5_readNode 113 = .ok (.iload_n 3, 1) := by decide +kernel
theorem dX5_readNode_114 : decode cX5_readNode 114 = .ok (.iload 4, 2) := by decide +kernel
theorem dX5_readNode_116 : decode cX5_readNode 116 = .ok (.iload_n 1, 1) := by decide +kernel
theorem dX5_readNode_117 : decode cX5_readNode 117 = .ok (.invokevirtual 122, 3) := by decide +kernel
theorem dX5_readNode_120 : decode cX5_readNode 120 = .ok (.invokestatic 126, 3) := by decide +kernel
theorem dX5_readNode_123 : decode cX5_readNode 123 = .ok (.lor, 1) := by decide +kernel
theorem dX5_readNode_124 : decode cX5_readNode 124 = .ok (.putfield 113, 3) := by decide +kernel
theorem dX5_readNode_127 : decode cX5_readNode 127 = .ok (.aload_n 0, 1) := by decide +kernel
theorem dX5_readNode_128 : decode cX5_readNode 128 = .ok (.invokevirtual 32, 3) := by decide +kernel
theorem dX5_readNode_131 : decode cX5_readNode 131 = .ok (.iconst 1, 1) := by decide +kernel
theorem dX5_readNode_132 : decode cX5_readNode 132 = .ok (.ireturn, 1) := by decide +kernel
theorem dX5_readValue_0 : decode cX5_readValue 0 = .ok (.aload_n 0, 1) := by decide +kernel
theorem dX5_readValue_1 : decode cX5_readValue 1 = .ok (.invokevirtual 32, 3) := by decide +kernel
theorem dX5_readValue_4 : decode cX5_readValue 4 = .ok (.aload_n 0, 1) := by decide +kernel
theorem dX5_readValue_5 : decode cX5_readValue 5 = .ok (.getfield 98, 3) := by decide +kernel
theorem dX5_readValue_8 : decode cX5_readValue 8 = .ok (.istore_n 1, 1) := by decide +kernel
theorem dX5_readValue_9 : decode cX5_readValue 9 = .ok (.iload_n 1, 1) := by decide +kernel
theorem dX5_readValue_10 : decode cX5_readValue 10 = .ok (.iconst (-1), 1) := by decide +kernel
theorem dX5_readValue_11 : decode cX5_readValue 11 = .ok (.if_icmp .eq 34, 3) := by decide +kernel
theorem dX5_readValue_14 : decode cX5_readValue 14 = .ok (.iload_n 1, 1) := by decide +kernel
theorem dX5_readValue_15 : decode cX5_readValue 15 = .ok (.aload_n 0, 1) := by decide +kernel
theorem dX5_readValue_16 : decode cX5_readValue 16 = .ok (.getfield 12, 3) := by decide +kernel
theorem dX5_readValue_19 : decode cX5_readValue 19 = .ok (.getfield 89, 3) := by decide +kernel
theorem dX5_readValue_22 : decode cX5_readValue 22 = .ok (.getfield 93, 3) := by decide +kernel
theorem dX5_readValue_25 : decode cX5_readValue 25 = .ok (.if_icmp .ge 20, 3) := by decide +kernel
theorem dX5_readValue_28 : decode cX5_readValue 28 = .ok (.aload_n 0, 1) := by decide +kernel
theorem dX5_readValue_29 : decode cX5_readValue 29 = .ok (.getfield 12, 3) := by decide +kernel
theorem dX5_readValue_32 : decode cX5_readValue 32 = .ok (.getfield 89, 3) := by decide +kernel
theorem dX5_readValue_35 : decode cX5_readValue 35 = .ok (.getfield 101, 3) := by decide +kernel
theorem dX5_readValue_38 : decode cX5_readValue 38 = .ok (.iload_n 1, 1) := by decide +kernel
theorem dX5_readValue_39 : decode cX5_readValue 39 = .ok (.invokestatic 105, 3) := by decide +kernel
theorem dX5_readValue_42 : decode cX5_readValue 42 = .ok (.ifCond .ne 5, 3) := by decide +kernel
theorem dX5_readValue_45 : decode cX5_readValue 45 = .ok (.iconst 0, 1) := by decide +kernel
theorem dX5_readValue_46 : decode cX5_readValue 46 = .ok (.ireturn, 1) := by decide +kernel
theorem dX5_readValue_47 : decode cX5_readValue 47 = .ok (.aload_n 0, 1) := by decide +kernel
theorem dX5_readValue_48 : decode cX5_readValue 48 = .ok (.invokevirtual 32, 3) := by decide +kernel
theorem dX5_readValue_51 : decode cX5_readValue 51 = .ok (.aload_n 0, 1) := by decide +kernel
theorem dX5_readValue_52 : decode cX5_readValue 52 = .ok (.getfield 98, 3) := by decide +kernel
theorem dX5_readValue_55 : decode cX5_readValue 55 = .ok (.istore_n 2, 1) := by decide +kernel
theorem dX5_readValue_56 : decode cX5_readValue 56 = .ok (.iload_n 2, 1) := by decide +kernel
theorem dX5_readValue_57 : decode cX5_readValue 57 = .ok (.iconst (-1), 1) := by decide +kernel
theorem dX5_readValue_58 : decode cX5_readValue 58 = .ok (.if_icmp .eq 14, 3) := by decide +kernel
theorem dX5_readValue_61 : decode cX5_readValue 61 = .ok (.iload_n 2, 1) := by decide +kernel
theorem dX5_readValue_62 : decode cX5_readValue 62 = .ok (.aload_n 0, 1) := by decide +kernel
theorem dX5_readValue_63 : decode cX5_readValue 63 = .ok (.getfield 12, 3) := by decide +kernel
theorem dX5_readValue_66 : decode cX5_readValue 66 = .ok (.getfield 76, 3) := by decide +kernel
theorem dX5_readValue_69 : decode cX5_readValue 69 = .ok (.if_icmp .lt 5, 3) := by decide +kernel
theorem dX5_readValue_72 : decode cX5_readValue 72 = .ok (.iconst 0, 1) := by decide +kernel
theorem dX5_readValue_73 : decode cX5_readValue 73 = .ok (.ireturn, 1) := by decide +kernel
theorem dX5_readValue_74 : decode cX5_readValue 74 = .ok (.aload_n 0, 1) := by decide +kernel
theorem dX5_readValue_75 : decode cX5_readValue 75 = .ok (.invokevirtual 32, 3) := by decide +kernel
theorem dX5_readValue_78 : decode cX5_readValue 78 = .ok (.aload_n 0, 1) := by decide +kernel
theorem dX5_readValue_79 : decode cX5_readValue 79 = .ok (.bipush 45, 2) := by decide +kernel
theorem dX5_readValue_81 : decode cX5_readValue 81 = .ok (.invokevirtual 45, 3) := by decide +kernel
theorem dX5_readValue_84 : decode cX5_readValue 84 = .ok (.istore_n 3, 1) := by decide +kernel
theorem dX5_readValue_85 : decode cX5_readValue 85 = .ok (.iload_n 3, 1) := by decide +kernel
theorem dX5_readValue_86 : decode cX5_readValue 86 = .ok (.ifCond .eq 7, 3) := by decide +kernel
theorem dX5_readValue_89 : decode cX5_readValue 89 = .ok (.aload_n 0, 1) := by decide +kernel
theorem dX5_readValue_90 : decode cX5_readValue 90 = .ok (.invokevirtual 32, 3) := by decide +kernel
theorem dX5_readValue_93 : decode cX5_readValue 93 = .ok (.aload_n 0, 1) := by decide +kernel
theorem dX5_readValue_94 : decode cX5_readValue 94 = .ok (.getfield 98, 3) := by decide +kernel
theorem dX5_readValue_97 : decode cX5_readValue 97 = .ok (.iconst (-1), 1) := by decide +kernel
theorem dX5_readValue_98 : decode cX5_readValue 98 = .ok (.if_icmp .eq 12, 3) := by decide +kernel
theorem dX5_readValue_101 : decode cX5_readValue 101 = .ok (.aload_n 0, 1) := by decide +kernel
theorem dX5_readValue_102 : decode cX5_readValue 102 = .ok (.getfield 98, 3) := by decide +kernel
theorem dX5_readValue_105 : decode cX5_readValue 105 = .ok (.ldc 130, 2) := by decide +kernel
theorem dX5_readValue_107 : decode cX5_readValue 107 = .ok (.if_icmp .le 5, 3) := by decide +kernel
theorem dX5_readValue_110 : decode cX5_readValue 110 = .ok (.iconst 0, 1) := by decide +kernel
theorem dX5_readValue_111 : decode cX5_readValue 111 = .ok (.ireturn, 1) := by decide +kernel
theorem dX5_readValue_112 : decode cX5_readValue 112 = .ok (.aload_n 0, 1) := by decide +kernel
theorem dX5_readValue_113 : decode cX5_readValue 113 = .ok (.getfield 12, 3) := by decide +kernel
theorem dX5_readValue_116 : decode cX5_readValue 116 = .ok (.getfield 109, 3) := by decide +kernel
theorem dX5_readValue_119 : decode cX5_readValue 119 = .ok (.iload_n 1, 1) := by decide +kernel
theorem dX5_readValue_120 : decode cX5_readValue 120 = .ok (.iload_n 2, 1) := by decide +kernel
theorem dX5_readValue_121 : decode cX5_readValue 121 = .ok (.iload_n 3, 1) := by decide +kernel
theorem dX5_readValue_122 : decode cX5_readValue 122 = .ok (.ifCond .eq 11, 3) := by decide +kernel
theorem dX5_readValue_125 : decode cX5_readValue 125 = .ok (.aload_n 0, 1) := by decide +kernel
theorem dX5_readValue_126 : decode cX5_readValue 126 = .ok (.getfield 98, 3) := by decide +kernel
theorem dX5_readValue_129 : decode cX5_readValue 129 = .ok (.ineg, 1) := by decide +kernel
theorem dX5_readValue_130 : decode cX5_readValue 130 = .ok (.goto 7, 3) := by decide +kernel
theorem dX5_readValue_133 : decode cX5_readValue 133 = .ok (.aload_n 0, 1) := by decide +kernel
theorem dX5_readValue_134 : decode cX5_readValue 134 = .ok (.getfield 98, 3) := by decide +kernel
theorem dX5_readValue_137 : decode cX5_readValue 137 = .ok (.invokevirtual 131, 3) := by decide +kernel
theorem dX5_readValue_140 : decode cX5_readValue 140 = .ok (.aload_n 0, 1) := by decide +kernel
theorem dX5_readValue_141 : decode cX5_readValue 141 = .ok (.invokevirtual 32, 3) := by decide +kernel
theorem dX5_readValue_144 : decode cX5_readValue 144 = .ok (.iconst 1, 1) := by decide +kernel
theorem dX5_readValue_145 : decode cX5_readValue 145 = .ok (.ireturn, 1) := by decide +kernel
theorem dX5_ruleOfWord_0 : decode cX5_ruleOfWord 0 = .ok (.aload_n 0, 1) := by decide +kernel
theorem dX5_ruleOfWord_1 : decode cX5_ruleOfWord 1 = .ok (.ldc 135, 2) := by decide +kernel
theorem dX5_ruleOfWord_3 : decode cX5_ruleOfWord 3 = .ok (.invokevirtual 51, 3) := by decide +kernel
theorem dX5_ruleOfWord_6 : decode cX5_ruleOfWord 6 = .ok (.ifCond .eq 5, 3) := by decide +kernel
theorem dX5_ruleOfWord_9 : decode cX5_ruleOfWord 9 = .ok (.iconst 0, 1) := by decide +kernel
theorem dX5_ruleOfWord_10 : decode cX5_ruleOfWord 10 = .ok (.ireturn, 1) := by decide +kernel
theorem dX5_ruleOfWord_11 : decode cX5_ruleOfWord 11 = .ok (.aload_n 0, 1) := by decide +kernel
theorem dX5_ruleOfWord_12 : decode cX5_ruleOfWord 12 = .ok (.ldc 137, 2) := by decide +kernel
theorem dX5_ruleOfWord_14 : decode cX5_ruleOfWord 14 = .ok (.invokevirtual 51, 3) := by decide +kernel
theorem dX5_ruleOfWord_17 : decode cX5_ruleOfWord 17 = .ok (.ifCond .eq 5, 3) := by decide +kernel
theorem dX5_ruleOfWord_20 : decode cX5_ruleOfWord 20 = .ok (.iconst 1, 1) := by decide +kernel
theorem dX5_ruleOfWord_21 : decode cX5_ruleOfWord 21 = .ok (.ireturn, 1) := by decide +kernel
theorem dX5_ruleOfWord_22 : decode cX5_ruleOfWord 22 = .ok (.aload_n 0, 1) := by decide +kernel
theorem dX5_ruleOfWord_23 : decode cX5_ruleOfWord 23 = .ok (.ldc 139, 2) := by decide +kernel
theorem dX5_ruleOfWord_25 : decode cX5_ruleOfWord 25 = .ok (.invokevirtual 51, 3) := by decide +kernel
theorem dX5_ruleOfWord_28 : decode cX5_ruleOfWord 28 = .ok (.ifCond .eq 5, 3) := by decide +kernel
theorem dX5_ruleOfWord_31 : decode cX5_ruleOfWord 31 = .ok (.iconst 2, 1) := by decide +kernel
theorem dX5_ruleOfWord_32 : decode cX5_ruleOfWord 32 = .ok (.ireturn, 1) := by decide +kernel
theorem dX5_ruleOfWord_33 : decode cX5_ruleOfWord 33 = .ok (.aload_n 0, 1) := by decide +kernel
theorem dX5_ruleOfWord_34 : decode cX5_ruleOfWord 34 = .ok (.ldc 141, 2) := by decide +kernel
theorem dX5_ruleOfWord_36 : decode cX5_ruleOfWord 36 = .ok (.invokevirtual 51, 3) := by decide +kernel
theorem dX5_ruleOfWord_39 : decode cX5_ruleOfWord 39 = .ok (.ifCond .eq 5, 3) := by decide +kernel
theorem dX5_ruleOfWord_42 : decode cX5_ruleOfWord 42 = .ok (.iconst 3, 1) := by decide +kernel
theorem dX5_ruleOfWord_43 : decode cX5_ruleOfWord 43 = .ok (.ireturn, 1) := by decide +kernel
theorem dX5_ruleOfWord_44 : decode cX5_ruleOfWord 44 = .ok (.aload_n 0, 1) := by decide +kernel
theorem dX5_ruleOfWord_45 : decode cX5_ruleOfWord 45 = .ok (.ldc 143, 2) := by decide +kernel
theorem dX5_ruleOfWord_47 : decode cX5_ruleOfWord 47 = .ok (.invokevirtual 51, 3) := by decide +kernel
theorem dX5_ruleOfWord_50 : decode cX5_ruleOfWord 50 = .ok (.ifCond .eq 5, 3) := by decide +kernel
theorem dX5_ruleOfWord_53 : decode cX5_ruleOfWord 53 = .ok (.iconst 4, 1) := by decide +kernel
theorem dX5_ruleOfWord_54 : decode cX5_ruleOfWord 54 = .ok (.ireturn, 1) := by decide +kernel
theorem dX5_ruleOfWord_55 : decode cX5_ruleOfWord 55 = .ok (.aload_n 0, 1) := by decide +kernel
theorem dX5_ruleOfWord_56 : decode cX5_ruleOfWord 56 = .ok (.ldc 145, 2) := by decide +kernel
theorem dX5_ruleOfWord_58 : decode cX5_ruleOfWord 58 = .ok (.invokevirtual 51, 3) := by decide +kernel
theorem dX5_ruleOfWord_61 : decode cX5_ruleOfWord 61 = .ok (.ifCond .eq 7, 3) := by decide +kernel
theorem dX5_ruleOfWord_64 : decode cX5_ruleOfWord 64 = .ok (.iconst 5, 1) := by decide +kernel
theorem dX5_ruleOfWord_65 : decode cX5_ruleOfWord 65 = .ok (.goto 4, 3) := by decide +kernel
theorem dX5_ruleOfWord_68 : decode cX5_ruleOfWord 68 = .ok (.iconst (-1), 1) := by decide +kernel
theorem dX5_ruleOfWord_69 : decode cX5_ruleOfWord 69 = .ok (.ireturn, 1) := by decide +kernel
theorem dX5_isSign_0 : decode cX5_isSign 0 = .ok (.aload_n 0, 1) := by decide +kernel
theorem dX5_isSign_1 : decode cX5_isSign 1 = .ok (.getfield 42, 3) := by decide +kernel
theorem dX5_isSign_4 : decode cX5_isSign 4 = .ok (.iconst 3, 1) := by decide +kernel
theorem dX5_isSign_5 : decode cX5_isSign 5 = .ok (.if_icmp .ne 20, 3) := by decide +kernel
theorem dX5_isSign_8 : decode cX5_isSign 8 = .ok (.aload_n 0, 1) := by decide +kernel
theorem dX5_isSign_9 : decode cX5_isSign 9 = .ok (.getfield 18, 3) := by decide +kernel
theorem dX5_isSign_12 : decode cX5_isSign 12 = .ok (.aload_n 0, 1) := by decide +kernel
theorem dX5_isSign_13 : decode cX5_isSign 13 = .ok (.getfield 39, 3) := by decide +kernel
theorem dX5_isSign_16 : decode cX5_isSign 16 = .ok (.iaload, 1) := by decide +kernel
theorem dX5_isSign_17 : decode cX5_isSign 17 = .ok (.iload_n 1, 1) := by decide +kernel
theorem dX5_isSign_18 : decode cX5_isSign 18 = .ok (.if_icmp .ne 7, 3) := by decide +kernel
theorem dX5_isSign_21 : decode cX5_isSign 21 = .ok (.iconst 1, 1) := by decide +kernel
theorem dX5_isSign_22 : decode cX5_isSign 22 = .ok (.goto 4, 3) := by decide +kernel
theorem dX5_isSign_25 : decode cX5_isSign 25 = .ok (.iconst 0, 1) := by decide +kernel
theorem dX5_isSign_26 : decode cX5_isSign 26 = .ok (.ireturn, 1) := by decide +kernel
theorem dX5_isWord_0 : decode cX5_isWord 0 = .ok (.aload_n 0, 1) := by decide +kernel
theorem dX5_isWord_1 : decode cX5_isWord 1 = .ok (.getfield 42, 3) := by decide +kernel
theorem dX5_isWord_4 : decode cX5_isWord 4 = .ok (.iconst 1, 1) := by decide +kernel
theorem dX5_isWord_5 : decode cX5_isWord 5 = .ok (.if_icmp .ne 19, 3) := by decide +kernel
theorem dX5_isWord_8 : decode cX5_isWord 8 = .ok (.aload_n 0, 1) := by decide +kernel
theorem dX5_isWord_9 : decode cX5_isWord 9 = .ok (.getfield 29, 3) := by decide +kernel
theorem dX5_isWord_12 : decode cX5_isWord 12 = .ok (.aload_n 0, 1) := by decide +kernel
theorem dX5_isWord_13 : decode cX5_isWord 13 = .ok (.getfield 39, 3) := by decide +kernel
theorem dX5_isWord_16 : decode cX5_isWord 16 = .ok (.isub, 1) := by decide +kernel
theorem dX5_isWord_17 : decode cX5_isWord 17 = .ok (.aload_n 1, 1) := by decide +kernel
theorem dX5_isWord_18 : decode cX5_isWord 18 = .ok (.invokevirtual 147, 3) := by decide +kernel
theorem dX5_isWord_21 : decode cX5_isWord 21 = .ok (.if_icmp .eq 5, 3) := by decide +kernel
theorem dX5_isWord_24 : decode cX5_isWord 24 = .ok (.iconst 0, 1) := by decide +kernel
theorem dX5_isWord_25 : decode cX5_isWord 25 = .ok (.ireturn, 1) := by decide +kernel
theorem dX5_isWord_26 : decode cX5_isWord 26 = .ok (.iconst 0, 1) := by decide +kernel
theorem dX5_isWord_27 : decode cX5_isWord 27 = .ok (.istore_n 2, 1) := by decide +kernel
theorem dX5_isWord_28 : decode cX5_isWord 28 = .ok (.iload_n 2, 1) := by decide +kernel
theorem dX5_isWord_29 : decode cX5_isWord 29 = .ok (.aload_n 1, 1) := by decide +kernel
theorem dX5_isWord_30 : decode cX5_isWord 30 = .ok (.invokevirtual 147, 3) := by decide +kernel
theorem dX5_isWord_33 : decode cX5_isWord 33 = .ok (.if_icmp .ge 30, 3) := by decide +kernel
theorem dX5_isWord_36 : decode cX5_isWord 36 = .ok (.aload_n 0, 1) := by decide +kernel
theorem dX5_isWord_37 : decode cX5_isWord 37 = .ok (.getfield 18, 3) := by decide +kernel
theorem dX5_isWord_40 : decode cX5_isWord 40 = .ok (.aload_n 0, 1) := by decide +kernel
theorem dX5_isWord_41 : decode cX5_isWord 41 = .ok (.getfield 39, 3) := by decide +kernel
theorem dX5_isWord_44 : decode cX5_isWord 44 = .ok (.iload_n 2, 1) := by decide +kernel
theorem dX5_isWord_45 : decode cX5_isWord 45 = .ok (.iadd, 1) := by decide +kernel
theorem dX5_isWord_46 : decode cX5_isWord 46 = .ok (.iaload, 1) := by decide +kernel
theorem dX5_isWord_47 : decode cX5_isWord 47 = .ok (.aload_n 1, 1) := by decide +kernel
theorem dX5_isWord_48 : decode cX5_isWord 48 = .ok (.iload_n 2, 1) := by decide +kernel
theorem dX5_isWord_49 : decode cX5_isWord 49 = .ok (.invokevirtual 151, 3) := by decide +kernel
theorem dX5_isWord_52 : decode cX5_isWord 52 = .ok (.if_icmp .eq 5, 3) := by decide +kernel
theorem dX5_isWord_55 : decode cX5_isWord 55 = .ok (.iconst 0, 1) := by decide +kernel
theorem dX5_isWord_56 : decode cX5_isWord 56 = .ok (.ireturn, 1) := by decide +kernel
theorem dX5_isWord_57 : decode cX5_isWord 57 = .ok (.iinc 2 1, 3) := by decide +kernel
theorem dX5_isWord_60 : decode cX5_isWord 60 = .ok (.goto (-32), 3) := by decide +kernel
theorem dX5_isWord_63 : decode cX5_isWord 63 = .ok (.iconst 1, 1) := by decide +kernel
theorem dX5_isWord_64 : decode cX5_isWord 64 = .ok (.ireturn, 1) := by decide +kernel
theorem dX5_nextToken_0 : decode cX5_nextToken 0 = .ok (.aload_n 0, 1) := by decide +kernel
theorem dX5_nextToken_1 : decode cX5_nextToken 1 = .ok (.aload_n 0, 1) := by decide +kernel
theorem dX5_nextToken_2 : decode cX5_nextToken 2 = .ok (.aload_n 0, 1) := by decide +kernel
theorem dX5_nextToken_3 : decode cX5_nextToken 3 = .ok (.getfield 29, 3) := by decide +kernel
theorem dX5_nextToken_6 : decode cX5_nextToken 6 = .ok (.bipush 32, 2) := by decide +kernel
theorem dX5_nextToken_8 : decode cX5_nextToken 8 = .ok (.bipush 32, 2) := by decide +kernel
theorem dX5_nextToken_10 : decode cX5_nextToken 10 = .ok (.invokevirtual 155, 3) := by decide +kernel
theorem dX5_nextToken_13 : decode cX5_nextToken 13 = .ok (.putfield 39, 3) := by decide +kernel
theorem dX5_nextToken_16 : decode cX5_nextToken 16 = .ok (.aload_n 0, 1) := by decide +kernel
theorem dX5_nextToken_17 : decode cX5_nextToken 17 = .ok (.iconst (-1), 1) := by decide +kernel
theorem dX5_nextToken_18 : decode cX5_nextToken 18 = .ok (.putfield 98, 3) := by decide +kernel
theorem dX5_nextToken_21 : decode cX5_nextToken 21 = .ok (.aload_n 0, 1) := by decide +kernel
theorem dX5_nextToken_22 : decode cX5_nextToken 22 = .ok (.getfield 39, 3) := by decide +kernel
theorem dX5_nextToken_25 : decode cX5_nextToken 25 = .ok (.aload_n 0, 1) := by decide +kernel
theorem dX5_nextToken_26 : decode cX5_nextToken 26 = .ok (.getfield 22, 3) := by decide +kernel
theorem dX5_nextToken_29 : decode cX5_nextToken 29 = .ok (.if_icmp .lt 9, 3) := by decide +kernel
theorem dX5_nextToken_32 : decode cX5_nextToken 32 = .ok (.aload_n 0, 1) := by decide +kernel
theorem dX5_nextToken_33 : decode cX5_nextToken 33 = .ok (.iconst 0, 1) := by decide +kernel
theorem dX5_nextToken_34 : decode cX5_nextToken 34 = .ok (.putfield 42, 3) := by decide +kernel
theorem dX5_nextToken_37 : decode cX5_nextToken 37 = .ok (.return_, 1) := by decide +kernel
theorem dX5_nextToken_38 : decode cX5_nextToken 38 = .ok (.aload_n 0, 1) := by decide +kernel
theorem dX5_nextToken_39 : decode cX5_nextToken 39 = .ok (.getfield 18, 3) := by decide +kernel
theorem dX5_nextToken_42 : decode cX5_nextToken 42 = .ok (.aload_n 0, 1) := by decide +kernel
theorem dX5_nextToken_43 : decode cX5_nextToken 43 = .ok (.getfield 39, 3) := by decide +kernel
theorem dX5_nextToken_46 : decode cX5_nextToken 46 = .ok (.iaload, 1) := by decide +kernel
theorem dX5_nextToken_47 : decode cX5_nextToken 47 = .ok (.istore_n 1, 1) := by decide +kernel
theorem dX5_nextToken_48 : decode cX5_nextToken 48 = .ok (.iload_n 1, 1) := by decide +kernel
theorem dX5_nextToken_49 : decode cX5_nextToken 49 = .ok (.bipush 97, 2) := by decide +kernel
theorem dX5_nextToken_51 : decode cX5_nextToken 51 = .ok (.if_icmp .lt 33, 3) := by decide +kernel
theorem dX5_nextToken_54 : decode cX5_nextToken 54 = .ok (.iload_n 1, 1) := by decide +kernel
theorem dX5_nextToken_55 : decode cX5_nextToken 55 = .ok (.bipush 122, 2) := by decide +kernel
theorem dX5_nextToken_57 : decode cX5_nextToken 57 = .ok (.if_icmp .gt 27, 3) := by decide +kernel
theorem dX5_nextToken_60 : decode cX5_nextToken 60 = .ok (.aload_n 0, 1) := by decide +kernel
theorem dX5_nextToken_61 : decode cX5_nextToken 61 = .ok (.iconst 1, 1) := by decide +kernel
theorem dX5_nextToken_62 : decode cX5_nextToken 62 = .ok (.putfield 42, 3) := by decide +kernel
theorem dX5_nextToken_65 : decode cX5_nextToken 65 = .ok (.aload_n 0, 1) := by decide +kernel
theorem dX5_nextToken_66 : decode cX5_nextToken 66 = .ok (.aload_n 0, 1) := by decide +kernel
theorem dX5_nextToken_67 : decode cX5_nextToken 67 = .ok (.aload_n 0, 1) := by decide +kernel
theorem dX5_nextToken_68 : decode cX5_nextToken 68 = .ok (.getfield 39, 3) := by decide +kernel
theorem dX5_nextToken_71 : decode cX5_nextToken 71 = .ok (.bipush 97, 2) := by decide +kernel
theorem dX5_nextToken_73 : decode cX5_nextToken 73 = .ok (.bipush 122, 2) := by decide +kernel
theorem dX5_nextToken_75 : decode cX5_nextToken 75 = .ok (.invokevirtual 155, 3) := by decide +kernel
theorem dX5_nextToken_78 : decode cX5_nextToken 78 = .ok (.putfield 29, 3) := by decide +kernel
theorem dX5_nextToken_81 : decode cX5_nextToken 81 = .ok (.goto 62, 3) := by decide +kernel
theorem dX5_nextToken_84 : decode cX5_nextToken 84 = .ok (.iload_n 1, 1) := by decide +kernel
theorem dX5_nextToken_85 : decode cX5_nextToken 85 = .ok (.bipush 48, 2) := by decide +kernel
theorem dX5_nextToken_87 : decode cX5_nextToken 87 = .ok (.if_icmp .lt 41, 3) := by decide +kernel
theorem dX5_nextToken_90 : decode cX5_nextToken 90 = .ok (.iload_n 1, 1) := by decide +kernel
theorem dX5_nextToken_91 : decode cX5_nextToken 91 = .ok (.bipush 57, 2) := by decide +kernel
theorem dX5_nextToken_93 : decode cX5_nextToken 93 = .ok (.if_icmp .gt 35, 3) := by decide +kernel
theorem dX5_nextToken_96 : decode cX5_nextToken 96 = .ok (.aload_n 0, 1) := by decide +kernel
theorem dX5_nextToken_97 : decode cX5_nextToken 97 = .ok (.iconst 2, 1) := by decide +kernel
theorem dX5_nextToken_98 : decode cX5_nextToken 98 = .ok (.putfield 42, 3) := by decide +kernel
theorem dX5_nextToken_101 : decode cX5_nextToken 101 = .ok (.aload_n 0, 1) := by decide +kernel
theorem dX5_nextToken_102 : decode cX5_nextToken 102 = .ok (.aload_n 0, 1) := by decide +kernel
theorem dX5_nextToken_103 : decode cX5_nextToken 103 = .ok (.aload_n 0, 1) := by decide +kernel
theorem dX5_nextToken_104 : decode cX5_nextToken 104 = .ok (.getfield 39, 3) := by decide +kernel
theorem dX5_nextToken_107 : decode cX5_nextToken 107 = .ok (.bipush 48, 2) := by decide +kernel
theorem dX5_nextToken_109 : decode cX5_nextToken 109 = .ok (.bipush 57, 2) := by decide +kernel
theorem dX5_nextToken_111 : decode cX5_nextToken 111 = .ok (.invokevirtual 155, 3) := by decide +kernel
theorem dX5_nextToken_114 : decode cX5_nextToken 114 = .ok (.putfield 29, 3) := by decide +kernel
theorem dX5_nextToken_117 : decode cX5_nextToken 117 = .ok (.aload_n 0, 1) := by decide +kernel
theorem dX5_nextToken_118 : decode cX5_nextToken 118 = .ok (.aload_n 0, 1) := by decide +kernel
theorem dX5_nextToken_119 : decode cX5_nextToken 119 = .ok (.invokevirtual 159, 3) := by decide +kernel
theorem dX5_nextToken_122 : decode cX5_nextToken 122 = .ok (.putfield 98, 3) := by decide +kernel
theorem dX5_nextToken_125 : decode cX5_nextToken 125 = .ok (.goto 18, 3) := by decide +kernel
theorem dX5_nextToken_128 : decode cX5_nextToken 128 = .ok (.aload_n 0, 1) := by decide +kernel
theorem dX5_nextToken_129 : decode cX5_nextToken 129 = .ok (.iconst 3, 1) := by decide +kernel
theorem dX5_nextToken_130 : decode cX5_nextToken 130 = .ok (.putfield 42, 3) := by decide +kernel
theorem dX5_nextToken_133 : decode cX5_nextToken 133 = .ok (.aload_n 0, 1) := by decide +kernel
theorem dX5_nextToken_134 : decode cX5_nextToken 134 = .ok (.aload_n 0, 1) := by decide +kernel
theorem dX5_nextToken_135 : decode cX5_nextToken 135 = .ok (.getfield 39, 3) := by decide +kernel
theorem dX5_nextToken_138 : decode cX5_nextToken 138 = .ok (.iconst 1, 1) := by decide +kernel
theorem dX5_nextToken_139 : decode cX5_nextToken 139 = .ok (.iadd, 1) := by decide +kernel
theorem dX5_nextToken_140 : decode cX5_nextToken 140 = .ok (.putfield 29, 3) := by decide +kernel
theorem dX5_nextToken_143 : decode cX5_nextToken 143 = .ok (.return_, 1) := by decide +kernel
theorem dX5_endOfRun_0 : decode cX5_endOfRun 0 = .ok (.iload_n 1, 1) := by decide +kernel
theorem dX5_endOfRun_1 : decode cX5_endOfRun 1 = .ok (.istore 4, 2) := by decide +kernel
theorem dX5_endOfRun_3 : decode cX5_endOfRun 3 = .ok (.iload 4, 2) := by decide +kernel
theorem dX5_endOfRun_5 : decode cX5_endOfRun 5 = .ok (.aload_n 0, 1) := by decide +kernel
theorem dX5_endOfRun_6 : decode cX5_endOfRun 6 = .ok (.getfield 22, 3) := by decide +kernel
theorem dX5_endOfRun_9 : decode cX5_endOfRun 9 = .ok (.if_icmp .ge 31, 3) := by decide +kernel
theorem dX5_endOfRun_12 : decode cX5_endOfRun 12 = .ok (.aload_n 0, 1) := by decide +kernel
theorem dX5_endOfRun_13 : decode cX5_endOfRun 13 = .ok (.getfield 18, 3) := by decide +kernel
theorem dX5_endOfRun_16 : decode cX5_endOfRun 16 = .ok (.iload 4, 2) := by decide +kernel
theorem dX5_endOfRun_18 : decode cX5_endOfRun 18 = .ok (.iaload, 1) := by decide +kernel
theorem dX5_endOfRun_19 : decode cX5_endOfRun 19 = .ok (.iload_n 2, 1) := by decide +kernel
theorem dX5_endOfRun_20 : decode cX5_endOfRun 20 = .ok (.if_icmp .lt 20, 3) := by decide +kernel
theorem dX5_endOfRun_23 : decode cX5_endOfRun 23 = .ok (.aload_n 0, 1) := by decide +kernel
theorem dX5_endOfRun_24 : decode cX5_endOfRun 24 = .ok (.getfield 18, 3) := by decide +kernel
theorem dX5_endOfRun_27 : decode cX5_endOfRun 27 = .ok (.iload 4, 2) := by decide +kernel
theorem dX5_endOfRun_29 : decode cX5_endOfRun 29 = .ok (.iaload, 1) := by decide +kernel
theorem dX5_endOfRun_30 : decode cX5_endOfRun 30 = .ok (.iload_n 3, 1) := by decide +kernel
theorem dX5_endOfRun_31 : decode cX5_endOfRun 31 = .ok (.if_icmp .gt 9, 3) := by decide +kernel
theorem dX5_endOfRun_34 : decode cX5_endOfRun 34 = .ok (.iinc 4 1, 3) := by decide +kernel
theorem dX5_endOfRun_37 : decode cX5_endOfRun 37 = .ok (.goto (-34), 3) := by decide +kernel
theorem dX5_endOfRun_40 : decode cX5_endOfRun 40 = .ok (.iload 4, 2) := by decide +kernel
theorem dX5_endOfRun_42 : decode cX5_endOfRun 42 = .ok (.ireturn, 1) := by decide +kernel
theorem dX5_numberOfToken_0 : decode cX5_numberOfToken 0 = .ok (.aload_n 0, 1) := by decide +kernel
theorem dX5_numberOfToken_1 : decode cX5_numberOfToken 1 = .ok (.getfield 29, 3) := by decide +kernel
theorem dX5_numberOfToken_4 : decode cX5_numberOfToken 4 = .ok (.aload_n 0, 1) := by decide +kernel
theorem dX5_numberOfToken_5 : decode cX5_numberOfToken 5 = .ok (.getfield 39, 3) := by decide +kernel
theorem dX5_numberOfToken_8 : decode cX5_numberOfToken 8 = .ok (.isub, 1) := by decide +kernel
theorem dX5_numberOfToken_9 : decode cX5_numberOfToken 9 = .ok (.bipush 7, 2) := by decide +kernel
theorem dX5_numberOfToken_11 : decode cX5_numberOfToken 11 = .ok (.if_icmp .le 5, 3) := by decide +kernel
theorem dX5_numberOfToken_14 : decode cX5_numberOfToken 14 = .ok (.iconst (-1), 1) := by decide +kernel
theorem dX5_numberOfToken_15 : decode cX5_numberOfToken 15 = .ok (.ireturn, 1) := by decide +kernel
theorem dX5_numberOfToken_16 : decode cX5_numberOfToken 16 = .ok (.iconst 0, 1) := by decide +kernel
theorem dX5_numberOfToken_17 : decode cX5_numberOfToken 17 = .ok (.istore_n 1, 1) := by decide +kernel
theorem dX5_numberOfToken_18 : decode cX5_numberOfToken 18 = .ok (.aload_n 0, 1) := by decide +kernel
theorem dX5_numberOfToken_19 : decode cX5_numberOfToken 19 = .ok (.getfield 39, 3) := by decide +kernel
theorem dX5_numberOfToken_22 : decode cX5_numberOfToken 22 = .ok (.istore_n 2, 1) := by decide +kernel
theorem dX5_numberOfToken_23 : decode cX5_numberOfToken 23 = .ok (.iload_n 2, 1) := by decide +kernel
theorem dX5_numberOfToken_24 : decode cX5_numberOfToken 24 = .ok (.aload_n 0, 1) := by decide +kernel
theorem dX5_numberOfToken_25 : decode cX5_numberOfToken 25 = .ok (.getfield 29, 3) := by decide +kernel
theorem dX5_numberOfToken_28 : decode cX5_numberOfToken 28 = .ok (.if_icmp .ge 24, 3) := by decide +kernel
theorem dX5_numberOfToken_31 : decode cX5_numberOfToken 31 = .ok (.iload_n 1, 1) := by decide +kernel
theorem dX5_numberOfToken_32 : decode cX5_numberOfToken 32 = .ok (.bipush 10, 2) := by decide +kernel
theorem dX5_numberOfToken_34 : decode cX5_numberOfToken 34 = .ok (.imul, 1) := by decide +kernel
theorem dX5_numberOfToken_35 : decode cX5_numberOfToken 35 = .ok (.aload_n 0, 1) := by decide +kernel
theorem dX5_numberOfToken_36 : decode cX5_numberOfToken 36 = .ok (.getfield 18, 3) := by decide +kernel
theorem dX5_numberOfToken_39 : decode cX5_numberOfToken 39 = .ok (.iload_n 2, 1) := by decide +kernel
theorem dX5_numberOfToken_40 : decode cX5_numberOfToken 40 = .ok (.iaload, 1) := by decide +kernel
theorem dX5_numberOfToken_41 : decode cX5_numberOfToken 41 = .ok (.iadd, 1) := by decide +kernel
theorem dX5_numberOfToken_42 : decode cX5_numberOfToken 42 = .ok (.bipush 48, 2) := by decide +kernel
theorem dX5_numberOfToken_44 : decode cX5_numberOfToken 44 = .ok (.isub, 1) := by decide +kernel
theorem dX5_numberOfToken_45 : decode cX5_numberOfToken 45 = .ok (.istore_n 1, 1) := by decide +kernel
theorem dX5_numberOfToken_46 : decode cX5_numberOfToken 46 = .ok (.iinc 2 1, 3) := by decide +kernel
theorem dX5_numberOfToken_49 : decode cX5_numberOfToken 49 = .ok (.goto (-26), 3) := by decide +kernel
theorem dX5_numberOfToken_52 : decode cX5_numberOfToken 52 = .ok (.iload_n 1, 1) := by decide +kernel
theorem dX5_numberOfToken_53 : decode cX5_numberOfToken 53 = .ok (.ireturn, 1) := by decide +kernel
theorem dX6_init_0 : decode cX6_init 0 = .ok (.aload_n 0, 1) := by decide +kernel
theorem dX6_init_1 : decode cX6_init 1 = .ok (.invokespecial 3, 3) := by decide +kernel
theorem dX6_init_4 : decode cX6_init 4 = .ok (.aload_n 0, 1) := by decide +kernel
theorem dX6_init_5 : decode cX6_init 5 = .ok (.bipush 6, 2) := by decide +kernel
theorem dX6_init_7 : decode cX6_init 7 = .ok (.newarray .int, 2) := by decide +kernel
theorem dX6_init_9 : decode cX6_init 9 = .ok (.putfield 9, 3) := by decide +kernel
theorem dX6_init_12 : decode cX6_init 12 = .ok (.aload_n 0, 1) := by decide +kernel
theorem dX6_init_13 : decode cX6_init 13 = .ok (.new 15, 3) := by decide +kernel
theorem dX6_init_16 : decode cX6_init 16 = .ok (.dup, 1) := by decide +kernel
theorem dX6_init_17 : decode cX6_init 17 = .ok (.invokespecial 17, 3) := by decide +kernel
theorem dX6_init_20 : decode cX6_init 20 = .ok (.putfield 18, 3) := by decide +kernel
theorem dX6_init_23 : decode cX6_init 23 = .ok (.aload_n 0, 1) := by decide +kernel
theorem dX6_init_24 : decode cX6_init 24 = .ok (.new 22, 3) := by decide +kernel
theorem dX6_init_27 : decode cX6_init 27 = .ok (.dup, 1) := by decide +kernel
theorem dX6_init_28 : decode cX6_init 28 = .ok (.invokespecial 24, 3) := by decide +kernel
theorem dX6_init_31 : decode cX6_init 31 = .ok (.putfield 25, 3) := by decide +kernel
theorem dX6_init_34 : decode cX6_init 34 = .ok (.aload_n 0, 1) := by decide +kernel
theorem dX6_init_35 : decode cX6_init 35 = .ok (.iconst 5, 1) := by decide +kernel
theorem dX6_init_36 : decode cX6_init 36 = .ok (.anewarray 29, 3) := by decide +kernel
theorem dX6_init_39 : decode cX6_init 39 = .ok (.putfield 31, 3) := by decide +kernel
theorem dX6_init_42 : decode cX6_init 42 = .ok (.aload_n 0, 1) := by decide +kernel
theorem dX6_init_43 : decode cX6_init 43 = .ok (.new 35, 3) := by decide +kernel
theorem dX6_init_46 : decode cX6_init 46 = .ok (.dup, 1) := by decide +kernel
theorem dX6_init_47 : decode cX6_init 47 = .ok (.invokespecial 37, 3) := by decide +kernel
theorem dX6_init_50 : decode cX6_init 50 = .ok (.putfield 38, 3) := by decide +kernel
theorem dX6_init_53 : decode cX6_init 53 = .ok (.iconst 0, 1) := by decide +kernel
theorem dX6_init_54 : decode cX6_init 54 = .ok (.istore_n 1, 1) := by decide +kernel
theorem dX6_init_55 : decode cX6_init 55 = .ok (.iload_n 1, 1) := by decide +kernel
theorem dX6_init_56 : decode cX6_init 56 = .ok (.iconst 5, 1) := by decide +kernel
theorem dX6_init_57 : decode cX6_init 57 = .ok (.if_icmp .ge 22, 3) := by decide +kernel
theorem dX6_init_60 : decode cX6_init 60 = .ok (.aload_n 0, 1) := by decide +kernel
theorem dX6_init_61 : decode cX6_init 61 = .ok (.getfield 31, 3) := by decide +kernel
theorem dX6_init_64 : decode cX6_init 64 = .ok (.iload_n 1, 1) := by decide +kernel
theorem dX6_init_65 : decode cX6_init 65 = .ok (.new 29, 3) := by decide +kernel
theorem dX6_init_68 : decode cX6_init 68 = .ok (.dup, 1) := by decide +kernel
theorem dX6_init_69 : decode cX6_init 69 = .ok (.invokespecial 42, 3) := by decide +kernel
theorem dX6_init_72 : decode cX6_init 72 = .ok (.aastore, 1) := by decide +kernel
theorem dX6_init_73 : decode cX6_init 73 = .ok (.iinc 1 1, 3) := by decide +kernel
theorem dX6_init_76 : decode cX6_init 76 = .ok (.goto (-21), 3) := by decide +kernel
theorem dX6_init_79 : decode cX6_init 79 = .ok (.return_, 1) := by decide +kernel
theorem dX6_reset_0 : decode cX6_reset 0 = .ok (.aload_n 0, 1) := by decide +kernel
theorem dX6_reset_1 : decode cX6_reset 1 = .ok (.iconst 0, 1) := by decide +kernel
theorem dX6_reset_2 : decode cX6_reset 2 = .ok (.putfield 43, 3) := by decide +kernel
theorem dX6_reset_5 : decode cX6_reset 5 = .ok (.aload_n 0, 1) := by decide +kernel
theorem dX6_reset_6 : decode cX6_reset 6 = .ok (.iconst 0, 1) := by decide +kernel
theorem dX6_reset_7 : decode cX6_reset 7 = .ok (.putfield 47, 3) := by decide +kernel
theorem dX6_reset_10 : decode cX6_reset 10 = .ok (.aload_n 0, 1) := by decide +kernel
theorem dX6_reset_11 : decode cX6_reset 11 = .ok (.iconst 0, 1) := by decide +kernel
theorem dX6_reset_12 : decode cX6_reset 12 = .ok (.putfield 50, 3) := by decide +kernel
theorem dX6_reset_15 : decode cX6_reset 15 = .ok (.aload_n 0, 1) := by decide +kernel
theorem dX6_reset_16 : decode cX6_reset 16 = .ok (.getfield 18, 3) := by decide +kernel
theorem dX6_reset_19 : decode cX6_reset 19 = .ok (.invokevirtual 53, 3) := by decide +kernel
theorem dX6_reset_22 : decode cX6_reset 22 = .ok (.aload_n 0, 1) := by decide +kernel
theorem dX6_reset_23 : decode cX6_reset 23 = .ok (.getfield 25, 3) := by decide +kernel
theorem dX6_reset_26 : decode cX6_reset 26 = .ok (.invokevirtual 56, 3) := by decide +kernel
theorem dX6_reset_29 : decode cX6_reset 29 = .ok (.iconst 0, 1) := by decide +kernel
theorem dX6_reset_30 : decode cX6_reset 30 = .ok (.istore_n 1, 1) := by decide +kernel
theorem dX6_reset_31 : decode cX6_reset 31 = .ok (.iload_n 1, 1) := by decide +kernel
theorem dX6_reset_32 : decode cX6_reset 32 = .ok (.iconst 5, 1) := by decide +kernel
theorem dX6_reset_33 : decode cX6_reset 33 = .ok (.if_icmp .ge 19, 3) := by decide +kernel
theorem dX6_reset_36 : decode cX6_reset 36 = .ok (.aload_n 0, 1) := by decide +kernel
theorem dX6_reset_37 : decode cX6_reset 37 = .ok (.getfield 31, 3) := by decide +kernel
theorem dX6_reset_40 : decode cX6_reset 40 = .ok (.iload_n 1, 1) := by decide +kernel
theorem dX6_reset_41 : decode cX6_reset 41 = .ok (.aaload, 1) := by decide +kernel
theorem dX6_reset_42 : decode cX6_reset 42 = .ok (.iconst 0, 1) := by decide +kernel
theorem dX6_reset_43 : decode cX6_reset 43 = .ok (.putfield 57, 3) := by decide +kernel
theorem dX6_reset_46 : decode cX6_reset 46 = .ok (.iinc 1 1, 3) := by decide +kernel
theorem dX6_reset_49 : decode cX6_reset 49 = .ok (.goto (-18), 3) := by decide +kernel
theorem dX6_reset_52 : decode cX6_reset 52 = .ok (.aload_n 0, 1) := by decide +kernel
theorem dX6_reset_53 : decode cX6_reset 53 = .ok (.getfield 38, 3) := by decide +kernel
theorem dX6_reset_56 : decode cX6_reset 56 = .ok (.iconst 0, 1) := by decide +kernel
theorem dX6_reset_57 : decode cX6_reset 57 = .ok (.putfield 61, 3) := by decide +kernel
theorem dX6_reset_60 : decode cX6_reset 60 = .ok (.return_, 1) := by decide +kernel
theorem dX6_copyFrom_0 : decode cX6_copyFrom 0 = .ok (.aload_n 0, 1) := by decide +kernel
theorem dX6_copyFrom_1 : decode cX6_copyFrom 1 = .ok (.aload_n 1, 1) := by decide +kernel
theorem dX6_copyFrom_2 : decode cX6_copyFrom 2 = .ok (.getfield 43, 3) := by decide +kernel
theorem dX6_copyFrom_5 : decode cX6_copyFrom 5 = .ok (.putfield 43, 3) := by decide +kernel
theorem dX6_copyFrom_8 : decode cX6_copyFrom 8 = .ok (.aload_n 0, 1) := by decide +kernel
theorem dX6_copyFrom_9 : decode cX6_copyFrom 9 = .ok (.aload_n 1, 1) := by decide +kernel
theorem dX6_copyFrom_10 : decode cX6_copyFrom 10 = .ok (.getfield 47, 3) := by decide +kernel
theorem dX6_copyFrom_13 : decode cX6_copyFrom 13 = .ok (.putfield 47, 3) := by decide +kernel
theorem dX6_copyFrom_16 : decode cX6_copyFrom 16 = .ok (.aload_n 0, 1) := by decide +kernel
theorem dX6_copyFrom_17 : decode cX6_copyFrom 17 = .ok (.aload_n 1, 1) := by decide +kernel
theorem dX6_copyFrom_18 : decode cX6_copyFrom 18 = .ok (.getfield 50, 3) := by decide +kernel
theorem dX6_copyFrom_21 : decode cX6_copyFrom 21 = .ok (.putfield 50, 3) := by decide +kernel
theorem dX6_copyFrom_24 : decode cX6_copyFrom 24 = .ok (.aload_n 1, 1) := by decide +kernel
theorem dX6_copyFrom_25 : decode cX6_copyFrom 25 = .ok (.getfield 9, 3) := by decide +kernel
theorem dX6_copyFrom_28 : decode cX6_copyFrom 28 = .ok (.iconst 0, 1) := by decide +kernel
theorem dX6_copyFrom_29 : decode cX6_copyFrom 29 = .ok (.aload_n 0, 1) := by decide +kernel
theorem dX6_copyFrom_30 : decode cX6_copyFrom 30 = .ok (.getfield 9, 3) := by decide +kernel
theorem dX6_copyFrom_33 : decode cX6_copyFrom 33 = .ok (.iconst 0, 1) := by decide +kernel
theorem dX6_copyFrom_34 : decode cX6_copyFrom 34 = .ok (.bipush 6, 2) := by decide +kernel
theorem dX6_copyFrom_36 : decode cX6_copyFrom 36 = .ok (.invokestatic 64, 3) := by decide +kernel
theorem dX6_copyFrom_39 : decode cX6_copyFrom 39 = .ok (.aload_n 0, 1) := by decide +kernel
theorem dX6_copyFrom_40 : decode cX6_copyFrom 40 = .ok (.getfield 18, 3) := by decide +kernel
theorem dX6_copyFrom_43 : decode cX6_copyFrom 43 = .ok (.aload_n 1, 1) := by decide +kernel
theorem dX6_copyFrom_44 : decode cX6_copyFrom 44 = .ok (.getfield 18, 3) := by decide +kernel
theorem dX6_copyFrom_47 : decode cX6_copyFrom 47 = .ok (.invokevirtual 70, 3) := by decide +kernel
theorem dX6_copyFrom_50 : decode cX6_copyFrom 50 = .ok (.aload_n 0, 1) := by decide +kernel
theorem dX6_copyFrom_51 : decode cX6_copyFrom 51 = .ok (.getfield 25, 3) := by decide +kernel
theorem dX6_copyFrom_54 : decode cX6_copyFrom 54 = .ok (.aload_n 1, 1) := by decide +kernel
theorem dX6_copyFrom_55 : decode cX6_copyFrom 55 = .ok (.getfield 25, 3) := by decide +kernel
theorem dX6_copyFrom_58 : decode cX6_copyFrom 58 = .ok (.invokevirtual 74, 3) := by decide +kernel
theorem dX6_copyFrom_61 : decode cX6_copyFrom 61 = .ok (.iconst 0, 1) := by decide +kernel
theorem dX6_copyFrom_62 : decode cX6_copyFrom 62 = .ok (.istore_n 2, 1) := by decide +kernel
theorem dX6_copyFrom_63 : decode cX6_copyFrom 63 = .ok (.iload_n 2, 1) := by decide +kernel
theorem dX6_copyFrom_64 : decode cX6_copyFrom 64 = .ok (.iconst 5, 1) := by decide +kernel
theorem dX6_copyFrom_65 : decode cX6_copyFrom 65 = .ok (.if_icmp .ge 24, 3) := by decide +kernel
theorem dX6_copyFrom_68 : decode cX6_copyFrom 68 = .ok (.aload_n 0, 1) := by decide +kernel
theorem dX6_copyFrom_69 : decode cX6_copyFrom 69 = .ok (.getfield 31, 3) := by decide +kernel
theorem dX6_copyFrom_72 : decode cX6_copyFrom 72 = .ok (.iload_n 2, 1) := by decide +kernel
theorem dX6_copyFrom_73 : decode cX6_copyFrom 73 = .ok (.aaload, 1) := by decide +kernel
theorem dX6_copyFrom_74 : decode cX6_copyFrom 74 = .ok (.aload_n 1, 1) := by decide +kernel
theorem dX6_copyFrom_75 : decode cX6_copyFrom 75 = .ok (.getfield 31, 3) := by decide +kernel
theorem dX6_copyFrom_78 : decode cX6_copyFrom 78 = .ok (.iload_n 2, 1) := by decide +kernel
theorem dX6_copyFrom_79 : decode cX6_copyFrom 79 = .ok (.aaload, 1) := by decide +kernel
theorem dX6_copyFrom_80 : decode cX6_copyFrom 80 = .ok (.invokevirtual 77, 3) := by decide +kernel
theorem dX6_copyFrom_83 : decode cX6_copyFrom 83 = .ok (.iinc 2 1, 3) := by decide +kernel
theorem dX6_copyFrom_86 : decode cX6_copyFrom 86 = .ok (.goto (-23), 3) := by decide +kernel
theorem dX6_copyFrom_89 : decode cX6_copyFrom 89 = .ok (.aload_n 0, 1) := by decide +kernel
theorem dX6_copyFrom_90 : decode cX6_copyFrom 90 = .ok (.getfield 38, 3) := by decide +kernel
theorem dX6_copyFrom_93 : decode cX6_copyFrom 93 = .ok (.aload_n 1, 1) := by decide +kernel
theorem dX6_copyFrom_94 : decode cX6_copyFrom 94 = .ok (.getfield 38, 3) := by decide +kernel
theorem dX6_copyFrom_97 : decode cX6_copyFrom 97 = .ok (.invokevirtual 80, 3) := by decide +kernel
theorem dX6_copyFrom_100 : decode cX6_copyFrom 100 = .ok (.return_, 1) := by decide +kernel
theorem dX6_recordsBelow_0 : decode cX6_recordsBelow 0 = .ok (.aload_n 0, 1) := by decide +kernel
theorem dX6_recordsBelow_1 : decode cX6_recordsBelow 1 = .ok (.getfield 18, 3) := by decide +kernel
theorem dX6_recordsBelow_4 : decode cX6_recordsBelow 4 = .ok (.iload_n 1, 1) := by decide +kernel
theorem dX6_recordsBelow_5 : decode cX6_recordsBelow 5 = .ok (.invokevirtual 83, 3) := by decide +kernel
theorem dX6_recordsBelow_8 : decode cX6_recordsBelow 8 = .ok (.aload_n 0, 1) := by decide +kernel
theorem dX6_recordsBelow_9 : decode cX6_recordsBelow 9 = .ok (.getfield 18, 3) := by decide +kernel
theorem dX6_recordsBelow_12 : decode cX6_recordsBelow 12 = .ok (.getfield 87, 3) := by decide +kernel
theorem dX6_recordsBelow_15 : decode cX6_recordsBelow 15 = .ok (.land, 1) := by decide +kernel
theorem dX6_recordsBelow_16 : decode cX6_recordsBelow 16 = .ok (.aload_n 0, 1) := by decide +kernel
theorem dX6_recordsBelow_17 : decode cX6_recordsBelow 17 = .ok (.getfield 25, 3) := by decide +kernel
theorem dX6_recordsBelow_20 : decode cX6_recordsBelow 20 = .ok (.getfield 91, 3) := by decide +kernel
theorem dX6_recordsBelow_23 : decode cX6_recordsBelow 23 = .ok (.land, 1) := by decide +kernel
theorem dX6_recordsBelow_24 : decode cX6_recordsBelow 24 = .ok (.lreturn, 1) := by decide +kernel
theorem dX6_blockersOf_0 : decode cX6_blockersOf 0 = .ok (.iconst 0, 1) := by decide +kernel
theorem dX6_blockersOf_1 : decode cX6_blockersOf 1 = .ok (.istore 4, 2) := by decide +kernel
theorem dX6_blockersOf_3 : decode cX6_blockersOf 3 = .ok (.iconst 0, 1) := by decide +kernel
theorem dX6_blockersOf_4 : decode cX6_blockersOf 4 = .ok (.istore 5, 2) := by decide +kernel
theorem dX6_blockersOf_6 : decode cX6_blockersOf 6 = .ok (.iload 5, 2) := by decide +kernel
theorem dX6_blockersOf_8 : decode cX6_blockersOf 8 = .ok (.aload_n 0, 1) := by decide +kernel
theorem dX6_blockersOf_9 : decode cX6_blockersOf 9 = .ok (.getfield 50, 3) := by decide +kernel
theorem dX6_blockersOf_12 : decode cX6_blockersOf 12 = .ok (.if_icmp .ge 69, 3) := by decide +kernel
theorem dX6_blockersOf_15 : decode cX6_blockersOf 15 = .ok (.aload_n 0, 1) := by decide +kernel
theorem dX6_blockersOf_16 : decode cX6_blockersOf 16 = .ok (.getfield 31, 3) := by decide +kernel
theorem dX6_blockersOf_19 : decode cX6_blockersOf 19 = .ok (.iload 5, 2) := by decide +kernel
theorem dX6_blockersOf_21 : decode cX6_blockersOf 21 = .ok (.aaload, 1) := by decide +kernel
theorem dX6_blockersOf_22 : decode cX6_blockersOf 22 = .ok (.astore 6, 2) := by decide +kernel
theorem dX6_blockersOf_24 : decode cX6_blockersOf 24 = .ok (.iload 5, 2) := by decide +kernel
theorem dX6_blockersOf_26 : decode cX6_blockersOf 26 = .ok (.iload_n 1, 1) := by decide +kernel
theorem dX6_blockersOf_27 : decode cX6_blockersOf 27 = .ok (.if_icmp .eq 48, 3) := by decide +kernel
theorem dX6_blockersOf_30 : decode cX6_blockersOf 30 = .ok (.aload 6, 2) := by decide +kernel
theorem dX6_blockersOf_32 : decode cX6_blockersOf 32 = .ok (.getfield 57, 3) := by decide +kernel
theorem dX6_blockersOf_35 : decode cX6_blockersOf 35 = .ok (.ifCond .eq 40, 3) := by decide +kernel
theorem dX6_blockersOf_38 : decode cX6_blockersOf 38 = .ok (.iload_n 3, 1) := by decide +kernel
theorem dX6_blockersOf_39 : decode cX6_blockersOf 39 = .ok (.ifCond .ne 11, 3) := by decide +kernel
theorem dX6_blockersOf_42 : decode cX6_blockersOf 42 = .ok (.aload 6, 2) := by decide +kernel
theorem dX6_blockersOf_44 : decode cX6_blockersOf 44 = .ok (.getfield 94, 3) := by decide +kernel
theorem dX6_blockersOf_47 : decode cX6_blockersOf 47 = .ok (.ifCond .eq 28, 3) := by decide +kernel
theorem dX6_blockersOf_50 : decode cX6_blockersOf 50 = .ok (.aload_n 0, 1) := by decide +kernel
theorem dX6_blockersOf_51 : decode cX6_blockersOf 51 = .ok (.getfield 18, 3) := by decide +kernel
theorem dX6_blockersOf_54 : decode cX6_blockersOf 54 = .ok (.iload_n 2, 1) := by decide +kernel
theorem dX6_blockersOf_55 : decode cX6_blockersOf 55 = .ok (.aload 6, 2) := by decide +kernel
theorem dX6_blockersOf_57 : decode cX6_blockersOf 57 = .ok (.getfield 97, 3) := by decide +kernel
theorem dX6_blockersOf_60 : decode cX6_blockersOf 60 = .ok (.invokevirtual 100, 3) := by decide +kernel
theorem dX6_blockersOf_63 : decode cX6_blockersOf 63 = .ok (.ifCond .eq 12, 3) := by decide +kernel
theorem dX6_blockersOf_66 : decode cX6_blockersOf 66 = .ok (.iload 4, 2) := by decide +kernel
theorem dX6_blockersOf_68 : decode cX6_blockersOf 68 = .ok (.iconst 1, 1) := by decide +kernel
theorem dX6_blockersOf_69 : decode cX6_blockersOf 69 = .ok (.iload 5, 2) := by decide +kernel
theorem dX6_blockersOf_71 : decode cX6_blockersOf 71 = .ok (.ishl, 1) := by decide +kernel
theorem dX6_blockersOf_72 : decode cX6_blockersOf 72 = .ok (.ior, 1) := by decide +kernel
theorem dX6_blockersOf_73 : decode cX6_blockersOf 73 = .ok (.istore 4, 2) := by decide +kernel
theorem dX6_blockersOf_75 : decode cX6_blockersOf 75 = .ok (.iinc 5 1, 3) := by decide +kernel
theorem dX6_blockersOf_78 : decode cX6_blockersOf 78 = .ok (.goto (-72), 3) := by decide +kernel
theorem dX6_blockersOf_81 : decode cX6_blockersOf 81 = .ok (.iload 4, 2) := by decide +kernel
theorem dX6_blockersOf_83 : decode cX6_blockersOf 83 = .ok (.ireturn, 1) := by decide +kernel
theorem dX6_beginLease_0 : decode cX6_beginLease 0 = .ok (.aload_n 0, 1) := by decide +kernel
theorem dX6_beginLease_1 : decode cX6_beginLease 1 = .ok (.getfield 31, 3) := by decide +kernel
theorem dX6_beginLease_4 : decode cX6_beginLease 4 = .ok (.iload_n 1, 1) := by decide +kernel
theorem dX6_beginLease_5 : decode cX6_beginLease 5 = .ok (.aaload, 1) := by decide +kernel
theorem dX6_beginLease_6 : decode cX6_beginLease 6 = .ok (.astore 5, 2) := by decide +kernel
theorem dX6_beginLease_8 : decode cX6_beginLease 8 = .ok (.aload 5, 2) := by decide +kernel
theorem dX6_beginLease_10 : decode cX6_beginLease 10 = .ok (.iconst 1, 1) := by decide +kernel
theorem dX6_beginLease_11 : decode cX6_beginLease 11 = .ok (.putfield 57, 3) := by decide +kernel
theorem dX6_beginLease_14 : decode cX6_beginLease 14 = .ok (.aload 5, 2) := by decide +kernel
theorem dX6_beginLease_16 : decode cX6_beginLease 16 = .ok (.iload_n 2, 1) := by decide +kernel
theorem dX6_beginLease_17 : decode cX6_beginLease 17 = .ok (.putfield 97, 3) := by decide +kernel
theorem dX6_beginLease_20 : decode cX6_beginLease 20 = .ok (.aload 5, 2) := by decide +kernel
theorem dX6_beginLease_22 : decode cX6_beginLease 22 = .ok (.aload_n 0, 1) := by decide +kernel
theorem dX6_beginLease_23 : decode cX6_beginLease 23 = .ok (.getfield 43, 3) := by decide +kernel
theorem dX6_beginLease_26 : decode cX6_beginLease 26 = .ok (.iload_n 3, 1) := by decide +kernel
theorem dX6_beginLease_27 : decode cX6_beginLease 27 = .ok (.iadd, 1) := by decide +kernel
theorem dX6_beginLease_28 : decode cX6_beginLease 28 = .ok (.putfield 104, 3) := by decide +kernel
theorem dX6_beginLease_31 : decode cX6_beginLease 31 = .ok (.aload 5, 2) := by decide +kernel
theorem dX6_beginLease_33 : decode cX6_beginLease 33 = .ok (.iload 4, 2) := by decide +kernel
theorem dX6_beginLease_35 : decode cX6_beginLease 35 = .ok (.putfield 94, 3) := by decide +kernel
theorem dX6_beginLease_38 : decode cX6_beginLease 38 = .ok (.aload 5, 2) := by decide +kernel
theorem dX6_beginLease_40 : decode cX6_beginLease 40 = .ok (.lconst 0, 1) := by decide +kernel
theorem dX6_beginLease_41 : decode cX6_beginLease 41 = .ok (.putfield 107, 3) := by decide +kernel
theorem dX6_beginLease_44 : decode cX6_beginLease 44 = .ok (.aload 5, 2) := by decide +kernel
theorem dX6_beginLease_46 : decode cX6_beginLease 46 = .ok (.getfield 110, 3) := by decide +kernel
theorem dX6_beginLease_49 : decode cX6_beginLease 49 = .ok (.aload_n 0, 1) := by decide +kernel
theorem dX6_beginLease_50 : decode cX6_beginLease 50 = .ok (.getfield 25, 3) := by decide +kernel
theorem dX6_beginLease_53 : decode cX6_beginLease 53 = .ok (.invokevirtual 74, 3) := by decide +kernel
theorem dX6_beginLease_56 : decode cX6_beginLease 56 = .ok (.aload 5, 2) := by decide +kernel
theorem dX6_beginLease_58 : decode cX6_beginLease 58 = .ok (.getfield 110, 3) := by decide +kernel
theorem dX6_beginLease_61 : decode cX6_beginLease 61 = .ok (.dup, 1) := by decide +kernel
theorem dX6_beginLease_62 : decode cX6_beginLease 62 = .ok (.getfield 91, 3) := by decide +kernel
theorem dX6_beginLease_65 : decode cX6_beginLease 65 = .ok (.aload_n 0, 1) := by decide +kernel
theorem dX6_beginLease_66 : decode cX6_beginLease 66 = .ok (.getfield 18, 3) := by decide +kernel
theorem dX6_beginLease_69 : decode cX6_beginLease 69 = .ok (.iload_n 2, 1) := by decide +kernel
theorem dX6_beginLease_70 : decode cX6_beginLease 70 = .ok (.invokevirtual 83, 3) := by decide +kernel
theorem dX6_beginLease_73 : decode cX6_beginLease 73 = .ok (.land, 1) := by decide +kernel
theorem dX6_beginLease_74 : decode cX6_beginLease 74 = .ok (.putfield 91, 3) := by decide +kernel
theorem dX6_beginLease_77 : decode cX6_beginLease 77 = .ok (.aload 5, 2) := by decide +kernel
theorem dX6_beginLease_79 : decode cX6_beginLease 79 = .ok (.getfield 113, 3) := by decide +kernel
theorem dX6_beginLease_82 : decode cX6_beginLease 82 = .ok (.aload 5, 2) := by decide +kernel
theorem dX6_beginLease_84 : decode cX6_beginLease 84 = .ok (.getfield 110, 3) := by decide +kernel
theorem dX6_beginLease_87 : decode cX6_beginLease 87 = .ok (.invokevirtual 74, 3) := by decide +kernel
theorem dX6_beginLease_90 : decode cX6_beginLease 90 = .ok (.aload 5, 2) := by decide +kernel
theorem dX6_beginLease_92 : decode cX6_beginLease 92 = .ok (.getfield 104, 3) := by decide +kernel
theorem dX6_beginLease_95 : decode cX6_beginLease 95 = .ok (.ireturn, 1) := by decide +kernel
theorem dX6_addToCopy_0 : decode cX6_addToCopy 0 = .ok (.aload_n 0, 1) := by decide +kernel
theorem dX6_addToCopy_1 : decode cX6_addToCopy 1 = .ok (.getfield 31, 3) := by decide +kernel
theorem dX6_addToCopy_4 : decode cX6_addToCopy 4 = .ok (.iload_n 1, 1) := by decide +kernel
theorem dX6_addToCopy_5 : decode cX6_addToCopy 5 = .ok (.aaload, 1) := by decide +kernel
theorem dX6_addToCopy_6 : decode cX6_addToCopy 6 = .ok (.astore 5, 2) := by decide +kernel
theorem dX6_addToCopy_8 : decode cX6_addToCopy 8 = .ok (.aload_n 0, 1) := by decide +kernel
theorem dX6_addToCopy_9 : decode cX6_addToCopy 9 = .ok (.getfield 18, 3) := by decide +kernel
theorem dX6_addToCopy_12 : decode cX6_addToCopy 12 = .ok (.iload_n 2, 1) := by decide +kernel
theorem dX6_addToCopy_13 : decode cX6_addToCopy 13 = .ok (.iload_n 3, 1) := by decide +kernel
theorem dX6_addToCopy_14 : decode cX6_addToCopy 14 = .ok (.iload 4, 2) := by decide +kernel
theorem dX6_addToCopy_16 : decode cX6_addToCopy 16 = .ok (.invokevirtual 116, 3) := by decide +kernel
theorem dX6_addToCopy_19 : decode cX6_addToCopy 19 = .ok (.istore 6, 2) := by decide +kernel
theorem dX6_addToCopy_21 : decode cX6_addToCopy 21 = .ok (.aload 5, 2) := by decide +kernel
theorem dX6_addToCopy_23 : decode cX6_addToCopy 23 = .ok (.dup, 1) := by decide +kernel
theorem dX6_addToCopy_24 : decode cX6_addToCopy 24 = .ok (.getfield 107, 3) := by decide +kernel
theorem dX6_addToCopy_27 : decode cX6_addToCopy 27 = .ok (.iload 6, 2) := by decide +kernel
theorem dX6_addToCopy_29 : decode cX6_addToCopy 29 = .ok (.invokestatic 120, 3) := by decide +kernel
theorem dX6_addToCopy_32 : decode cX6_addToCopy 32 = .ok (.lor, 1) := by decide +kernel
theorem dX6_addToCopy_33 : decode cX6_addToCopy 33 = .ok (.putfield 107, 3) := by decide +kernel
theorem dX6_addToCopy_36 : decode cX6_addToCopy 36 = .ok (.aload 5, 2) := by decide +kernel
theorem dX6_addToCopy_38 : decode cX6_addToCopy 38 = .ok (.getfield 113, 3) := by decide +kernel
theorem dX6_addToCopy_41 : decode cX6_addToCopy 41 = .ok (.dup, 1) := by decide +kernel
theorem dX6_addToCopy_42 : decode cX6_addToCopy 42 = .ok (.getfield 91, 3) := by decide +kernel
theorem dX6_addToCopy_45 : decode cX6_addToCopy 45 = .ok (.iload 6, 2) := by decide +kernel
theorem dX6_addToCopy_47 : decode cX6_addToCopy 47 = .ok (.invokestatic 120, 3) := by decide +kernel
theorem dX6_addToCopy_50 : decode cX6_addToCopy 50 = .ok (.lor, 1) := by decide +kernel
theorem dX6_addToCopy_51 : decode cX6_addToCopy 51 = .ok (.putfield 91, 3) := by decide +kernel
theorem dX6_addToCopy_54 : decode cX6_addToCopy 54 = .ok (.aload 5, 2) := by decide +kernel
theorem dX6_addToCopy_56 : decode cX6_addToCopy 56 = .ok (.getfield 113, 3) := by decide +kernel
theorem dX6_addToCopy_59 : decode cX6_addToCopy 59 = .ok (.iload 6, 2) := by decide +kernel
theorem dX6_addToCopy_61 : decode cX6_addToCopy 61 = .ok (.invokevirtual 123, 3) := by decide +kernel
theorem dX6_addToCopy_64 : decode cX6_addToCopy 64 = .ok (.iload 6, 2) := by decide +kernel
theorem dX6_addToCopy_66 : decode cX6_addToCopy 66 = .ok (.ireturn, 1) := by decide +kernel
theorem dX6_changedIn_0 : decode cX6_changedIn 0 = .ok (.iconst 0, 1) := by decide +kernel
theorem dX6_changedIn_1 : decode cX6_changedIn 1 = .ok (.istore_n 2, 1) := by decide +kernel
theorem dX6_changedIn_2 : decode cX6_changedIn 2 = .ok (.iconst 0, 1) := by decide +kernel
theorem dX6_changedIn_3 : decode cX6_changedIn 3 = .ok (.istore_n 3, 1) := by decide +kernel
theorem dX6_changedIn_4 : decode cX6_changedIn 4 = .ok (.iload_n 3, 1) := by decide +kernel
theorem dX6_changedIn_5 : decode cX6_changedIn 5 = .ok (.aload_n 0, 1) := by decide +kernel
theorem dX6_changedIn_6 : decode cX6_changedIn 6 = .ok (.getfield 18, 3) := by decide +kernel
theorem dX6_changedIn_9 : decode cX6_changedIn 9 = .ok (.getfield 127, 3) := by decide +kernel
theorem dX6_changedIn_12 : decode cX6_changedIn 12 = .ok (.if_icmp .ge 22, 3) := by decide +kernel
theorem dX6_changedIn_15 : decode cX6_changedIn 15 = .ok (.iload_n 2, 1) := by decide +kernel
theorem dX6_changedIn_16 : decode cX6_changedIn 16 = .ok (.aload_n 0, 1) := by decide +kernel
theorem dX6_changedIn_17 : decode cX6_changedIn 17 = .ok (.getfield 31, 3) := by decide +kernel
theorem dX6_changedIn_20 : decode cX6_changedIn 20 = .ok (.iload_n 1, 1) := by decide +kernel
theorem dX6_changedIn_21 : decode cX6_changedIn 21 = .ok (.aaload, 1) := by decide +kernel
theorem dX6_changedIn_22 : decode cX6_changedIn 22 = .ok (.iload_n 3, 1) := by decide +kernel
theorem dX6_changedIn_23 : decode cX6_changedIn 23 = .ok (.invokevirtual 128, 3) := by decide +kernel
theorem dX6_changedIn_26 : decode cX6_changedIn 26 = .ok (.iadd, 1) := by decide +kernel
theorem dX6_changedIn_27 : decode cX6_changedIn 27 = .ok (.istore_n 2, 1) := by decide +kernel
theorem dX6_changedIn_28 : decode cX6_changedIn 28 = .ok (.iinc 3 1, 3) := by decide +kernel
theorem dX6_changedIn_31 : decode cX6_changedIn 31 = .ok (.goto (-27), 3) := by decide +kernel
theorem dX6_changedIn_34 : decode cX6_changedIn 34 = .ok (.iload_n 2, 1) := by decide +kernel
theorem dX6_changedIn_35 : decode cX6_changedIn 35 = .ok (.ireturn, 1) := by decide +kernel
theorem dX6_passTick_0 : decode cX6_passTick 0 = .ok (.aload_n 0, 1) := by decide +kernel
theorem dX6_passTick_1 : decode cX6_passTick 1 = .ok (.dup, 1) := by decide +kernel
theorem dX6_passTick_2 : decode cX6_passTick 2 = .ok (.getfield 43, 3) := by decide +kernel
theorem dX6_passTick_5 : decode cX6_passTick 5 = .ok (.iconst 1, 1) := by decide +kernel
theorem dX6_passTick_6 : decode cX6_passTick 6 = .ok (.iadd, 1) := by decide +kernel
theorem dX6_passTick_7 : decode cX6_passTick 7 = .ok (.putfield 43, 3) := by decide +kernel
theorem dX6_passTick_10 : decode cX6_passTick 10 = .ok (.iconst 0, 1) := by decide +kernel
theorem dX6_passTick_11 : decode cX6_passTick 11 = .ok (.istore_n 1, 1) := by decide +kernel
theorem dX6_passTick_12 : decode cX6_passTick 12 = .ok (.iconst 0, 1) := by decide +kernel
theorem dX6_passTick_13 : decode cX6_passTick 13 = .ok (.istore_n 2, 1) := by decide +kernel
theorem dX6_passTick_14 : decode cX6_passTick 14 = .ok (.iload_n 2, 1) := by decide +kernel
theorem dX6_passTick_15 : decode cX6_passTick 15 = .ok (.aload_n 0, 1) := by decide +kernel
theorem dX6_passTick_16 : decode cX6_passTick 16 = .ok (.getfield 50, 3) := by decide +kernel
theorem dX6_passTick_19 : decode cX6_passTick 19 = .ok (.if_icmp .ge 64, 3) := by decide +kernel
theorem dX6_passTick_22 : decode cX6_passTick 22 = .ok (.aload_n 0, 1) := by decide +kernel
theorem dX6_passTick_23 : decode cX6_passTick 23 = .ok (.getfield 31, 3) := by decide +kernel
theorem dX6_passTick_26 : decode cX6_passTick 26 = .ok (.iload_n 2, 1) := by decide +kernel
theorem dX6_passTick_27 : decode cX6_passTick 27 = .ok (.aaload, 1) := by decide +kernel
theorem dX6_passTick_28 : decode cX6_passTick 28 = .ok (.getfield 57, 3) := by decide +kernel
theorem dX6_passTick_31 : decode cX6_passTick 31 = .ok (.ifCond .eq 46, 3) := by decide +kernel
theorem dX6_passTick_34 : decode cX6_passTick 34 = .ok (.aload_n 0, 1) := by decide +kernel
theorem dX6_passTick_35 : decode cX6_passTick 35 = .ok (.getfield 31, 3) := by decide +kernel
theorem dX6_passTick_38 : decode cX6_passTick 38 = .ok (.iload_n 2, 1) := by decide +kernel
theorem dX6_passTick_39 : decode cX6_passTick 39 = .ok (.aaload, 1) := by decide +kernel
theorem dX6_passTick_40 : decode cX6_passTick 40 = .ok (.getfield 104, 3) := by decide +kernel
theorem dX6_passTick_43 : decode cX6_passTick 43 = .ok (.aload_n 0, 1) := by decide +kernel
theorem dX6_passTick_44 : decode cX6_passTick 44 = .ok (.getfield 43, 3) := by decide +kernel
theorem dX6_passTick_47 : decode cX6_passTick 47 = .ok (.if_icmp .ne 30, 3) := by decide +kernel
theorem dX6_passTick_50 : decode cX6_passTick 50 = .ok (.aload_n 0, 1) := by decide +kernel
theorem dX6_passTick_51 : decode cX6_passTick 51 = .ok (.iload_n 2, 1) := by decide +kernel
theorem dX6_passTick_52 : decode cX6_passTick 52 = .ok (.aload_n 0, 1) := by decide +kernel
theorem dX6_passTick_53 : decode cX6_passTick 53 = .ok (.getfield 25, 3) := by decide +kernel
theorem dX6_passTick_56 : decode cX6_passTick 56 = .ok (.aload_n 0, 1) := by decide +kernel
theorem dX6_passTick_57 : decode cX6_passTick 57 = .ok (.getfield 38, 3) := by decide +kernel
theorem dX6_passTick_60 : decode cX6_passTick 60 = .ok (.invokevirtual 132, 3) := by decide +kernel
theorem dX6_passTick_63 : decode cX6_passTick 63 = .ok (.pop, 1) := by decide +kernel
theorem dX6_passTick_64 : decode cX6_passTick 64 = .ok (.aload_n 0, 1) := by decide +kernel
theorem dX6_passTick_65 : decode cX6_passTick 65 = .ok (.getfield 31, 3) := by decide +kernel
theorem dX6_passTick_68 : decode cX6_passTick 68 = .ok (.iload_n 2, 1) := by decide +kernel
theorem dX6_passTick_69 : decode cX6_passTick 69 = .ok (.aaload, 1) := by decide +kernel
theorem dX6_passTick_70 : decode cX6_passTick 70 = .ok (.iconst 0, 1) := by decide +kernel
theorem dX6_passTick_71 : decode cX6_passTick 71 = .ok (.putfield 57, 3) := by decide +kernel
theorem dX6_passTick_74 : decode cX6_passTick 74 = .ok (.iinc 1 1, 3) := by decide +kernel
theorem dX6_passTick_77 : decode cX6_passTick 77 = .ok (.iinc 2 1, 3) := by decide +kernel
theorem dX6_passTick_80 : decode cX6_passTick 80 = .ok (.goto (-66), 3) := by decide +kernel
theorem dX6_passTick_83 : decode cX6_passTick 83 = .ok (.iload_n 1, 1) := by decide +kernel
theorem dX6_passTick_84 : decode cX6_passTick 84 = .ok (.ireturn, 1) := by decide +kernel
theorem dX6_merge_0 : decode cX6_merge 0 = .ok (.aload_n 0, 1) := by decide +kernel
theorem dX6_merge_1 : decode cX6_merge 1 = .ok (.iload_n 1, 1) := by decide +kernel
theorem dX6_merge_2 : decode cX6_merge 2 = .ok (.aload_n 2, 1) := by decide +kernel
theorem dX6_merge_3 : decode cX6_merge 3 = .ok (.aload_n 3, 1) := by decide +kernel
theorem dX6_merge_4 : decode cX6_merge 4 = .ok (.invokevirtual 136, 3) := by decide +kernel
theorem dX6_merge_7 : decode cX6_merge 7 = .ok (.aload_n 0, 1) := by decide +kernel
theorem dX6_merge_8 : decode cX6_merge 8 = .ok (.iload_n 1, 1) := by decide +kernel
theorem dX6_merge_9 : decode cX6_merge 9 = .ok (.aload_n 2, 1) := by decide +kernel
theorem dX6_merge_10 : decode cX6_merge 10 = .ok (.aload_n 3, 1) := by decide +kernel
theorem dX6_merge_11 : decode cX6_merge 11 = .ok (.invokevirtual 139, 3) := by decide +kernel
theorem dX6_merge_14 : decode cX6_merge 14 = .ok (.iadd, 1) := by decide +kernel
theorem dX6_merge_15 : decode cX6_merge 15 = .ok (.aload_n 0, 1) := by decide +kernel
theorem dX6_merge_16 : decode cX6_merge 16 = .ok (.iload_n 1, 1) := by decide +kernel
theorem dX6_merge_17 : decode cX6_merge 17 = .ok (.aload_n 2, 1) := by decide +kernel
theorem dX6_merge_18 : decode cX6_merge 18 = .ok (.aload_n 3, 1) := by decide +kernel
theorem dX6_merge_19 : decode cX6_merge 19 = .ok (.invokevirtual 142, 3) := by decide +kernel
theorem dX6_merge_22 : decode cX6_merge 22 = .ok (.iadd, 1) := by decide +kernel
theorem dX6_merge_23 : decode cX6_merge 23 = .ok (.ireturn, 1) := by decide +kernel
theorem dX6_joinAdded_0 : decode cX6_joinAdded 0 = .ok (.aload_n 0, 1) := by decide +kernel
theorem dX6_joinAdded_1 : decode cX6_joinAdded 1 = .ok (.getfield 31, 3) := by decide +kernel
theorem dX6_joinAdded_4 : decode cX6_joinAdded 4 = .ok (.iload_n 1, 1) := by decide +kernel
theorem dX6_joinAdded_5 : decode cX6_joinAdded 5 = .ok (.aaload, 1) := by decide +kernel
theorem dX6_joinAdded_6 : decode cX6_joinAdded 6 = .ok (.astore 4, 2) := by decide +kernel
theorem dX6_joinAdded_8 : decode cX6_joinAdded 8 = .ok (.iconst 0, 1) := by decide +kernel
theorem dX6_joinAdded_9 : decode cX6_joinAdded 9 = .ok (.istore 5, 2) := by decide +kernel
theorem dX6_joinAdded_11 : decode cX6_joinAdded 11 = .ok (.iconst 1, 1) := by decide +kernel
theorem dX6_joinAdded_12 : decode cX6_joinAdded 12 = .ok (.istore 6, 2) := by decide +kernel
theorem dX6_joinAdded_14 : decode cX6_joinAdded 14 = .ok (.iload 6, 2) := by decide +kernel
theorem dX6_joinAdded_16 : decode cX6_joinAdded 16 = .ok (.aload_n 0, 1) := by decide +kernel
theorem dX6_joinAdded_17 : decode cX6_joinAdded 17 = .ok (.getfield 18, 3) := by decide +kernel
theorem dX6_joinAdded_20 : decode cX6_joinAdded 20 = .ok (.getfield 127, 3) := by decide +kernel
theorem dX6_joinAdded_23 : decode cX6_joinAdded 23 = .ok (.if_icmp .ge 151, 3) := by decide +kernel
theorem dX6_joinAdded_26 : decode cX6_joinAdded 26 = .ok (.aload 4, 2) := by decide +kernel
theorem dX6_joinAdded_28 : decode cX6_joinAdded 28 = .ok (.getfield 107, 3) := by decide +kernel
theorem dX6_joinAdded_31 : decode cX6_joinAdded 31 = .ok (.aload 4, 2) := by decide +kernel
theorem dX6_joinAdded_33 : decode cX6_joinAdded 33 = .ok (.getfield 113, 3) := by decide +kernel
theorem dX6_joinAdded_36 : decode cX6_joinAdded 36 = .ok (.getfield 91, 3) := by decide +kernel
theorem dX6_joinAdded_39 : decode cX6_joinAdded 39 = .ok (.land, 1) := by decide +kernel
theorem dX6_joinAdded_40 : decode cX6_joinAdded 40 = .ok (.iload 6, 2) := by decide +kernel
theorem dX6_joinAdded_42 : decode cX6_joinAdded 42 = .ok (.invokestatic 145, 3) := by decide +kernel
theorem dX6_joinAdded_45 : decode cX6_joinAdded 45 = .ok (.ifCond .ne 6, 3) := by decide +kernel
theorem dX6_joinAdded_48 : decode cX6_joinAdded 48 = .ok (.goto 120, 3) := by decide +kernel
theorem dX6_joinAdded_51 : decode cX6_joinAdded 51 = .ok (.aload_n 2, 1) := by decide +kernel
theorem dX6_joinAdded_52 : decode cX6_joinAdded 52 = .ok (.aload_n 0, 1) := by decide +kernel
theorem dX6_joinAdded_53 : decode cX6_joinAdded 53 = .ok (.getfield 18, 3) := by decide +kernel
theorem dX6_joinAdded_56 : decode cX6_joinAdded 56 = .ok (.getfield 149, 3) := by decide +kernel
theorem dX6_joinAdded_59 : decode cX6_joinAdded 59 = .ok (.iload 6, 2) := by decide +kernel
theorem dX6_joinAdded_61 : decode cX6_joinAdded 61 = .ok (.iaload, 1) := by decide +kernel
theorem dX6_joinAdded_62 : decode cX6_joinAdded 62 = .ok (.invokevirtual 152, 3) := by decide +kernel
theorem dX6_joinAdded_65 : decode cX6_joinAdded 65 = .ok (.ifCond .ne 23, 3) := by decide +kernel
theorem dX6_joinAdded_68 : decode cX6_joinAdded 68 = .ok (.aload_n 3, 1) := by decide +kernel
theorem dX6_joinAdded_69 : decode cX6_joinAdded 69 = .ok (.iconst 2, 1) := by decide +kernel
theorem dX6_joinAdded_70 : decode cX6_joinAdded 70 = .ok (.iload 6, 2) := by decide +kernel
theorem dX6_joinAdded_72 : decode cX6_joinAdded 72 = .ok (.iconst (-1), 1) := by decide +kernel
theorem dX6_joinAdded_73 : decode cX6_joinAdded 73 = .ok (.iconst 0, 1) := by decide +kernel
theorem dX6_joinAdded_74 : decode cX6_joinAdded 74 = .ok (.iload_n 1, 1) := by decide +kernel
theorem dX6_joinAdded_75 : decode cX6_joinAdded 75 = .ok (.aload_n 0, 1) := by decide +kernel
theorem dX6_joinAdded_76 : decode cX6_joinAdded 76 = .ok (.getfield 43, 3) := by decide +kernel
theorem dX6_joinAdded_79 : decode cX6_joinAdded 79 = .ok (.invokevirtual 156, 3) := by decide +kernel
theorem dX6_joinAdded_82 : decode cX6_joinAdded 82 = .ok (.iinc 5 1, 3) := by decide +kernel
theorem dX6_joinAdded_85 : decode cX6_joinAdded 85 = .ok (.goto 83, 3) := by decide +kernel
theorem dX6_joinAdded_88 : decode cX6_joinAdded 88 = .ok (.aload_n 0, 1) := by decide +kernel
theorem dX6_joinAdded_89 : decode cX6_joinAdded 89 = .ok (.getfield 18, 3) := by decide +kernel
theorem dX6_joinAdded_92 : decode cX6_joinAdded 92 = .ok (.aload_n 2, 1) := by decide +kernel
theorem dX6_joinAdded_93 : decode cX6_joinAdded 93 = .ok (.getfield 91, 3) := by decide +kernel
theorem dX6_joinAdded_96 : decode cX6_joinAdded 96 = .ok (.aload_n 0, 1) := by decide +kernel
theorem dX6_joinAdded_97 : decode cX6_joinAdded 97 = .ok (.getfield 18, 3) := by decide +kernel
theorem dX6_joinAdded_100 : decode cX6_joinAdded 100 = .ok (.getfield 149, 3) := by decide +kernel
theorem dX6_joinAdded_103 : decode cX6_joinAdded 103 = .ok (.iload 6, 2) := by decide +kernel
theorem dX6_joinAdded_105 : decode cX6_joinAdded 105 = .ok (.iaload, 1) := by decide +kernel
theorem dX6_joinAdded_106 : decode cX6_joinAdded 106 = .ok (.aload_n 0, 1) := by decide +kernel
theorem dX6_joinAdded_107 : decode cX6_joinAdded 107 = .ok (.getfield 18, 3) := by decide +kernel
theorem dX6_joinAdded_110 : decode cX6_joinAdded 110 = .ok (.getfield 160, 3) := by decide +kernel
theorem dX6_joinAdded_113 : decode cX6_joinAdded 113 = .ok (.iload 6, 2) := by decide +kernel
theorem dX6_joinAdded_115 : decode cX6_joinAdded 115 = .ok (.iaload, 1) := by decide +kernel
theorem dX6_joinAdded_116 : decode cX6_joinAdded 116 = .ok (.invokevirtual 163, 3) := by decide +kernel
theorem dX6_joinAdded_119 : decode cX6_joinAdded 119 = .ok (.iconst (-1), 1) := by decide +kernel
theorem dX6_joinAdded_120 : decode cX6_joinAdded 120 = .ok (.if_icmp .eq 23, 3) := by decide +kernel
theorem dX6_joinAdded_123 : decode cX6_joinAdded 123 = .ok (.aload_n 3, 1) := by decide +kernel
theorem dX6_joinAdded_124 : decode cX6_joinAdded 124 = .ok (.iconst 3, 1) := by decide +kernel
theorem dX6_joinAdded_125 : decode cX6_joinAdded 125 = .ok (.iload 6, 2) := by decide +kernel
theorem dX6_joinAdded_127 : decode cX6_joinAdded 127 = .ok (.iconst (-1), 1) := by decide +kernel
theorem dX6_joinAdded_128 : decode cX6_joinAdded 128 = .ok (.iconst 0, 1) := by decide +kernel
theorem dX6_joinAdded_129 : decode cX6_joinAdded 129 = .ok (.iload_n 1, 1) := by decide +kernel
theorem dX6_joinAdded_130 : decode cX6_joinAdded 130 = .ok (.aload_n 0, 1) := by decide +kernel
theorem dX6_joinAdded_131 : decode cX6_joinAdded 131 = .ok (.getfield 43, 3) := by decide +kernel
theorem dX6_joinAdded_134 : decode cX6_joinAdded 134 = .ok (.invokevirtual 156, 3) := by decide +kernel
theorem dX6_joinAdded_137 : decode cX6_joinAdded 137 = .ok (.iinc 5 1, 3) := by decide +kernel
theorem dX6_joinAdded_140 : decode cX6_joinAdded 140 = .ok (.goto 28, 3) := by decide +kernel
theorem dX6_joinAdded_143 : decode cX6_joinAdded 143 = .ok (.aload_n 2, 1) := by decide +kernel
theorem dX6_joinAdded_144 : decode cX6_joinAdded 144 = .ok (.dup, 1) := by decide +kernel
theorem dX6_joinAdded_145 : decode cX6_joinAdded 145 = .ok (.getfield 91, 3) := by decide +kernel
theorem dX6_joinAdded_148 : decode cX6_joinAdded 148 = .ok (.iload 6, 2) := by decide +kernel
theorem dX6_joinAdded_150 : decode cX6_joinAdded 150 = .ok (.invokestatic 120, 3) := by decide +kernel
theorem dX6_joinAdded_153 : decode cX6_joinAdded 153 = .ok (.lor, 1) := by decide +kernel
theorem dX6_joinAdded_154 : decode cX6_joinAdded 154 = .ok (.putfield 91, 3) := by decide +kernel
theorem dX6_joinAdded_157 : decode cX6_joinAdded 157 = .ok (.aload_n 2, 1) := by decide +kernel
theorem dX6_joinAdded_158 : decode cX6_joinAdded 158 = .ok (.aload 4, 2) := by decide +kernel
theorem dX6_joinAdded_160 : decode cX6_joinAdded 160 = .ok (.getfield 113, 3) := by decide +kernel
theorem dX6_joinAdded_163 : decode cX6_joinAdded 163 = .ok (.iload 6, 2) := by decide +kernel
theorem dX6_joinAdded_165 : decode cX6_joinAdded 165 = .ok (.invokevirtual 167, 3) := by decide +kernel
theorem dX6_joinAdded_168 : decode cX6_joinAdded 168 = .ok (.iinc 6 1, 3) := by decide +kernel
theorem dX6_joinAdded_171 : decode cX6_joinAdded 171 = .ok (.goto (-157), 3) := by decide +kernel
theorem dX6_joinAdded_174 : decode cX6_joinAdded 174 = .ok (.iload 5, 2) := by decide +kernel
theorem dX6_joinAdded_176 : decode cX6_joinAdded 176 = .ok (.ireturn, 1) := by decide +kernel
theorem dX6_joinChanged_0 : decode cX6_joinChanged 0 = .ok (.iconst 0, 1) := by decide +kernel
theorem dX6_joinChanged_1 : decode cX6_joinChanged 1 = .ok (.istore 4, 2) := by decide +kernel
theorem dX6_joinChanged_3 : decode cX6_joinChanged 3 = .ok (.iconst 0, 1) := by decide +kernel
theorem dX6_joinChanged_4 : decode cX6_joinChanged 4 = .ok (.istore 5, 2) := by decide +kernel
theorem dX6_joinChanged_6 : decode cX6_joinChanged 6 = .ok (.iload 5, 2) := by decide +kernel
theorem dX6_joinChanged_8 : decode cX6_joinChanged 8 = .ok (.aload_n 0, 1) := by decide +kernel
theorem dX6_joinChanged_9 : decode cX6_joinChanged 9 = .ok (.getfield 18, 3) := by decide +kernel
theorem dX6_joinChanged_12 : decode cX6_joinChanged 12 = .ok (.getfield 127, 3) := by decide +kernel
theorem dX6_joinChanged_15 : decode cX6_joinChanged 15 = .ok (.if_icmp .ge 69, 3) := by decide +kernel
theorem dX6_joinChanged_18 : decode cX6_joinChanged 18 = .ok (.aload_n 0, 1) := by decide +kernel
theorem dX6_joinChanged_19 : decode cX6_joinChanged 19 = .ok (.getfield 31, 3) := by decide +kernel
theorem dX6_joinChanged_22 : decode cX6_joinChanged 22 = .ok (.iload_n 1, 1) := by decide +kernel
theorem dX6_joinChanged_23 : decode cX6_joinChanged 23 = .ok (.aaload, 1) := by decide +kernel
theorem dX6_joinChanged_24 : decode cX6_joinChanged 24 = .ok (.iload 5, 2) := by decide +kernel
theorem dX6_joinChanged_26 : decode cX6_joinChanged 26 = .ok (.invokevirtual 128, 3) := by decide +kernel
theorem dX6_joinChanged_29 : decode cX6_joinChanged 29 = .ok (.ifCond .ne 6, 3) := by decide +kernel
theorem dX6_joinChanged_32 : decode cX6_joinChanged 32 = .ok (.goto 46, 3) := by decide +kernel
theorem dX6_joinChanged_35 : decode cX6_joinChanged 35 = .ok (.aload_n 2, 1) := by decide +kernel
theorem dX6_joinChanged_36 : decode cX6_joinChanged 36 = .ok (.iload 5, 2) := by decide +kernel
theorem dX6_joinChanged_38 : decode cX6_joinChanged 38 = .ok (.invokevirtual 152, 3) := by decide +kernel
theorem dX6_joinChanged_41 : decode cX6_joinChanged 41 = .ok (.ifCond .eq 20, 3) := by decide +kernel
theorem dX6_joinChanged_44 : decode cX6_joinChanged 44 = .ok (.iload 4, 2) := by decide +kernel
theorem dX6_joinChanged_46 : decode cX6_joinChanged 46 = .ok (.aload_n 0, 1) := by decide +kernel
theorem dX6_joinChanged_47 : decode cX6_joinChanged 47 = .ok (.iload_n 1, 1) := by decide +kernel
theorem dX6_joinChanged_48 : decode cX6_joinChanged 48 = .ok (.iload 5, 2) := by decide +kernel
theorem dX6_joinChanged_50 : decode cX6_joinChanged 50 = .ok (.aload_n 2, 1) := by decide +kernel
theorem dX6_joinChanged_51 : decode cX6_joinChanged 51 = .ok (.aload_n 3, 1) := by decide +kernel
theorem dX6_joinChanged_52 : decode cX6_joinChanged 52 = .ok (.invokevirtual 171, 3) := by decide +kernel
theorem dX6_joinChanged_55 : decode cX6_joinChanged 55 = .ok (.iadd, 1) := by decide +kernel
theorem dX6_joinChanged_56 : decode cX6_joinChanged 56 = .ok (.istore 4, 2) := by decide +kernel
theorem dX6_joinChanged_58 : decode cX6_joinChanged 58 = .ok (.goto 20, 3) := by decide +kernel
theorem dX6_joinChanged_61 : decode cX6_joinChanged 61 = .ok (.aload_n 3, 1) := by decide +kernel
theorem dX6_joinChanged_62 : decode cX6_joinChanged 62 = .ok (.iconst 1, 1) := by decide +kernel
theorem dX6_joinChanged_63 : decode cX6_joinChanged 63 = .ok (.iload 5, 2) := by decide +kernel
theorem dX6_joinChanged_65 : decode cX6_joinChanged 65 = .ok (.iconst (-1), 1) := by decide +kernel
theorem dX6_joinChanged_66 : decode cX6_joinChanged 66 = .ok (.iconst 0, 1) := by decide +kernel
theorem dX6_joinChanged_67 : decode cX6_joinChanged 67 = .ok (.iload_n 1, 1) := by decide +kernel
theorem dX6_joinChanged_68 : decode cX6_joinChanged 68 = .ok (.aload_n 0, 1) := by decide +kernel
theorem dX6_joinChanged_69 : decode cX6_joinChanged 69 = .ok (.getfield 43, 3) := by decide +kernel
theorem dX6_joinChanged_72 : decode cX6_joinChanged 72 = .ok (.invokevirtual 156, 3) := by decide +kernel
theorem dX6_joinChanged_75 : decode cX6_joinChanged 75 = .ok (.iinc 4 1, 3) := by decide +kernel
theorem dX6_joinChanged_78 : decode cX6_joinChanged 78 = .ok (.iinc 5 1, 3) := by decide +kernel
theorem dX6_joinChanged_81 : decode cX6_joinChanged 81 = .ok (.goto (-75), 3) := by decide +kernel
theorem dX6_joinChanged_84 : decode cX6_joinChanged 84 = .ok (.iload 4, 2) := by decide +kernel
theorem dX6_joinChanged_86 : decode cX6_joinChanged 86 = .ok (.ireturn, 1) := by decide +kernel
theorem dX6_joinFields_0 : decode cX6_joinFields 0 = .ok (.iconst 0, 1) := by decide +kernel
theorem dX6_joinFields_1 : decode cX6_joinFields 1 = .ok (.istore 5, 2) := by decide +kernel
theorem dX6_joinFields_3 : decode cX6_joinFields 3 = .ok (.iconst 0, 1) := by decide +kernel
theorem dX6_joinFields_4 : decode cX6_joinFields 4 = .ok (.istore 6, 2) := by decide +kernel
theorem dX6_joinFields_6 : decode cX6_joinFields 6 = .ok (.iload 6, 2) := by decide +kernel
theorem dX6_joinFields_8 : decode cX6_joinFields 8 = .ok (.aload_n 0, 1) := by decide +kernel
theorem dX6_joinFields_9 : decode cX6_joinFields 9 = .ok (.getfield 47, 3) := by decide +kernel
theorem dX6_joinFields_12 : decode cX6_joinFields 12 = .ok (.if_icmp .ge 129, 3) := by decide +kernel
theorem dX6_joinFields_15 : decode cX6_joinFields 15 = .ok (.aload_n 0, 1) := by decide +kernel
theorem dX6_joinFields_16 : decode cX6_joinFields 16 = .ok (.getfield 31, 3) := by decide +kernel
theorem dX6_joinFields_19 : decode cX6_joinFields 19 = .ok (.iload_n 1, 1) := by decide +kernel
theorem dX6_joinFields_20 : decode cX6_joinFields 20 = .ok (.aaload, 1) := by decide +kernel
theorem dX6_joinFields_21 : decode cX6_joinFields 21 = .ok (.getfield 110, 3) := by decide +kernel
theorem dX6_joinFields_24 : decode cX6_joinFields 24 = .ok (.iload_n 2, 1) := by decide +kernel
theorem dX6_joinFields_25 : decode cX6_joinFields 25 = .ok (.iload 6, 2) := by decide +kernel
theorem dX6_joinFields_27 : decode cX6_joinFields 27 = .ok (.invokevirtual 175, 3) := by decide +kernel
theorem dX6_joinFields_30 : decode cX6_joinFields 30 = .ok (.istore 7, 2) := by decide +kernel
theorem dX6_joinFields_32 : decode cX6_joinFields 32 = .ok (.aload_n 0, 1) := by decide +kernel
theorem dX6_joinFields_33 : decode cX6_joinFields 33 = .ok (.getfield 31, 3) := by decide +kernel
theorem dX6_joinFields_36 : decode cX6_joinFields 36 = .ok (.iload_n 1, 1) := by decide +kernel
theorem dX6_joinFields_37 : decode cX6_joinFields 37 = .ok (.aaload, 1) := by decide +kernel
theorem dX6_joinFields_38 : decode cX6_joinFields 38 = .ok (.getfield 113, 3) := by decide +kernel
theorem dX6_joinFields_41 : decode cX6_joinFields 41 = .ok (.iload_n 2, 1) := by decide +kernel
theorem dX6_joinFields_42 : decode cX6_joinFields 42 = .ok (.iload 6, 2) := by decide +kernel
theorem dX6_joinFields_44 : decode cX6_joinFields 44 = .ok (.invokevirtual 175, 3) := by decide +kernel
theorem dX6_joinFields_47 : decode cX6_joinFields 47 = .ok (.istore 8, 2) := by decide +kernel
theorem dX6_joinFields_49 : decode cX6_joinFields 49 = .ok (.aload_n 3, 1) := by decide +kernel
theorem dX6_joinFields_50 : decode cX6_joinFields 50 = .ok (.iload_n 2, 1) := by decide +kernel
theorem dX6_joinFields_51 : decode cX6_joinFields 51 = .ok (.iload 6, 2) := by decide +kernel
theorem dX6_joinFields_53 : decode cX6_joinFields 53 = .ok (.invokevirtual 175, 3) := by decide +kernel
theorem dX6_joinFields_56 : decode cX6_joinFields 56 = .ok (.istore 9, 2) := by decide +kernel
theorem dX6_joinFields_58 : decode cX6_joinFields 58 = .ok (.iload 8, 2) := by decide +kernel
theorem dX6_joinFields_60 : decode cX6_joinFields 60 = .ok (.iload 7, 2) := by decide +kernel
theorem dX6_joinFields_62 : decode cX6_joinFields 62 = .ok (.if_icmp .ne 6, 3) := by decide +kernel
theorem dX6_joinFields_65 : decode cX6_joinFields 65 = .ok (.goto 70, 3) := by decide +kernel
theorem dX6_joinFields_68 : decode cX6_joinFields 68 = .ok (.aload_n 3, 1) := by decide +kernel
theorem dX6_joinFields_69 : decode cX6_joinFields 69 = .ok (.iload_n 2, 1) := by decide +kernel
theorem dX6_joinFields_70 : decode cX6_joinFields 70 = .ok (.iload 6, 2) := by decide +kernel
theorem dX6_joinFields_72 : decode cX6_joinFields 72 = .ok (.aload_n 0, 1) := by decide +kernel
theorem dX6_joinFields_73 : decode cX6_joinFields 73 = .ok (.getfield 9, 3) := by decide +kernel
theorem dX6_joinFields_76 : decode cX6_joinFields 76 = .ok (.iload 6, 2) := by decide +kernel
theorem dX6_joinFields_78 : decode cX6_joinFields 78 = .ok (.iaload, 1) := by decide +kernel
theorem dX6_joinFields_79 : decode cX6_joinFields 79 = .ok (.iload 7, 2) := by decide +kernel
theorem dX6_joinFields_81 : decode cX6_joinFields 81 = .ok (.iload 8, 2) := by decide +kernel
theorem dX6_joinFields_83 : decode cX6_joinFields 83 = .ok (.iload 9, 2) := by decide +kernel
theorem dX6_joinFields_85 : decode cX6_joinFields 85 = .ok (.invokestatic 179, 3) := by decide +kernel
theorem dX6_joinFields_88 : decode cX6_joinFields 88 = .ok (.invokevirtual 183, 3) := by decide +kernel
theorem dX6_joinFields_91 : decode cX6_joinFields 91 = .ok (.aload_n 0, 1) := by decide +kernel
theorem dX6_joinFields_92 : decode cX6_joinFields 92 = .ok (.getfield 9, 3) := by decide +kernel
theorem dX6_joinFields_95 : decode cX6_joinFields 95 = .ok (.iload 6, 2) := by decide +kernel
theorem dX6_joinFields_97 : decode cX6_joinFields 97 = .ok (.iaload, 1) := by decide +kernel
theorem dX6_joinFields_98 : decode cX6_joinFields 98 = .ok (.iconst 4, 1) := by decide +kernel
theorem dX6_joinFields_99 : decode cX6_joinFields 99 = .ok (.if_icmp .ne 36, 3) := by decide +kernel
theorem dX6_joinFields_102 : decode cX6_joinFields 102 = .ok (.iload 9, 2) := by decide +kernel
theorem dX6_joinFields_104 : decode cX6_joinFields 104 = .ok (.iload 7, 2) := by decide +kernel
theorem dX6_joinFields_106 : decode cX6_joinFields 106 = .ok (.if_icmp .eq 29, 3) := by decide +kernel
theorem dX6_joinFields_109 : decode cX6_joinFields 109 = .ok (.iload 9, 2) := by decide +kernel
theorem dX6_joinFields_111 : decode cX6_joinFields 111 = .ok (.iload 8, 2) := by decide +kernel
theorem dX6_joinFields_113 : decode cX6_joinFields 113 = .ok (.if_icmp .eq 22, 3) := by decide +kernel
theorem dX6_joinFields_116 : decode cX6_joinFields 116 = .ok (.aload 4, 2) := by decide +kernel
theorem dX6_joinFields_118 : decode cX6_joinFields 118 = .ok (.iconst 0, 1) := by decide +kernel
theorem dX6_joinFields_119 : decode cX6_joinFields 119 = .ok (.iload_n 2, 1) := by decide +kernel
theorem dX6_joinFields_120 : decode cX6_joinFields 120 = .ok (.iload 6, 2) := by decide +kernel
theorem dX6_joinFields_122 : decode cX6_joinFields 122 = .ok (.iload 8, 2) := by decide +kernel
theorem dX6_joinFields_124 : decode cX6_joinFields 124 = .ok (.iload_n 1, 1) := by decide +kernel
theorem dX6_joinFields_125 : decode cX6_joinFields 125 = .ok (.aload_n 0, 1) := by decide +kernel
theorem dX6_joinFields_126 : decode cX6_joinFields 126 = .ok (.getfield 43, 3) := by decide +kernel
theorem dX6_joinFields_129 : decode cX6_joinFields 129 = .ok (.invokevirtual 156, 3) := by decide +kernel
theorem dX6_joinFields_132 : decode cX6_joinFields 132 = .ok (.iinc 5 1, 3) := by decide +kernel
theorem dX6_joinFields_135 : decode cX6_joinFields 135 = .ok (.iinc 6 1, 3) := by decide +kernel
theorem dX6_joinFields_138 : decode cX6_joinFields 138 = .ok (.goto (-132), 3) := by decide +kernel
theorem dX6_joinFields_141 : decode cX6_joinFields 141 = .ok (.iload 5, 2) := by decide +kernel
theorem dX6_joinFields_143 : decode cX6_joinFields 143 = .ok (.ireturn, 1) := by decide +kernel
theorem dX6_joinRemoved_0 : decode cX6_joinRemoved 0 = .ok (.aload_n 0, 1) := by decide +kernel
theorem dX6_joinRemoved_1 : decode cX6_joinRemoved 1 = .ok (.getfield 31, 3) := by decide +kernel
theorem dX6_joinRemoved_4 : decode cX6_joinRemoved 4 = .ok (.iload_n 1, 1) := by decide +kernel
theorem dX6_joinRemoved_5 : decode cX6_joinRemoved 5 = .ok (.aaload, 1) := by decide +kernel
theorem dX6_joinRemoved_6 : decode cX6_joinRemoved 6 = .ok (.astore 4, 2) := by decide +kernel
theorem dX6_joinRemoved_8 : decode cX6_joinRemoved 8 = .ok (.aload 4, 2) := by decide +kernel
theorem dX6_joinRemoved_10 : decode cX6_joinRemoved 10 = .ok (.getfield 110, 3) := by decide +kernel
theorem dX6_joinRemoved_13 : decode cX6_joinRemoved 13 = .ok (.getfield 91, 3) := by decide +kernel
theorem dX6_joinRemoved_16 : decode cX6_joinRemoved 16 = .ok (.aload 4, 2) := by decide +kernel
theorem dX6_joinRemoved_18 : decode cX6_joinRemoved 18 = .ok (.getfield 113, 3) := by decide +kernel
theorem dX6_joinRemoved_21 : decode cX6_joinRemoved 21 = .ok (.getfield 91, 3) := by decide +kernel
theorem dX6_joinRemoved_24 : decode cX6_joinRemoved 24 = .ok (.ldc2_w 187, 3) := by decide +kernel
theorem dX6_joinRemoved_27 : decode cX6_joinRemoved 27 = .ok (.lxor, 1) := by decide +kernel
theorem dX6_joinRemoved_28 : decode cX6_joinRemoved 28 = .ok (.land, 1) := by decide +kernel
theorem dX6_joinRemoved_29 : decode cX6_joinRemoved 29 = .ok (.lstore 5, 2) := by decide +kernel
theorem dX6_joinRemoved_31 : decode cX6_joinRemoved 31 = .ok (.iconst 0, 1) := by decide +kernel
theorem dX6_joinRemoved_32 : decode cX6_joinRemoved 32 = .ok (.istore 7, 2) := by decide +kernel
theorem dX6_joinRemoved_34 : decode cX6_joinRemoved 34 = .ok (.iconst 1, 1) := by decide +kernel
theorem dX6_joinRemoved_35 : decode cX6_joinRemoved 35 = .ok (.istore 8, 2) := by decide +kernel
theorem dX6_joinRemoved_37 : decode cX6_joinRemoved 37 = .ok (.iload 8, 2) := by decide +kernel
theorem dX6_joinRemoved_39 : decode cX6_joinRemoved 39 = .ok (.aload_n 0, 1) := by decide +kernel
theorem dX6_joinRemoved_40 : decode cX6_joinRemoved 40 = .ok (.getfield 18, 3) := by decide +kernel
theorem dX6_joinRemoved_43 : decode cX6_joinRemoved 43 = .ok (.getfield 127, 3) := by decide +kernel
theorem dX6_joinRemoved_46 : decode cX6_joinRemoved 46 = .ok (.if_icmp .ge 121, 3) := by decide +kernel
theorem dX6_joinRemoved_49 : decode cX6_joinRemoved 49 = .ok (.lload 5, 2) := by decide +kernel
theorem dX6_joinRemoved_51 : decode cX6_joinRemoved 51 = .ok (.iload 8, 2) := by decide +kernel
theorem dX6_joinRemoved_53 : decode cX6_joinRemoved 53 = .ok (.invokestatic 145, 3) := by decide +kernel
theorem dX6_joinRemoved_56 : decode cX6_joinRemoved 56 = .ok (.ifCond .eq 28, 3) := by decide +kernel
theorem dX6_joinRemoved_59 : decode cX6_joinRemoved 59 = .ok (.aload 4, 2) := by decide +kernel
theorem dX6_joinRemoved_61 : decode cX6_joinRemoved 61 = .ok (.getfield 113, 3) := by decide +kernel
theorem dX6_joinRemoved_64 : decode cX6_joinRemoved 64 = .ok (.aload_n 0, 1) := by decide +kernel
theorem dX6_joinRemoved_65 : decode cX6_joinRemoved 65 = .ok (.getfield 18, 3) := by decide +kernel
theorem dX6_joinRemoved_68 : decode cX6_joinRemoved 68 = .ok (.getfield 149, 3) := by decide +kernel
theorem dX6_joinRemoved_71 : decode cX6_joinRemoved 71 = .ok (.iload 8, 2) := by decide +kernel
theorem dX6_joinRemoved_73 : decode cX6_joinRemoved 73 = .ok (.iaload, 1) := by decide +kernel
theorem dX6_joinRemoved_74 : decode cX6_joinRemoved 74 = .ok (.invokevirtual 152, 3) := by decide +kernel
theorem dX6_joinRemoved_77 : decode cX6_joinRemoved 77 = .ok (.ifCond .eq 7, 3) := by decide +kernel
theorem dX6_joinRemoved_80 : decode cX6_joinRemoved 80 = .ok (.iconst 1, 1) := by decide +kernel
theorem dX6_joinRemoved_81 : decode cX6_joinRemoved 81 = .ok (.goto 4, 3) := by decide +kernel
theorem dX6_joinRemoved_84 : decode cX6_joinRemoved 84 = .ok (.iconst 0, 1) := by decide +kernel
theorem dX6_joinRemoved_85 : decode cX6_joinRemoved 85 = .ok (.istore 9, 2) := by decide +kernel
theorem dX6_joinRemoved_87 : decode cX6_joinRemoved 87 = .ok (.iload 9, 2) := by decide +kernel
theorem dX6_joinRemoved_89 : decode cX6_joinRemoved 89 = .ok (.ifCond .eq 72, 3) := by decide +kernel
theorem dX6_joinRemoved_92 : decode cX6_joinRemoved 92 = .ok (.aload_n 2, 1) := by decide +kernel
theorem dX6_joinRemoved_93 : decode cX6_joinRemoved 93 = .ok (.iload 8, 2) := by decide +kernel
theorem dX6_joinRemoved_95 : decode cX6_joinRemoved 95 = .ok (.invokevirtual 152, 3) := by decide +kernel
theorem dX6_joinRemoved_98 : decode cX6_joinRemoved 98 = .ok (.ifCond .ne 6, 3) := by decide +kernel
theorem dX6_joinRemoved_101 : decode cX6_joinRemoved 101 = .ok (.goto 60, 3) := by decide +kernel
theorem dX6_joinRemoved_104 : decode cX6_joinRemoved 104 = .ok (.aload_n 0, 1) := by decide +kernel
theorem dX6_joinRemoved_105 : decode cX6_joinRemoved 105 = .ok (.aload 4, 2) := by decide +kernel
theorem dX6_joinRemoved_107 : decode cX6_joinRemoved 107 = .ok (.getfield 110, 3) := by decide +kernel
theorem dX6_joinRemoved_110 : decode cX6_joinRemoved 110 = .ok (.iload 8, 2) := by decide +kernel
theorem dX6_joinRemoved_112 : decode cX6_joinRemoved 112 = .ok (.aload_n 2, 1) := by decide +kernel
theorem dX6_joinRemoved_113 : decode cX6_joinRemoved 113 = .ok (.invokevirtual 189, 3) := by decide +kernel
theorem dX6_joinRemoved_116 : decode cX6_joinRemoved 116 = .ok (.ifCond .eq 28, 3) := by decide +kernel
theorem dX6_joinRemoved_119 : decode cX6_joinRemoved 119 = .ok (.aload_n 2, 1) := by decide +kernel
theorem dX6_joinRemoved_120 : decode cX6_joinRemoved 120 = .ok (.dup, 1) := by decide +kernel
theorem dX6_joinRemoved_121 : decode cX6_joinRemoved 121 = .ok (.getfield 91, 3) := by decide +kernel
theorem dX6_joinRemoved_124 : decode cX6_joinRemoved 124 = .ok (.aload_n 0, 1) := by decide +kernel
theorem dX6_joinRemoved_125 : decode cX6_joinRemoved 125 = .ok (.getfield 18, 3) := by decide +kernel
theorem dX6_joinRemoved_128 : decode cX6_joinRemoved 128 = .ok (.iload 8, 2) := by decide +kernel
theorem dX6_joinRemoved_130 : decode cX6_joinRemoved 130 = .ok (.invokevirtual 83, 3) := by decide +kernel
theorem dX6_joinRemoved_133 : decode cX6_joinRemoved 133 = .ok (.ldc2_w 187, 3) := by decide +kernel
theorem dX6_joinRemoved_136 : decode cX6_joinRemoved 136 = .ok (.lxor, 1) := by decide +kernel
theorem dX6_joinRemoved_137 : decode cX6_joinRemoved 137 = .ok (.land, 1) := by decide +kernel
theorem dX6_joinRemoved_138 : decode cX6_joinRemoved 138 = .ok (.putfield 91, 3) := by decide +kernel
theorem dX6_joinRemoved_141 : decode cX6_joinRemoved 141 = .ok (.goto 20, 3) := by decide +kernel
theorem dX6_joinRemoved_144 : decode cX6_joinRemoved 144 = .ok (.aload_n 3, 1) := by decide +kernel
theorem dX6_joinRemoved_145 : decode cX6_joinRemoved 145 = .ok (.iconst 4, 1) := by decide +kernel
theorem dX6_joinRemoved_146 : decode cX6_joinRemoved 146 = .ok (.iload 8, 2) := by decide +kernel
theorem dX6_joinRemoved_148 : decode cX6_joinRemoved 148 = .ok (.iconst (-1), 1) := by decide +kernel
theorem dX6_joinRemoved_149 : decode cX6_joinRemoved 149 = .ok (.iconst 0, 1) := by decide +kernel
theorem dX6_joinRemoved_150 : decode cX6_joinRemoved 150 = .ok (.iload_n 1, 1) := by decide +kernel
theorem dX6_joinRemoved_151 : decode cX6_joinRemoved 151 = .ok (.aload_n 0, 1) := by decide +kernel
theorem dX6_joinRemoved_152 : decode cX6_joinRemoved 152 = .ok (.getfield 43, 3) := by decide +kernel
theorem dX6_joinRemoved_155 : decode cX6_joinRemoved 155 = .ok (.invokevirtual 156, 3) := by decide +kernel
theorem dX6_joinRemoved_158 : decode cX6_joinRemoved 158 = .ok (.iinc 7 1, 3) := by decide +kernel
theorem dX6_joinRemoved_161 : decode cX6_joinRemoved 161 = .ok (.iinc 8 1, 3) := by decide +kernel
theorem dX6_joinRemoved_164 : decode cX6_joinRemoved 164 = .ok (.goto (-127), 3) := by decide +kernel
theorem dX6_joinRemoved_167 : decode cX6_joinRemoved 167 = .ok (.iload 7, 2) := by decide +kernel
theorem dX6_joinRemoved_169 : decode cX6_joinRemoved 169 = .ok (.ireturn, 1) := by decide +kernel
theorem dX6_isAsInBase_0 : decode cX6_isAsInBase 0 = .ok (.aload_n 3, 1) := by decide +kernel
theorem dX6_isAsInBase_1 : decode cX6_isAsInBase 1 = .ok (.getfield 91, 3) := by decide +kernel
theorem dX6_isAsInBase_4 : decode cX6_isAsInBase 4 = .ok (.aload_n 0, 1) := by decide +kernel
theorem dX6_isAsInBase_5 : decode cX6_isAsInBase 5 = .ok (.getfield 18, 3) := by decide +kernel
theorem dX6_isAsInBase_8 : decode cX6_isAsInBase 8 = .ok (.iload_n 2, 1) := by decide +kernel
theorem dX6_isAsInBase_9 : decode cX6_isAsInBase 9 = .ok (.invokevirtual 83, 3) := by decide +kernel
theorem dX6_isAsInBase_12 : decode cX6_isAsInBase 12 = .ok (.land, 1) := by decide +kernel
theorem dX6_isAsInBase_13 : decode cX6_isAsInBase 13 = .ok (.lstore 4, 2) := by decide +kernel
theorem dX6_isAsInBase_15 : decode cX6_isAsInBase 15 = .ok (.iconst 0, 1) := by decide +kernel
theorem dX6_isAsInBase_16 : decode cX6_isAsInBase 16 = .ok (.istore 6, 2) := by decide +kernel
theorem dX6_isAsInBase_18 : decode cX6_isAsInBase 18 = .ok (.iload 6, 2) := by decide +kernel
theorem dX6_isAsInBase_20 : decode cX6_isAsInBase 20 = .ok (.aload_n 0, 1) := by decide +kernel
theorem dX6_isAsInBase_21 : decode cX6_isAsInBase 21 = .ok (.getfield 18, 3) := by decide +kernel
theorem dX6_isAsInBase_24 : decode cX6_isAsInBase 24 = .ok (.getfield 127, 3) := by decide +kernel
theorem dX6_isAsInBase_27 : decode cX6_isAsInBase 27 = .ok (.if_icmp .ge 40, 3) := by decide +kernel
theorem dX6_isAsInBase_30 : decode cX6_isAsInBase 30 = .ok (.lload 4, 2) := by decide +kernel
theorem dX6_isAsInBase_32 : decode cX6_isAsInBase 32 = .ok (.iload 6, 2) := by decide +kernel
theorem dX6_isAsInBase_34 : decode cX6_isAsInBase 34 = .ok (.invokestatic 145, 3) := by decide +kernel
theorem dX6_isAsInBase_37 : decode cX6_isAsInBase 37 = .ok (.ifCond .eq 24, 3) := by decide +kernel
theorem dX6_isAsInBase_40 : decode cX6_isAsInBase 40 = .ok (.aload_n 1, 1) := by decide +kernel
theorem dX6_isAsInBase_41 : decode cX6_isAsInBase 41 = .ok (.iload 6, 2) := by decide +kernel
theorem dX6_isAsInBase_43 : decode cX6_isAsInBase 43 = .ok (.invokevirtual 152, 3) := by decide +kernel
theorem dX6_isAsInBase_46 : decode cX6_isAsInBase 46 = .ok (.ifCond .eq 13, 3) := by decide +kernel
theorem dX6_isAsInBase_49 : decode cX6_isAsInBase 49 = .ok (.aload_n 3, 1) := by decide +kernel
theorem dX6_isAsInBase_50 : decode cX6_isAsInBase 50 = .ok (.aload_n 1, 1) := by decide +kernel
theorem dX6_isAsInBase_51 : decode cX6_isAsInBase 51 = .ok (.iload 6, 2) := by decide +kernel
theorem dX6_isAsInBase_53 : decode cX6_isAsInBase 53 = .ok (.invokevirtual 193, 3) := by decide +kernel
theorem dX6_isAsInBase_56 : decode cX6_isAsInBase 56 = .ok (.ifCond .le 5, 3) := by decide +kernel
theorem dX6_isAsInBase_59 : decode cX6_isAsInBase 59 = .ok (.iconst 0, 1) := by decide +kernel
theorem dX6_isAsInBase_60 : decode cX6_isAsInBase 60 = .ok (.ireturn, 1) := by decide +kernel
theorem dX6_isAsInBase_61 : decode cX6_isAsInBase 61 = .ok (.iinc 6 1, 3) := by decide +kernel
theorem dX6_isAsInBase_64 : decode cX6_isAsInBase 64 = .ok (.goto (-46), 3) := by decide +kernel
theorem dX6_isAsInBase_67 : decode cX6_isAsInBase 67 = .ok (.iconst 1, 1) := by decide +kernel
theorem dX6_isAsInBase_68 : decode cX6_isAsInBase 68 = .ok (.ireturn, 1) := by decide +kernel
theorem dX6_canAccept_0 : decode cX6_canAccept 0 = .ok (.aload_n 0, 1) := by decide +kernel
theorem dX6_canAccept_1 : decode cX6_canAccept 1 = .ok (.getfield 38, 3) := by decide +kernel
theorem dX6_canAccept_4 : decode cX6_canAccept 4 = .ok (.iload_n 1, 1) := by decide +kernel
theorem dX6_canAccept_5 : decode cX6_canAccept 5 = .ok (.iconst 0, 1) := by decide +kernel
theorem dX6_canAccept_6 : decode cX6_canAccept 6 = .ok (.invokevirtual 197, 3) := by decide +kernel
theorem dX6_canAccept_9 : decode cX6_canAccept 9 = .ok (.istore_n 2, 1) := by decide +kernel
theorem dX6_canAccept_10 : decode cX6_canAccept 10 = .ok (.iload_n 2, 1) := by decide +kernel
theorem dX6_canAccept_11 : decode cX6_canAccept 11 = .ok (.ifCond .eq 8, 3) := by decide +kernel
theorem dX6_canAccept_14 : decode cX6_canAccept 14 = .ok (.iload_n 2, 1) := by decide +kernel
theorem dX6_canAccept_15 : decode cX6_canAccept 15 = .ok (.iconst 4, 1) := by decide +kernel
theorem dX6_canAccept_16 : decode cX6_canAccept 16 = .ok (.if_icmp .ne 26, 3) := by decide +kernel
theorem dX6_canAccept_19 : decode cX6_canAccept 19 = .ok (.aload_n 0, 1) := by decide +kernel
theorem dX6_canAccept_20 : decode cX6_canAccept 20 = .ok (.getfield 25, 3) := by decide +kernel
theorem dX6_canAccept_23 : decode cX6_canAccept 23 = .ok (.aload_n 0, 1) := by decide +kernel
theorem dX6_canAccept_24 : decode cX6_canAccept 24 = .ok (.getfield 38, 3) := by decide +kernel
theorem dX6_canAccept_27 : decode cX6_canAccept 27 = .ok (.iload_n 1, 1) := by decide +kernel
theorem dX6_canAccept_28 : decode cX6_canAccept 28 = .ok (.iconst 1, 1) := by decide +kernel
theorem dX6_canAccept_29 : decode cX6_canAccept 29 = .ok (.invokevirtual 197, 3) := by decide +kernel
theorem dX6_canAccept_32 : decode cX6_canAccept 32 = .ok (.invokevirtual 152, 3) := by decide +kernel
theorem dX6_canAccept_35 : decode cX6_canAccept 35 = .ok (.ifCond .eq 7, 3) := by decide +kernel
theorem dX6_canAccept_38 : decode cX6_canAccept 38 = .ok (.iconst 1, 1) := by decide +kernel
theorem dX6_canAccept_39 : decode cX6_canAccept 39 = .ok (.goto 4, 3) := by decide +kernel
theorem dX6_canAccept_42 : decode cX6_canAccept 42 = .ok (.iconst 0, 1) := by decide +kernel
theorem dX6_canAccept_43 : decode cX6_canAccept 43 = .ok (.ireturn, 1) := by decide +kernel
theorem dX6_accept_0 : decode cX6_accept 0 = .ok (.aload_n 0, 1) := by decide +kernel
theorem dX6_accept_1 : decode cX6_accept 1 = .ok (.getfield 38, 3) := by decide +kernel
theorem dX6_accept_4 : decode cX6_accept 4 = .ok (.iload_n 1, 1) := by decide +kernel
theorem dX6_accept_5 : decode cX6_accept 5 = .ok (.iconst 1, 1) := by decide +kernel
theorem dX6_accept_6 : decode cX6_accept 6 = .ok (.invokevirtual 197, 3) := by decide +kernel
theorem dX6_accept_9 : decode cX6_accept 9 = .ok (.istore_n 2, 1) := by decide +kernel
theorem dX6_accept_10 : decode cX6_accept 10 = .ok (.aload_n 0, 1) := by decide +kernel
theorem dX6_accept_11 : decode cX6_accept 11 = .ok (.getfield 38, 3) := by decide +kernel
theorem dX6_accept_14 : decode cX6_accept 14 = .ok (.iload_n 1, 1) := by decide +kernel
theorem dX6_accept_15 : decode cX6_accept 15 = .ok (.iconst 0, 1) := by decide +kernel
theorem dX6_accept_16 : decode cX6_accept 16 = .ok (.invokevirtual 197, 3) := by decide +kernel
theorem dX6_accept_19 : decode cX6_accept 19 = .ok (.ifCond .ne 32, 3) := by decide +kernel
theorem dX6_accept_22 : decode cX6_accept 22 = .ok (.aload_n 0, 1) := by decide +kernel
theorem dX6_accept_23 : decode cX6_accept 23 = .ok (.getfield 25, 3) := by decide +kernel
theorem dX6_accept_26 : decode cX6_accept 26 = .ok (.iload_n 2, 1) := by decide +kernel
theorem dX6_accept_27 : decode cX6_accept 27 = .ok (.aload_n 0, 1) := by decide +kernel
theorem dX6_accept_28 : decode cX6_accept 28 = .ok (.getfield 38, 3) := by decide +kernel
theorem dX6_accept_31 : decode cX6_accept 31 = .ok (.iload_n 1, 1) := by decide +kernel
theorem dX6_accept_32 : decode cX6_accept 32 = .ok (.iconst 2, 1) := by decide +kernel
theorem dX6_accept_33 : decode cX6_accept 33 = .ok (.invokevirtual 197, 3) := by decide +kernel
theorem dX6_accept_36 : decode cX6_accept 36 = .ok (.aload_n 0, 1) := by decide +kernel
theorem dX6_accept_37 : decode cX6_accept 37 = .ok (.getfield 38, 3) := by decide +kernel
theorem dX6_accept_40 : decode cX6_accept 40 = .ok (.iload_n 1, 1) := by decide +kernel
theorem dX6_accept_41 : decode cX6_accept 41 = .ok (.iconst 3, 1) := by decide +kernel
theorem dX6_accept_42 : decode cX6_accept 42 = .ok (.invokevirtual 197, 3) := by decide +kernel
theorem dX6_accept_45 : decode cX6_accept 45 = .ok (.invokevirtual 183, 3) := by decide +kernel
theorem dX6_accept_48 : decode cX6_accept 48 = .ok (.goto 27, 3) := by decide +kernel
theorem dX6_accept_51 : decode cX6_accept 51 = .ok (.aload_n 0, 1) := by decide +kernel
theorem dX6_accept_52 : decode cX6_accept 52 = .ok (.getfield 25, 3) := by decide +kernel
theorem dX6_accept_55 : decode cX6_accept 55 = .ok (.dup, 1) := by decide +kernel
theorem dX6_accept_56 : decode cX6_accept 56 = .ok (.getfield 91, 3) := by decide +kernel
theorem dX6_accept_59 : decode cX6_accept 59 = .ok (.aload_n 0, 1) := by decide +kernel
theorem dX6_accept_60 : decode cX6_accept 60 = .ok (.getfield 18, 3) := by decide +kernel
theorem dX6_accept_63 : decode cX6_accept 63 = .ok (.iload_n 2, 1) := by decide +kernel
theorem dX6_accept_64 : decode cX6_accept 64 = .ok (.invokevirtual 83, 3) := by decide +kernel
theorem dX6_accept_67 : decode cX6_accept 67 = .ok (.ldc2_w 187, 3) := by decide +kernel
theorem dX6_accept_70 : decode cX6_accept 70 = .ok (.lxor, 1) := by decide +kernel
theorem dX6_accept_71 : decode cX6_accept 71 = .ok (.land, 1) := by decide +kernel
theorem dX6_accept_72 : decode cX6_accept 72 = .ok (.putfield 91, 3) := by decide +kernel
theorem dX6_accept_75 : decode cX6_accept 75 = .ok (.return_, 1) := by decide +kernel
theorem dX7_init_0 : decode cX7_init 0 = .ok (.aload_n 0, 1) := by decide +kernel
theorem dX7_init_1 : decode cX7_init 1 = .ok (.invokespecial 1, 3) := by decide +kernel
theorem dX7_init_4 : decode cX7_init 4 = .ok (.aload_n 0, 1) := by decide +kernel
theorem dX7_init_5 : decode cX7_init 5 = .ok (.new 7, 3) := by decide +kernel
theorem dX7_init_8 : decode cX7_init 8 = .ok (.dup, 1) := by decide +kernel
theorem dX7_init_9 : decode cX7_init 9 = .ok (.invokespecial 9, 3) := by decide +kernel
theorem dX7_init_12 : decode cX7_init 12 = .ok (.putfield 10, 3) := by decide +kernel
theorem dX7_init_15 : decode cX7_init 15 = .ok (.aload_n 0, 1) := by decide +kernel
theorem dX7_init_16 : decode cX7_init 16 = .ok (.new 7, 3) := by decide +kernel
theorem dX7_init_19 : decode cX7_init 19 = .ok (.dup, 1) := by decide +kernel
theorem dX7_init_20 : decode cX7_init 20 = .ok (.invokespecial 9, 3) := by decide +kernel
theorem dX7_init_23 : decode cX7_init 23 = .ok (.putfield 16, 3) := by decide +kernel
theorem dX7_init_26 : decode cX7_init 26 = .ok (.aload_n 0, 1) := by decide +kernel
theorem dX7_init_27 : decode cX7_init 27 = .ok (.new 19, 3) := by decide +kernel
theorem dX7_init_30 : decode cX7_init 30 = .ok (.dup, 1) := by decide +kernel
theorem dX7_init_31 : decode cX7_init 31 = .ok (.invokespecial 21, 3) := by decide +kernel
theorem dX7_init_34 : decode cX7_init 34 = .ok (.putfield 22, 3) := by decide +kernel
theorem dX7_init_37 : decode cX7_init 37 = .ok (.aload_n 0, 1) := by decide +kernel
theorem dX7_init_38 : decode cX7_init 38 = .ok (.new 26, 3) := by decide +kernel
theorem dX7_init_41 : decode cX7_init 41 = .ok (.dup, 1) := by decide +kernel
theorem dX7_init_42 : decode cX7_init 42 = .ok (.invokespecial 28, 3) := by decide +kernel
theorem dX7_init_45 : decode cX7_init 45 = .ok (.putfield 29, 3) := by decide +kernel
theorem dX7_init_48 : decode cX7_init 48 = .ok (.aload_n 0, 1) := by decide +kernel
theorem dX7_init_49 : decode cX7_init 49 = .ok (.new 33, 3) := by decide +kernel
theorem dX7_init_52 : decode cX7_init 52 = .ok (.dup, 1) := by decide +kernel
theorem dX7_init_53 : decode cX7_init 53 = .ok (.invokespecial 35, 3) := by decide +kernel
theorem dX7_init_56 : decode cX7_init 56 = .ok (.putfield 36, 3) := by decide +kernel
theorem dX7_init_59 : decode cX7_init 59 = .ok (.aload_n 0, 1) := by decide +kernel
theorem dX7_init_60 : decode cX7_init 60 = .ok (.new 33, 3) := by decide +kernel
theorem dX7_init_63 : decode cX7_init 63 = .ok (.dup, 1) := by decide +kernel
theorem dX7_init_64 : decode cX7_init 64 = .ok (.invokespecial 35, 3) := by decide +kernel
theorem dX7_init_67 : decode cX7_init 67 = .ok (.putfield 40, 3) := by decide +kernel
theorem dX7_init_70 : decode cX7_init 70 = .ok (.aload_n 0, 1) := by decide +kernel
theorem dX7_init_71 : decode cX7_init 71 = .ok (.new 43, 3) := by decide +kernel
theorem dX7_init_74 : decode cX7_init 74 = .ok (.dup, 1) := by decide +kernel
theorem dX7_init_75 : decode cX7_init 75 = .ok (.invokespecial 45, 3) := by decide +kernel
theorem dX7_init_78 : decode cX7_init 78 = .ok (.putfield 46, 3) := by decide +kernel
theorem dX7_init_81 : decode cX7_init 81 = .ok (.aload_n 0, 1) := by decide +kernel
theorem dX7_init_82 : decode cX7_init 82 = .ok (.getfield 10, 3) := by decide +kernel
theorem dX7_init_85 : decode cX7_init 85 = .ok (.invokevirtual 50, 3) := by decide +kernel
theorem dX7_init_88 : decode cX7_init 88 = .ok (.return_, 1) := by decide +kernel
theorem dX7_append_0 : decode cX7_append 0 = .ok (.iload_n 1, 1) := by decide +kernel
theorem dX7_append_1 : decode cX7_append 1 = .ok (.invokestatic 53, 3) := by decide +kernel
theorem dX7_append_4 : decode cX7_append 4 = .ok (.iload_n 2, 1) := by decide +kernel
theorem dX7_append_5 : decode cX7_append 5 = .ok (.invokestatic 53, 3) := by decide +kernel
theorem dX7_append_8 : decode cX7_append 8 = .ok (.iadd, 1) := by decide +kernel
theorem dX7_append_9 : decode cX7_append 9 = .ok (.iload_n 3, 1) := by decide +kernel
theorem dX7_append_10 : decode cX7_append 10 = .ok (.invokestatic 53, 3) := by decide +kernel
theorem dX7_append_13 : decode cX7_append 13 = .ok (.iadd, 1) := by decide +kernel
theorem dX7_append_14 : decode cX7_append 14 = .ok (.iload 4, 2) := by decide +kernel
theorem dX7_append_16 : decode cX7_append 16 = .ok (.invokestatic 53, 3) := by decide +kernel
theorem dX7_append_19 : decode cX7_append 19 = .ok (.iadd, 1) := by decide +kernel
theorem dX7_append_20 : decode cX7_append 20 = .ok (.iload 5, 2) := by decide +kernel
theorem dX7_append_22 : decode cX7_append 22 = .ok (.invokestatic 53, 3) := by decide +kernel
theorem dX7_append_25 : decode cX7_append 25 = .ok (.iadd, 1) := by decide +kernel
theorem dX7_append_26 : decode cX7_append 26 = .ok (.istore 6, 2) := by decide +kernel
theorem dX7_append_28 : decode cX7_append 28 = .ok (.aload_n 0, 1) := by decide +kernel
theorem dX7_append_29 : decode cX7_append 29 = .ok (.getfield 29, 3) := by decide +kernel
theorem dX7_append_32 : decode cX7_append 32 = .ok (.getfield 57, 3) := by decide +kernel
theorem dX7_append_35 : decode cX7_append 35 = .ok (.iload 6, 2) := by decide +kernel
theorem dX7_append_37 : decode cX7_append 37 = .ok (.iadd, 1) := by decide +kernel
theorem dX7_append_38 : decode cX7_append 38 = .ok (.sipush 600, 3) := by decide +kernel
theorem dX7_append_41 : decode cX7_append 41 = .ok (.if_icmp .le 13, 3) := by decide +kernel
theorem dX7_append_44 : decode cX7_append 44 = .ok (.new 61, 3) := by decide +kernel
theorem dX7_append_47 : decode cX7_append 47 = .ok (.dup, 1) := by decide +kernel
theorem dX7_append_48 : decode cX7_append 48 = .ok (.ldc 63, 2) := by decide +kernel
theorem dX7_append_50 : decode cX7_append 50 = .ok (.invokespecial 65, 3) := by decide +kernel
theorem dX7_append_53 : decode cX7_append 53 = .ok (.athrow, 1) := by decide +kernel
theorem dX7_append_54 : decode cX7_append 54 = .ok (.aload_n 0, 1) := by decide +kernel
theorem dX7_append_55 : decode cX7_append 55 = .ok (.getfield 29, 3) := by decide +kernel
theorem dX7_append_58 : decode cX7_append 58 = .ok (.iload_n 1, 1) := by decide +kernel
theorem dX7_append_59 : decode cX7_append 59 = .ok (.invokevirtual 68, 3) := by decide +kernel
theorem dX7_append_62 : decode cX7_append 62 = .ok (.aload_n 0, 1) := by decide +kernel
theorem dX7_append_63 : decode cX7_append 63 = .ok (.getfield 29, 3) := by decide +kernel
theorem dX7_append_66 : decode cX7_append 66 = .ok (.iload_n 2, 1) := by decide +kernel
theorem dX7_append_67 : decode cX7_append 67 = .ok (.invokevirtual 68, 3) := by decide +kernel
theorem dX7_append_70 : decode cX7_append 70 = .ok (.aload_n 0, 1) := by decide +kernel
theorem dX7_append_71 : decode cX7_append 71 = .ok (.getfield 29, 3) := by decide +kernel
theorem dX7_append_74 : decode cX7_append 74 = .ok (.iload_n 3, 1) := by decide +kernel
theorem dX7_append_75 : decode cX7_append 75 = .ok (.invokevirtual 68, 3) := by decide +kernel
theorem dX7_append_78 : decode cX7_append 78 = .ok (.aload_n 0, 1) := by decide +kernel
theorem dX7_append_79 : decode cX7_append 79 = .ok (.getfield 29, 3) := by decide +kernel
theorem dX7_append_82 : decode cX7_append 82 = .ok (.iload 4, 2) := by decide +kernel
theorem dX7_append_84 : decode cX7_append 84 = .ok (.invokevirtual 68, 3) := by decide +kernel
theorem dX7_append_87 : decode cX7_append 87 = .ok (.aload_n 0, 1) := by decide +kernel
theorem dX7_append_88 : decode cX7_append 88 = .ok (.getfield 29, 3) := by decide +kernel
theorem dX7_append_91 : decode cX7_append 91 = .ok (.iload 5, 2) := by decide +kernel
theorem dX7_append_93 : decode cX7_append 93 = .ok (.invokevirtual 68, 3) := by decide +kernel
theorem dX7_append_96 : decode cX7_append 96 = .ok (.aload_n 0, 1) := by decide +kernel
theorem dX7_append_97 : decode cX7_append 97 = .ok (.getfield 29, 3) := by decide +kernel
theorem dX7_append_100 : decode cX7_append 100 = .ok (.getfield 57, 3) := by decide +kernel
theorem dX7_append_103 : decode cX7_append 103 = .ok (.ireturn, 1) := by decide +kernel
theorem dX7_truncate_0 : decode cX7_truncate 0 = .ok (.iload_n 1, 1) := by decide +kernel
theorem dX7_truncate_1 : decode cX7_truncate 1 = .ok (.ifCond .lt 14, 3) := by decide +kernel
theorem dX7_truncate_4 : decode cX7_truncate 4 = .ok (.iload_n 1, 1) := by decide +kernel
theorem dX7_truncate_5 : decode cX7_truncate 5 = .ok (.aload_n 0, 1) := by decide +kernel
theorem dX7_truncate_6 : decode cX7_truncate 6 = .ok (.getfield 29, 3) := by decide +kernel
theorem dX7_truncate_9 : decode cX7_truncate 9 = .ok (.getfield 57, 3) := by decide +kernel
theorem dX7_truncate_12 : decode cX7_truncate 12 = .ok (.if_icmp .le 13, 3) := by decide +kernel
theorem dX7_truncate_15 : decode cX7_truncate 15 = .ok (.new 72, 3) := by decide +kernel
theorem dX7_truncate_18 : decode cX7_truncate 18 = .ok (.dup, 1) := by decide +kernel
theorem dX7_truncate_19 : decode cX7_truncate 19 = .ok (.ldc 74, 2) := by decide +kernel
theorem dX7_truncate_21 : decode cX7_truncate 21 = .ok (.invokespecial 76, 3) := by decide +kernel
theorem dX7_truncate_24 : decode cX7_truncate 24 = .ok (.athrow, 1) := by decide +kernel
theorem dX7_truncate_25 : decode cX7_truncate 25 = .ok (.aload_n 0, 1) := by decide +kernel
theorem dX7_truncate_26 : decode cX7_truncate 26 = .ok (.getfield 29, 3) := by decide +kernel
theorem dX7_truncate_29 : decode cX7_truncate 29 = .ok (.iload_n 1, 1) := by decide +kernel
theorem dX7_truncate_30 : decode cX7_truncate 30 = .ok (.putfield 57, 3) := by decide +kernel
theorem dX7_truncate_33 : decode cX7_truncate 33 = .ok (.iload_n 1, 1) := by decide +kernel
theorem dX7_truncate_34 : decode cX7_truncate 34 = .ok (.ireturn, 1) := by decide +kernel
theorem dX7_errorPosition_0 : decode cX7_errorPosition 0 = .ok (.aload_n 0, 1) := by decide +kernel
theorem dX7_errorPosition_1 : decode cX7_errorPosition 1 = .ok (.getfield 29, 3) := by decide +kernel
theorem dX7_errorPosition_4 : decode cX7_errorPosition 4 = .ok (.invokevirtual 77, 3) := by decide +kernel
theorem dX7_errorPosition_7 : decode cX7_errorPosition 7 = .ok (.ireturn, 1) := by decide +kernel
theorem dX7_load_0 : decode cX7_load 0 = .ok (.aload_n 0, 1) := by decide +kernel
theorem dX7_load_1 : decode cX7_load 1 = .ok (.getfield 29, 3) := by decide +kernel
theorem dX7_load_4 : decode cX7_load 4 = .ok (.invokevirtual 77, 3) := by decide +kernel
theorem dX7_load_7 : decode cX7_load 7 = .ok (.iconst (-1), 1) := by decide +kernel
theorem dX7_load_8 : decode cX7_load 8 = .ok (.if_icmp .eq 13, 3) := by decide +kernel
theorem dX7_load_11 : decode cX7_load 11 = .ok (.new 72, 3) := by decide +kernel
theorem dX7_load_14 : decode cX7_load 14 = .ok (.dup, 1) := by decide +kernel
theorem dX7_load_15 : decode cX7_load 15 = .ok (.ldc 81, 2) := by decide +kernel
theorem dX7_load_17 : decode cX7_load 17 = .ok (.invokespecial 76, 3) := by decide +kernel
theorem dX7_load_20 : decode cX7_load 20 = .ok (.athrow, 1) := by decide +kernel
theorem dX7_load_21 : decode cX7_load 21 = .ok (.aload_n 0, 1) := by decide +kernel
theorem dX7_load_22 : decode cX7_load 22 = .ok (.getfield 10, 3) := by decide +kernel
theorem dX7_load_25 : decode cX7_load 25 = .ok (.aload_n 0, 1) := by decide +kernel
theorem dX7_load_26 : decode cX7_load 26 = .ok (.getfield 29, 3) := by decide +kernel
theorem dX7_load_29 : decode cX7_load 29 = .ok (.getfield 83, 3) := by decide +kernel
theorem dX7_load_32 : decode cX7_load 32 = .ok (.invokevirtual 86, 3) := by decide +kernel
theorem dX7_load_35 : decode cX7_load 35 = .ok (.aload_n 0, 1) := by decide +kernel
theorem dX7_load_36 : decode cX7_load 36 = .ok (.getfield 29, 3) := by decide +kernel
theorem dX7_load_39 : decode cX7_load 39 = .ok (.iconst 0, 1) := by decide +kernel
theorem dX7_load_40 : decode cX7_load 40 = .ok (.putfield 57, 3) := by decide +kernel
theorem dX7_load_43 : decode cX7_load 43 = .ok (.aload_n 0, 1) := by decide +kernel
theorem dX7_load_44 : decode cX7_load 44 = .ok (.getfield 22, 3) := by decide +kernel
theorem dX7_load_47 : decode cX7_load 47 = .ok (.invokevirtual 90, 3) := by decide +kernel
theorem dX7_load_50 : decode cX7_load 50 = .ok (.aload_n 0, 1) := by decide +kernel
theorem dX7_load_51 : decode cX7_load 51 = .ok (.iconst 0, 1) := by decide +kernel
theorem dX7_load_52 : decode cX7_load 52 = .ok (.putfield 93, 3) := by decide +kernel
theorem dX7_load_55 : decode cX7_load 55 = .ok (.aload_n 0, 1) := by decide +kernel
theorem dX7_load_56 : decode cX7_load 56 = .ok (.getfield 10, 3) := by decide +kernel
theorem dX7_load_59 : decode cX7_load 59 = .ok (.getfield 97, 3) := by decide +kernel
theorem dX7_load_62 : decode cX7_load 62 = .ok (.getfield 101, 3) := by decide +kernel
theorem dX7_load_65 : decode cX7_load 65 = .ok (.ireturn, 1) := by decide +kernel
theorem dX7_lease_0 : decode cX7_lease 0 = .ok (.aload_n 0, 1) := by decide +kernel
theorem dX7_lease_1 : decode cX7_lease 1 = .ok (.iload_n 1, 1) := by decide +kernel
theorem dX7_lease_2 : decode cX7_lease 2 = .ok (.invokevirtual 106, 3) := by decide +kernel
theorem dX7_lease_5 : decode cX7_lease 5 = .ok (.aload_n 0, 1) := by decide +kernel
theorem dX7_lease_6 : decode cX7_lease 6 = .ok (.iload_n 2, 1) := by decide +kernel
theorem dX7_lease_7 : decode cX7_lease 7 = .ok (.invokevirtual 109, 3) := by decide +kernel
theorem dX7_lease_10 : decode cX7_lease 10 = .ok (.aload_n 0, 1) := by decide +kernel
theorem dX7_lease_11 : decode cX7_lease 11 = .ok (.iload_n 3, 1) := by decide +kernel
theorem dX7_lease_12 : decode cX7_lease 12 = .ok (.invokevirtual 112, 3) := by decide +kernel
theorem dX7_lease_15 : decode cX7_lease 15 = .ok (.aload_n 0, 1) := by decide +kernel
theorem dX7_lease_16 : decode cX7_lease 16 = .ok (.getfield 10, 3) := by decide +kernel
theorem dX7_lease_19 : decode cX7_lease 19 = .ok (.getfield 115, 3) := by decide +kernel
theorem dX7_lease_22 : decode cX7_lease 22 = .ok (.iload_n 1, 1) := by decide +kernel
theorem dX7_lease_23 : decode cX7_lease 23 = .ok (.aaload, 1) := by decide +kernel
theorem dX7_lease_24 : decode cX7_lease 24 = .ok (.getfield 119, 3) := by decide +kernel
theorem dX7_lease_27 : decode cX7_lease 27 = .ok (.ifCond .eq 13, 3) := by decide +kernel
theorem dX7_lease_30 : decode cX7_lease 30 = .ok (.new 61, 3) := by decide +kernel
theorem dX7_lease_33 : decode cX7_lease 33 = .ok (.dup, 1) := by decide +kernel
theorem dX7_lease_34 : decode cX7_lease 34 = .ok (.ldc 124, 2) := by decide +kernel
theorem dX7_lease_36 : decode cX7_lease 36 = .ok (.invokespecial 65, 3) := by decide +kernel
theorem dX7_lease_39 : decode cX7_lease 39 = .ok (.athrow, 1) := by decide +kernel
theorem dX7_lease_40 : decode cX7_lease 40 = .ok (.aload_n 0, 1) := by decide +kernel
theorem dX7_lease_41 : decode cX7_lease 41 = .ok (.getfield 10, 3) := by decide +kernel
theorem dX7_lease_44 : decode cX7_lease 44 = .ok (.getfield 126, 3) := by decide +kernel
theorem dX7_lease_47 : decode cX7_lease 47 = .ok (.iload_n 2, 1) := by decide +kernel
theorem dX7_lease_48 : decode cX7_lease 48 = .ok (.invokevirtual 129, 3) := by decide +kernel
theorem dX7_lease_51 : decode cX7_lease 51 = .ok (.ifCond .ne 13, 3) := by decide +kernel
theorem dX7_lease_54 : decode cX7_lease 54 = .ok (.new 61, 3) := by decide +kernel
theorem dX7_lease_57 : decode cX7_lease 57 = .ok (.dup, 1) := by decide +kernel
theorem dX7_lease_58 : decode cX7_lease 58 = .ok (.ldc 133, 2) := by decide +kernel
theorem dX7_lease_60 : decode cX7_lease 60 = .ok (.invokespecial 65, 3) := by decide +kernel
theorem dX7_lease_63 : decode cX7_lease 63 = .ok (.athrow, 1) := by decide +kernel
theorem dX7_lease_64 : decode cX7_lease 64 = .ok (.aload_n 0, 1) := by decide +kernel
theorem dX7_lease_65 : decode cX7_lease 65 = .ok (.getfield 10, 3) := by decide +kernel
theorem dX7_lease_68 : decode cX7_lease 68 = .ok (.iload_n 1, 1) := by decide +kernel
theorem dX7_lease_69 : decode cX7_lease 69 = .ok (.iload_n 2, 1) := by decide +kernel
theorem dX7_lease_70 : decode cX7_lease 70 = .ok (.iload 4, 2) := by decide +kernel
theorem dX7_lease_72 : decode cX7_lease 72 = .ok (.invokevirtual 135, 3) := by decide +kernel
theorem dX7_lease_75 : decode cX7_lease 75 = .ok (.ifCond .eq 13, 3) := by decide +kernel
theorem dX7_lease_78 : decode cX7_lease 78 = .ok (.new 61, 3) := by decide +kernel
theorem dX7_lease_81 : decode cX7_lease 81 = .ok (.dup, 1) := by decide +kernel
theorem dX7_lease_82 : decode cX7_lease 82 = .ok (.ldc 139, 2) := by decide +kernel
theorem dX7_lease_84 : decode cX7_lease 84 = .ok (.invokespecial 65, 3) := by decide +kernel
theorem dX7_lease_87 : decode cX7_lease 87 = .ok (.athrow, 1) := by decide +kernel
theorem dX7_lease_88 : decode cX7_lease 88 = .ok (.aload_n 0, 1) := by decide +kernel
theorem dX7_lease_89 : decode cX7_lease 89 = .ok (.getfield 22, 3) := by decide +kernel
theorem dX7_lease_92 : decode cX7_lease 92 = .ok (.aload_n 0, 1) := by decide +kernel
theorem dX7_lease_93 : decode cX7_lease 93 = .ok (.getfield 10, 3) := by decide +kernel
theorem dX7_lease_96 : decode cX7_lease 96 = .ok (.invokevirtual 141, 3) := by decide +kernel
theorem dX7_lease_99 : decode cX7_lease 99 = .ok (.aload_n 0, 1) := by decide +kernel
theorem dX7_lease_100 : decode cX7_lease 100 = .ok (.getfield 10, 3) := by decide +kernel
theorem dX7_lease_103 : decode cX7_lease 103 = .ok (.iload_n 1, 1) := by decide +kernel
theorem dX7_lease_104 : decode cX7_lease 104 = .ok (.iload_n 2, 1) := by decide +kernel
theorem dX7_lease_105 : decode cX7_lease 105 = .ok (.iload_n 3, 1) := by decide +kernel
theorem dX7_lease_106 : decode cX7_lease 106 = .ok (.iload 4, 2) := by decide +kernel
theorem dX7_lease_108 : decode cX7_lease 108 = .ok (.invokevirtual 144, 3) := by decide +kernel
theorem dX7_lease_111 : decode cX7_lease 111 = .ok (.ireturn, 1) := by decide +kernel
theorem dX7_renew_0 : decode cX7_renew 0 = .ok (.aload_n 0, 1) := by decide +kernel
theorem dX7_renew_1 : decode cX7_renew 1 = .ok (.iload_n 1, 1) := by decide +kernel
theorem dX7_renew_2 : decode cX7_renew 2 = .ok (.invokevirtual 106, 3) := by decide +kernel
theorem dX7_renew_5 : decode cX7_renew 5 = .ok (.aload_n 0, 1) := by decide +kernel
theorem dX7_renew_6 : decode cX7_renew 6 = .ok (.iload_n 2, 1) := by decide +kernel
theorem dX7_renew_7 : decode cX7_renew 7 = .ok (.invokevirtual 112, 3) := by decide +kernel
theorem dX7_renew_10 : decode cX7_renew 10 = .ok (.aload_n 0, 1) := by decide +kernel
theorem dX7_renew_11 : decode cX7_renew 11 = .ok (.iload_n 1, 1) := by decide +kernel
theorem dX7_renew_12 : decode cX7_renew 12 = .ok (.invokevirtual 148, 3) := by decide +kernel
theorem dX7_renew_15 : decode cX7_renew 15 = .ok (.aload_n 0, 1) := by decide +kernel
theorem dX7_renew_16 : decode cX7_renew 16 = .ok (.getfield 10, 3) := by decide +kernel
theorem dX7_renew_19 : decode cX7_renew 19 = .ok (.getfield 151, 3) := by decide +kernel
theorem dX7_renew_22 : decode cX7_renew 22 = .ok (.iload_n 2, 1) := by decide +kernel
theorem dX7_renew_23 : decode cX7_renew 23 = .ok (.iadd, 1) := by decide +kernel
theorem dX7_renew_24 : decode cX7_renew 24 = .ok (.istore_n 3, 1) := by decide +kernel
theorem dX7_renew_25 : decode cX7_renew 25 = .ok (.iload_n 3, 1) := by decide +kernel
theorem dX7_renew_26 : decode cX7_renew 26 = .ok (.aload_n 0, 1) := by decide +kernel
theorem dX7_renew_27 : decode cX7_renew 27 = .ok (.getfield 10, 3) := by decide +kernel
theorem dX7_renew_30 : decode cX7_renew 30 = .ok (.getfield 115, 3) := by decide +kernel
theorem dX7_renew_33 : decode cX7_renew 33 = .ok (.iload_n 1, 1) := by decide +kernel
theorem dX7_renew_34 : decode cX7_renew 34 = .ok (.aaload, 1) := by decide +kernel
theorem dX7_renew_35 : decode cX7_renew 35 = .ok (.getfield 154, 3) := by decide +kernel
theorem dX7_renew_38 : decode cX7_renew 38 = .ok (.if_icmp .gt 13, 3) := by decide +kernel
theorem dX7_renew_41 : decode cX7_renew 41 = .ok (.new 61, 3) := by decide +kernel
theorem dX7_renew_44 : decode cX7_renew 44 = .ok (.dup, 1) := by decide +kernel
theorem dX7_renew_45 : decode cX7_renew 45 = .ok (.ldc 157, 2) := by decide +kernel
theorem dX7_renew_47 : decode cX7_renew 47 = .ok (.invokespecial 65, 3) := by decide +kernel
theorem dX7_renew_50 : decode cX7_renew 50 = .ok (.athrow, 1) := by decide +kernel
theorem dX7_renew_51 : decode cX7_renew 51 = .ok (.aload_n 0, 1) := by decide +kernel
theorem dX7_renew_52 : decode cX7_renew 52 = .ok (.getfield 22, 3) := by decide +kernel
theorem dX7_renew_55 : decode cX7_renew 55 = .ok (.aload_n 0, 1) := by decide +kernel
theorem dX7_renew_56 : decode cX7_renew 56 = .ok (.getfield 10, 3) := by decide +kernel
theorem dX7_renew_59 : decode cX7_renew 59 = .ok (.invokevirtual 141, 3) := by decide +kernel
theorem dX7_renew_62 : decode cX7_renew 62 = .ok (.aload_n 0, 1) := by decide +kernel
theorem dX7_renew_63 : decode cX7_renew 63 = .ok (.getfield 10, 3) := by decide +kernel
theorem dX7_renew_66 : decode cX7_renew 66 = .ok (.getfield 115, 3) := by decide +kernel
theorem dX7_renew_69 : decode cX7_renew 69 = .ok (.iload_n 1, 1) := by decide +kernel
theorem dX7_renew_70 : decode cX7_renew 70 = .ok (.aaload, 1) := by decide +kernel
theorem dX7_renew_71 : decode cX7_renew 71 = .ok (.iload_n 3, 1) := by decide +kernel
theorem dX7_renew_72 : decode cX7_renew 72 = .ok (.putfield 154, 3) := by decide +kernel
theorem dX7_renew_75 : decode cX7_renew 75 = .ok (.iload_n 3, 1) := by decide +kernel
theorem dX7_renew_76 : decode cX7_renew 76 = .ok (.ireturn, 1) := by decide +kernel
theorem dX7_setField_0 : decode cX7_setField 0 = .ok (.aload_n 0, 1) := by decide +kernel
theorem dX7_setField_1 : decode cX7_setField 1 = .ok (.iload_n 1, 1) := by decide +kernel
theorem dX7_setField_2 : decode cX7_setField 2 = .ok (.invokevirtual 106, 3) := by decide +kernel
theorem dX7_setField_5 : decode cX7_setField 5 = .ok (.aload_n 0, 1) := by decide +kernel
theorem dX7_setField_6 : decode cX7_setField 6 = .ok (.iload_n 2, 1) := by decide +kernel
theorem dX7_setField_7 : decode cX7_setField 7 = .ok (.invokevirtual 109, 3) := by decide +kernel
theorem dX7_setField_10 : decode cX7_setField 10 = .ok (.aload_n 0, 1) := by decide +kernel
theorem dX7_setField_11 : decode cX7_setField 11 = .ok (.iload_n 3, 1) := by decide +kernel
theorem dX7_setField_12 : decode cX7_setField 12 = .ok (.invokevirtual 159, 3) := by decide +kernel
theorem dX7_setField_15 : decode cX7_setField 15 = .ok (.iload 4, 2) := by decide +kernel
theorem dX7_setField_17 : decode cX7_setField 17 = .ok (.ldc 162, 2) := by decide +kernel
theorem dX7_setField_19 : decode cX7_setField 19 = .ok (.if_icmp .lt 10, 3) := by decide +kernel
theorem dX7_setField_22 : decode cX7_setField 22 = .ok (.iload 4, 2) := by decide +kernel
theorem dX7_setField_24 : decode cX7_setField 24 = .ok (.ldc 163, 2) := by decide +kernel
theorem dX7_setField_26 : decode cX7_setField 26 = .ok (.if_icmp .le 13, 3) := by decide +kernel
theorem dX7_setField_29 : decode cX7_setField 29 = .ok (.new 72, 3) := by decide +kernel
theorem dX7_setField_32 : decode cX7_setField 32 = .ok (.dup, 1) := by decide +kernel
theorem dX7_setField_33 : decode cX7_setField 33 = .ok (.ldc 164, 2) := by decide +kernel
theorem dX7_setField_35 : decode cX7_setField 35 = .ok (.invokespecial 76, 3) := by decide +kernel
theorem dX7_setField_38 : decode cX7_setField 38 = .ok (.athrow, 1) := by decide +kernel
theorem dX7_setField_39 : decode cX7_setField 39 = .ok (.aload_n 0, 1) := by decide +kernel
theorem dX7_setField_40 : decode cX7_setField 40 = .ok (.iload_n 1, 1) := by decide +kernel
theorem dX7_setField_41 : decode cX7_setField 41 = .ok (.invokevirtual 148, 3) := by decide +kernel
theorem dX7_setField_44 : decode cX7_setField 44 = .ok (.aload_n 0, 1) := by decide +kernel
theorem dX7_setField_45 : decode cX7_setField 45 = .ok (.iload_n 1, 1) := by decide +kernel
theorem dX7_setField_46 : decode cX7_setField 46 = .ok (.iload_n 2, 1) := by decide +kernel
theorem dX7_setField_47 : decode cX7_setField 47 = .ok (.invokevirtual 166, 3) := by decide +kernel
theorem dX7_setField_50 : decode cX7_setField 50 = .ok (.aload_n 0, 1) := by decide +kernel
theorem dX7_setField_51 : decode cX7_setField 51 = .ok (.getfield 10, 3) := by decide +kernel
theorem dX7_setField_54 : decode cX7_setField 54 = .ok (.getfield 97, 3) := by decide +kernel
theorem dX7_setField_57 : decode cX7_setField 57 = .ok (.getfield 170, 3) := by decide +kernel
theorem dX7_setField_60 : decode cX7_setField 60 = .ok (.iload_n 2, 1) := by decide +kernel
theorem dX7_setField_61 : decode cX7_setField 61 = .ok (.invokestatic 174, 3) := by decide +kernel
theorem dX7_setField_64 : decode cX7_setField 64 = .ok (.ifCond .ne 13, 3) := by decide +kernel
theorem dX7_setField_67 : decode cX7_setField 67 = .ok (.new 61, 3) := by decide +kernel
theorem dX7_setField_70 : decode cX7_setField 70 = .ok (.dup, 1) := by decide +kernel
theorem dX7_setField_71 : decode cX7_setField 71 = .ok (.ldc 178, 2) := by decide +kernel
theorem dX7_setField_73 : decode cX7_setField 73 = .ok (.invokespecial 65, 3) := by decide +kernel
theorem dX7_setField_76 : decode cX7_setField 76 = .ok (.athrow, 1) := by decide +kernel
theorem dX7_setField_77 : decode cX7_setField 77 = .ok (.aload_n 0, 1) := by decide +kernel
theorem dX7_setField_78 : decode cX7_setField 78 = .ok (.getfield 22, 3) := by decide +kernel
theorem dX7_setField_81 : decode cX7_setField 81 = .ok (.aload_n 0, 1) := by decide +kernel
theorem dX7_setField_82 : decode cX7_setField 82 = .ok (.getfield 10, 3) := by decide +kernel
theorem dX7_setField_85 : decode cX7_setField 85 = .ok (.invokevirtual 141, 3) := by decide +kernel
theorem dX7_setField_88 : decode cX7_setField 88 = .ok (.aload_n 0, 1) := by decide +kernel
theorem dX7_setField_89 : decode cX7_setField 89 = .ok (.getfield 10, 3) := by decide +kernel
theorem dX7_setField_92 : decode cX7_setField 92 = .ok (.getfield 115, 3) := by decide +kernel
theorem dX7_setField_95 : decode cX7_setField 95 = .ok (.iload_n 1, 1) := by decide +kernel
theorem dX7_setField_96 : decode cX7_setField 96 = .ok (.aaload, 1) := by decide +kernel
theorem dX7_setField_97 : decode cX7_setField 97 = .ok (.getfield 180, 3) := by decide +kernel
theorem dX7_setField_100 : decode cX7_setField 100 = .ok (.astore 5, 2) := by decide +kernel
theorem dX7_setField_102 : decode cX7_setField 102 = .ok (.aload 5, 2) := by decide +kernel
theorem dX7_setField_104 : decode cX7_setField 104 = .ok (.iload_n 2, 1) := by decide +kernel
theorem dX7_setField_105 : decode cX7_setField 105 = .ok (.iload_n 3, 1) := by decide +kernel
theorem dX7_setField_106 : decode cX7_setField 106 = .ok (.invokevirtual 183, 3) := by decide +kernel
theorem dX7_setField_109 : decode cX7_setField 109 = .ok (.istore 6, 2) := by decide +kernel
theorem dX7_setField_111 : decode cX7_setField 111 = .ok (.aload 5, 2) := by decide +kernel
theorem dX7_setField_113 : decode cX7_setField 113 = .ok (.iload_n 2, 1) := by decide +kernel
theorem dX7_setField_114 : decode cX7_setField 114 = .ok (.iload_n 3, 1) := by decide +kernel
theorem dX7_setField_115 : decode cX7_setField 115 = .ok (.iload 4, 2) := by decide +kernel
theorem dX7_setField_117 : decode cX7_setField 117 = .ok (.invokevirtual 187, 3) := by decide +kernel
theorem dX7_setField_120 : decode cX7_setField 120 = .ok (.iload 6, 2) := by decide +kernel
theorem dX7_setField_122 : decode cX7_setField 122 = .ok (.ireturn, 1) := by decide +kernel
theorem dX7_addNode_0 : decode cX7_addNode 0 = .ok (.aload_n 0, 1) := by decide +kernel
theorem dX7_addNode_1 : decode cX7_addNode 1 = .ok (.iload_n 1, 1) := by decide +kernel
theorem dX7_addNode_2 : decode cX7_addNode 2 = .ok (.invokevirtual 106, 3) := by decide +kernel
theorem dX7_addNode_5 : decode cX7_addNode 5 = .ok (.aload_n 0, 1) := by decide +kernel
theorem dX7_addNode_6 : decode cX7_addNode 6 = .ok (.iload_n 2, 1) := by decide +kernel
theorem dX7_addNode_7 : decode cX7_addNode 7 = .ok (.invokevirtual 109, 3) := by decide +kernel
theorem dX7_addNode_10 : decode cX7_addNode 10 = .ok (.iload_n 3, 1) := by decide +kernel
theorem dX7_addNode_11 : decode cX7_addNode 11 = .ok (.ifCond .lt 10, 3) := by decide +kernel
theorem dX7_addNode_14 : decode cX7_addNode 14 = .ok (.iload_n 3, 1) := by decide +kernel
theorem dX7_addNode_15 : decode cX7_addNode 15 = .ok (.sipush 999, 3) := by decide +kernel
theorem dX7_addNode_18 : decode cX7_addNode 18 = .ok (.if_icmp .le 13, 3) := by decide +kernel
theorem dX7_addNode_21 : decode cX7_addNode 21 = .ok (.new 72, 3) := by decide +kernel
theorem dX7_addNode_24 : decode cX7_addNode 24 = .ok (.dup, 1) := by decide +kernel
theorem dX7_addNode_25 : decode cX7_addNode 25 = .ok (.ldc 191, 2) := by decide +kernel
theorem dX7_addNode_27 : decode cX7_addNode 27 = .ok (.invokespecial 76, 3) := by decide +kernel
theorem dX7_addNode_30 : decode cX7_addNode 30 = .ok (.athrow, 1) := by decide +kernel
theorem dX7_addNode_31 : decode cX7_addNode 31 = .ok (.aload_n 0, 1) := by decide +kernel
theorem dX7_addNode_32 : decode cX7_addNode 32 = .ok (.iload_n 1, 1) := by decide +kernel
theorem dX7_addNode_33 : decode cX7_addNode 33 = .ok (.invokevirtual 148, 3) := by decide +kernel
theorem dX7_addNode_36 : decode cX7_addNode 36 = .ok (.aload_n 0, 1) := by decide +kernel
theorem dX7_addNode_37 : decode cX7_addNode 37 = .ok (.iload_n 1, 1) := by decide +kernel
theorem dX7_addNode_38 : decode cX7_addNode 38 = .ok (.iload_n 2, 1) := by decide +kernel
theorem dX7_addNode_39 : decode cX7_addNode 39 = .ok (.invokevirtual 166, 3) := by decide +kernel
theorem dX7_addNode_42 : decode cX7_addNode 42 = .ok (.aload_n 0, 1) := by decide +kernel
theorem dX7_addNode_43 : decode cX7_addNode 43 = .ok (.getfield 10, 3) := by decide +kernel
theorem dX7_addNode_46 : decode cX7_addNode 46 = .ok (.getfield 97, 3) := by decide +kernel
theorem dX7_addNode_49 : decode cX7_addNode 49 = .ok (.getfield 170, 3) := by decide +kernel
theorem dX7_addNode_52 : decode cX7_addNode 52 = .ok (.iload_n 2, 1) := by decide +kernel
theorem dX7_addNode_53 : decode cX7_addNode 53 = .ok (.invokestatic 174, 3) := by decide +kernel
theorem dX7_addNode_56 : decode cX7_addNode 56 = .ok (.ifCond .eq 13, 3) := by decide +kernel
theorem dX7_addNode_59 : decode cX7_addNode 59 = .ok (.new 61, 3) := by decide +kernel
theorem dX7_addNode_62 : decode cX7_addNode 62 = .ok (.dup, 1) := by decide +kernel
theorem dX7_addNode_63 : decode cX7_addNode 63 = .ok (.ldc 193, 2) := by decide +kernel
theorem dX7_addNode_65 : decode cX7_addNode 65 = .ok (.invokespecial 65, 3) := by decide +kernel
theorem dX7_addNode_68 : decode cX7_addNode 68 = .ok (.athrow, 1) := by decide +kernel
theorem dX7_addNode_69 : decode cX7_addNode 69 = .ok (.aload_n 0, 1) := by decide +kernel
theorem dX7_addNode_70 : decode cX7_addNode 70 = .ok (.getfield 10, 3) := by decide +kernel
theorem dX7_addNode_73 : decode cX7_addNode 73 = .ok (.getfield 97, 3) := by decide +kernel
theorem dX7_addNode_76 : decode cX7_addNode 76 = .ok (.aload_n 0, 1) := by decide +kernel
theorem dX7_addNode_77 : decode cX7_addNode 77 = .ok (.getfield 10, 3) := by decide +kernel
theorem dX7_addNode_80 : decode cX7_addNode 80 = .ok (.getfield 115, 3) := by decide +kernel
theorem dX7_addNode_83 : decode cX7_addNode 83 = .ok (.iload_n 1, 1) := by decide +kernel
theorem dX7_addNode_84 : decode cX7_addNode 84 = .ok (.aaload, 1) := by decide +kernel
theorem dX7_addNode_85 : decode cX7_addNode 85 = .ok (.getfield 180, 3) := by decide +kernel
theorem dX7_addNode_88 : decode cX7_addNode 88 = .ok (.getfield 195, 3) := by decide +kernel
theorem dX7_addNode_91 : decode cX7_addNode 91 = .ok (.iload_n 2, 1) := by decide +kernel
theorem dX7_addNode_92 : decode cX7_addNode 92 = .ok (.iload_n 3, 1) := by decide +kernel
theorem dX7_addNode_93 : decode cX7_addNode 93 = .ok (.invokevirtual 198, 3) := by decide +kernel
theorem dX7_addNode_96 : decode cX7_addNode 96 = .ok (.iconst (-1), 1) := by decide +kernel
theorem dX7_addNode_97 : decode cX7_addNode 97 = .ok (.if_icmp .eq 13, 3) := by decide +kernel
theorem dX7_addNode_100 : decode cX7_addNode 100 = .ok (.new 61, 3) := by decide +kernel
theorem dX7_addNode_103 : decode cX7_addNode 103 = .ok (.dup, 1) := by decide +kernel
theorem dX7_addNode_104 : decode cX7_addNode 104 = .ok (.ldc 202, 2) := by decide +kernel
theorem dX7_addNode_106 : decode cX7_addNode 106 = .ok (.invokespecial 65, 3) := by decide +kernel
theorem dX7_addNode_109 : decode cX7_addNode 109 = .ok (.athrow, 1) := by decide +kernel
theorem dX7_addNode_110 : decode cX7_addNode 110 = .ok (.aload_n 0, 1) := by decide +kernel
theorem dX7_addNode_111 : decode cX7_addNode 111 = .ok (.getfield 10, 3) := by decide +kernel
theorem dX7_addNode_114 : decode cX7_addNode 114 = .ok (.getfield 97, 3) := by decide +kernel
theorem dX7_addNode_117 : decode cX7_addNode 117 = .ok (.getfield 101, 3) := by decide +kernel
theorem dX7_addNode_120 : decode cX7_addNode 120 = .ok (.bipush 60, 2) := by decide +kernel
theorem dX7_addNode_122 : decode cX7_addNode 122 = .ok (.if_icmp .lt 13, 3) := by decide +kernel
theorem dX7_addNode_125 : decode cX7_addNode 125 = .ok (.new 61, 3) := by decide +kernel
theorem dX7_addNode_128 : decode cX7_addNode 128 = .ok (.dup, 1) := by decide +kernel
theorem dX7_addNode_129 : decode cX7_addNode 129 = .ok (.ldc 204, 2) := by decide +kernel
theorem dX7_addNode_131 : decode cX7_addNode 131 = .ok (.invokespecial 65, 3) := by decide +kernel
theorem dX7_addNode_134 : decode cX7_addNode 134 = .ok (.athrow, 1) := by decide +kernel
theorem dX7_addNode_135 : decode cX7_addNode 135 = .ok (.aload_n 0, 1) := by decide +kernel
theorem dX7_addNode_136 : decode cX7_addNode 136 = .ok (.getfield 22, 3) := by decide +kernel
theorem dX7_addNode_139 : decode cX7_addNode 139 = .ok (.aload_n 0, 1) := by decide +kernel
theorem dX7_addNode_140 : decode cX7_addNode 140 = .ok (.getfield 10, 3) := by decide +kernel
theorem dX7_addNode_143 : decode cX7_addNode 143 = .ok (.invokevirtual 141, 3) := by decide +kernel
theorem dX7_addNode_146 : decode cX7_addNode 146 = .ok (.aload_n 0, 1) := by decide +kernel
theorem dX7_addNode_147 : decode cX7_addNode 147 = .ok (.getfield 10, 3) := by decide +kernel
theorem dX7_addNode_150 : decode cX7_addNode 150 = .ok (.iload_n 1, 1) := by decide +kernel
theorem dX7_addNode_151 : decode cX7_addNode 151 = .ok (.iload_n 2, 1) := by decide +kernel
theorem dX7_addNode_152 : decode cX7_addNode 152 = .ok (.iload_n 3, 1) := by decide +kernel
theorem dX7_addNode_153 : decode cX7_addNode 153 = .ok (.iload 4, 2) := by decide +kernel
theorem dX7_addNode_155 : decode cX7_addNode 155 = .ok (.invokevirtual 206, 3) := by decide +kernel
theorem dX7_addNode_158 : decode cX7_addNode 158 = .ok (.ireturn, 1) := by decide +kernel
theorem dX7_removeNode_0 : decode cX7_removeNode 0 = .ok (.aload_n 0, 1) := by decide +kernel
theorem dX7_removeNode_1 : decode cX7_removeNode 1 = .ok (.iload_n 1, 1) := by decide +kernel
theorem dX7_removeNode_2 : decode cX7_removeNode 2 = .ok (.invokevirtual 106, 3) := by decide +kernel
theorem dX7_removeNode_5 : decode cX7_removeNode 5 = .ok (.aload_n 0, 1) := by decide +kernel
theorem dX7_removeNode_6 : decode cX7_removeNode 6 = .ok (.iload_n 2, 1) := by decide +kernel
theorem dX7_removeNode_7 : decode cX7_removeNode 7 = .ok (.invokevirtual 109, 3) := by decide +kernel
theorem dX7_removeNode_10 : decode cX7_removeNode 10 = .ok (.aload_n 0, 1) := by decide +kernel
theorem dX7_removeNode_11 : decode cX7_removeNode 11 = .ok (.iload_n 1, 1) := by decide +kernel
theorem dX7_removeNode_12 : decode cX7_removeNode 12 = .ok (.invokevirtual 148, 3) := by decide +kernel
theorem dX7_removeNode_15 : decode cX7_removeNode 15 = .ok (.aload_n 0, 1) := by decide +kernel
theorem dX7_removeNode_16 : decode cX7_removeNode 16 = .ok (.iload_n 1, 1) := by decide +kernel
theorem dX7_removeNode_17 : decode cX7_removeNode 17 = .ok (.iload_n 2, 1) := by decide +kernel
theorem dX7_removeNode_18 : decode cX7_removeNode 18 = .ok (.invokevirtual 166, 3) := by decide +kernel
theorem dX7_removeNode_21 : decode cX7_removeNode 21 = .ok (.aload_n 0, 1) := by decide +kernel
theorem dX7_removeNode_22 : decode cX7_removeNode 22 = .ok (.getfield 10, 3) := by decide +kernel
theorem dX7_removeNode_25 : decode cX7_removeNode 25 = .ok (.getfield 115, 3) := by decide +kernel
theorem dX7_removeNode_28 : decode cX7_removeNode 28 = .ok (.iload_n 1, 1) := by decide +kernel
theorem dX7_removeNode_29 : decode cX7_removeNode 29 = .ok (.aaload, 1) := by decide +kernel
theorem dX7_removeNode_30 : decode cX7_removeNode 30 = .ok (.getfield 209, 3) := by decide +kernel
theorem dX7_removeNode_33 : decode cX7_removeNode 33 = .ok (.iload_n 2, 1) := by decide +kernel
theorem dX7_removeNode_34 : decode cX7_removeNode 34 = .ok (.if_icmp .ne 13, 3) := by decide +kernel
theorem dX7_removeNode_37 : decode cX7_removeNode 37 = .ok (.new 61, 3) := by decide +kernel
theorem dX7_removeNode_40 : decode cX7_removeNode 40 = .ok (.dup, 1) := by decide +kernel
theorem dX7_removeNode_41 : decode cX7_removeNode 41 = .ok (.ldc 212, 2) := by decide +kernel
theorem dX7_removeNode_43 : decode cX7_removeNode 43 = .ok (.invokespecial 65, 3) := by decide +kernel
theorem dX7_removeNode_46 : decode cX7_removeNode 46 = .ok (.athrow, 1) := by decide +kernel
theorem dX7_removeNode_47 : decode cX7_removeNode 47 = .ok (.aload_n 0, 1) := by decide +kernel
theorem dX7_removeNode_48 : decode cX7_removeNode 48 = .ok (.getfield 22, 3) := by decide +kernel
theorem dX7_removeNode_51 : decode cX7_removeNode 51 = .ok (.aload_n 0, 1) := by decide +kernel
theorem dX7_removeNode_52 : decode cX7_removeNode 52 = .ok (.getfield 10, 3) := by decide +kernel
theorem dX7_removeNode_55 : decode cX7_removeNode 55 = .ok (.invokevirtual 141, 3) := by decide +kernel
theorem dX7_removeNode_58 : decode cX7_removeNode 58 = .ok (.aload_n 0, 1) := by decide +kernel
theorem dX7_removeNode_59 : decode cX7_removeNode 59 = .ok (.getfield 10, 3) := by decide +kernel
theorem dX7_removeNode_62 : decode cX7_removeNode 62 = .ok (.getfield 115, 3) := by decide +kernel
theorem dX7_removeNode_65 : decode cX7_removeNode 65 = .ok (.iload_n 1, 1) := by decide +kernel
theorem dX7_removeNode_66 : decode cX7_removeNode 66 = .ok (.aaload, 1) := by decide +kernel
theorem dX7_removeNode_67 : decode cX7_removeNode 67 = .ok (.getfield 180, 3) := by decide +kernel
theorem dX7_removeNode_70 : decode cX7_removeNode 70 = .ok (.astore_n 3, 1) := by decide +kernel
theorem dX7_removeNode_71 : decode cX7_removeNode 71 = .ok (.aload_n 3, 1) := by decide +kernel
theorem dX7_removeNode_72 : decode cX7_removeNode 72 = .ok (.getfield 195, 3) := by decide +kernel
theorem dX7_removeNode_75 : decode cX7_removeNode 75 = .ok (.aload_n 0, 1) := by decide +kernel
theorem dX7_removeNode_76 : decode cX7_removeNode 76 = .ok (.getfield 10, 3) := by decide +kernel
theorem dX7_removeNode_79 : decode cX7_removeNode 79 = .ok (.getfield 97, 3) := by decide +kernel
theorem dX7_removeNode_82 : decode cX7_removeNode 82 = .ok (.iload_n 2, 1) := by decide +kernel
theorem dX7_removeNode_83 : decode cX7_removeNode 83 = .ok (.invokevirtual 214, 3) := by decide +kernel
theorem dX7_removeNode_86 : decode cX7_removeNode 86 = .ok (.land, 1) := by decide +kernel
theorem dX7_removeNode_87 : decode cX7_removeNode 87 = .ok (.lstore 4, 2) := by decide +kernel
theorem dX7_removeNode_89 : decode cX7_removeNode 89 = .ok (.aload_n 3, 1) := by decide +kernel
theorem dX7_removeNode_90 : decode cX7_removeNode 90 = .ok (.dup, 1) := by decide +kernel
theorem dX7_removeNode_91 : decode cX7_removeNode 91 = .ok (.getfield 195, 3) := by decide +kernel
theorem dX7_removeNode_94 : decode cX7_removeNode 94 = .ok (.lload 4, 2) := by decide +kernel
theorem dX7_removeNode_96 : decode cX7_removeNode 96 = .ok (.ldc2_w 218, 3) := by decide +kernel
theorem dX7_removeNode_99 : decode cX7_removeNode 99 = .ok (.lxor, 1) := by decide +kernel
theorem dX7_removeNode_100 : decode cX7_removeNode 100 = .ok (.land, 1) := by decide +kernel
theorem dX7_removeNode_101 : decode cX7_removeNode 101 = .ok (.putfield 195, 3) := by decide +kernel
theorem dX7_removeNode_104 : decode cX7_removeNode 104 = .ok (.lload 4, 2) := by decide +kernel
theorem dX7_removeNode_106 : decode cX7_removeNode 106 = .ok (.invokestatic 220, 3) := by decide +kernel
theorem dX7_removeNode_109 : decode cX7_removeNode 109 = .ok (.ireturn, 1) := by decide +kernel
theorem dX7_commit_0 : decode cX7_commit 0 = .ok (.aload_n 0, 1) := by decide +kernel
theorem dX7_commit_1 : decode cX7_commit 1 = .ok (.iload_n 1, 1) := by decide +kernel
theorem dX7_commit_2 : decode cX7_commit 2 = .ok (.invokevirtual 106, 3) := by decide +kernel
theorem dX7_commit_5 : decode cX7_commit 5 = .ok (.aload_n 0, 1) := by decide +kernel
theorem dX7_commit_6 : decode cX7_commit 6 = .ok (.iload_n 1, 1) := by decide +kernel
theorem dX7_commit_7 : decode cX7_commit 7 = .ok (.invokevirtual 148, 3) := by decide +kernel
theorem dX7_commit_10 : decode cX7_commit 10 = .ok (.aload_n 0, 1) := by decide +kernel
theorem dX7_commit_11 : decode cX7_commit 11 = .ok (.getfield 22, 3) := by decide +kernel
theorem dX7_commit_14 : decode cX7_commit 14 = .ok (.aload_n 0, 1) := by decide +kernel
theorem dX7_commit_15 : decode cX7_commit 15 = .ok (.getfield 10, 3) := by decide +kernel
theorem dX7_commit_18 : decode cX7_commit 18 = .ok (.invokevirtual 141, 3) := by decide +kernel
theorem dX7_commit_21 : decode cX7_commit 21 = .ok (.aload_n 0, 1) := by decide +kernel
theorem dX7_commit_22 : decode cX7_commit 22 = .ok (.getfield 10, 3) := by decide +kernel
theorem dX7_commit_25 : decode cX7_commit 25 = .ok (.iload_n 1, 1) := by decide +kernel
theorem dX7_commit_26 : decode cX7_commit 26 = .ok (.aload_n 0, 1) := by decide +kernel
theorem dX7_commit_27 : decode cX7_commit 27 = .ok (.getfield 10, 3) := by decide +kernel
theorem dX7_commit_30 : decode cX7_commit 30 = .ok (.getfield 126, 3) := by decide +kernel
theorem dX7_commit_33 : decode cX7_commit 33 = .ok (.aload_n 0, 1) := by decide +kernel
theorem dX7_commit_34 : decode cX7_commit 34 = .ok (.getfield 10, 3) := by decide +kernel
theorem dX7_commit_37 : decode cX7_commit 37 = .ok (.getfield 226, 3) := by decide +kernel
theorem dX7_commit_40 : decode cX7_commit 40 = .ok (.invokevirtual 229, 3) := by decide +kernel
theorem dX7_commit_43 : decode cX7_commit 43 = .ok (.istore_n 2, 1) := by decide +kernel
theorem dX7_commit_44 : decode cX7_commit 44 = .ok (.aload_n 0, 1) := by decide +kernel
theorem dX7_commit_45 : decode cX7_commit 45 = .ok (.getfield 10, 3) := by decide +kernel
theorem dX7_commit_48 : decode cX7_commit 48 = .ok (.getfield 115, 3) := by decide +kernel
theorem dX7_commit_51 : decode cX7_commit 51 = .ok (.iload_n 1, 1) := by decide +kernel
theorem dX7_commit_52 : decode cX7_commit 52 = .ok (.aaload, 1) := by decide +kernel
theorem dX7_commit_53 : decode cX7_commit 53 = .ok (.iconst 0, 1) := by decide +kernel
theorem dX7_commit_54 : decode cX7_commit 54 = .ok (.putfield 119, 3) := by decide +kernel
theorem dX7_commit_57 : decode cX7_commit 57 = .ok (.iload_n 2, 1) := by decide +kernel
theorem dX7_commit_58 : decode cX7_commit 58 = .ok (.ireturn, 1) := by decide +kernel
theorem dX7_abandon_0 : decode cX7_abandon 0 = .ok (.aload_n 0, 1) := by decide +kernel
theorem dX7_abandon_1 : decode cX7_abandon 1 = .ok (.iload_n 1, 1) := by decide +kernel
theorem dX7_abandon_2 : decode cX7_abandon 2 = .ok (.invokevirtual 106, 3) := by decide +kernel
theorem dX7_abandon_5 : decode cX7_abandon 5 = .ok (.aload_n 0, 1) := by decide +kernel
theorem dX7_abandon_6 : decode cX7_abandon 6 = .ok (.iload_n 1, 1) := by decide +kernel
theorem dX7_abandon_7 : decode cX7_abandon 7 = .ok (.invokevirtual 148, 3) := by decide +kernel
theorem dX7_abandon_10 : decode cX7_abandon 10 = .ok (.aload_n 0, 1) := by decide +kernel
theorem dX7_abandon_11 : decode cX7_abandon 11 = .ok (.getfield 22, 3) := by decide +kernel
theorem dX7_abandon_14 : decode cX7_abandon 14 = .ok (.aload_n 0, 1) := by decide +kernel
theorem dX7_abandon_15 : decode cX7_abandon 15 = .ok (.getfield 10, 3) := by decide +kernel
theorem dX7_abandon_18 : decode cX7_abandon 18 = .ok (.invokevirtual 141, 3) := by decide +kernel
theorem dX7_abandon_21 : decode cX7_abandon 21 = .ok (.aload_n 0, 1) := by decide +kernel
theorem dX7_abandon_22 : decode cX7_abandon 22 = .ok (.getfield 10, 3) := by decide +kernel
theorem dX7_abandon_25 : decode cX7_abandon 25 = .ok (.iload_n 1, 1) := by decide +kernel
theorem dX7_abandon_26 : decode cX7_abandon 26 = .ok (.invokevirtual 233, 3) := by decide +kernel
theorem dX7_abandon_29 : decode cX7_abandon 29 = .ok (.istore_n 2, 1) := by decide +kernel
theorem dX7_abandon_30 : decode cX7_abandon 30 = .ok (.aload_n 0, 1) := by decide +kernel
theorem dX7_abandon_31 : decode cX7_abandon 31 = .ok (.getfield 10, 3) := by decide +kernel
theorem dX7_abandon_34 : decode cX7_abandon 34 = .ok (.getfield 115, 3) := by decide +kernel
theorem dX7_abandon_37 : decode cX7_abandon 37 = .ok (.iload_n 1, 1) := by decide +kernel
theorem dX7_abandon_38 : decode cX7_abandon 38 = .ok (.aaload, 1) := by decide +kernel
theorem dX7_abandon_39 : decode cX7_abandon 39 = .ok (.iconst 0, 1) := by decide +kernel
theorem dX7_abandon_40 : decode cX7_abandon 40 = .ok (.putfield 119, 3) := by decide +kernel
theorem dX7_abandon_43 : decode cX7_abandon 43 = .ok (.iload_n 2, 1) := by decide +kernel
theorem dX7_abandon_44 : decode cX7_abandon 44 = .ok (.ireturn, 1) := by decide +kernel
theorem dX7_resolve_0 : decode cX7_resolve 0 = .ok (.aload_n 0, 1) := by decide +kernel
theorem dX7_resolve_1 : decode cX7_resolve 1 = .ok (.iload_n 1, 1) := by decide +kernel
theorem dX7_resolve_2 : decode cX7_resolve 2 = .ok (.invokevirtual 236, 3) := by decide +kernel
theorem dX7_resolve_5 : decode cX7_resolve 5 = .ok (.iload_n 2, 1) := by decide +kernel
theorem dX7_resolve_6 : decode cX7_resolve 6 = .ok (.ifCond .eq 24, 3) := by decide +kernel
theorem dX7_resolve_9 : decode cX7_resolve 9 = .ok (.aload_n 0, 1) := by decide +kernel
theorem dX7_resolve_10 : decode cX7_resolve 10 = .ok (.getfield 10, 3) := by decide +kernel
theorem dX7_resolve_13 : decode cX7_resolve 13 = .ok (.iload_n 1, 1) := by decide +kernel
theorem dX7_resolve_14 : decode cX7_resolve 14 = .ok (.invokevirtual 239, 3) := by decide +kernel
theorem dX7_resolve_17 : decode cX7_resolve 17 = .ok (.ifCond .ne 13, 3) := by decide +kernel
theorem dX7_resolve_20 : decode cX7_resolve 20 = .ok (.new 61, 3) := by decide +kernel
theorem dX7_resolve_23 : decode cX7_resolve 23 = .ok (.dup, 1) := by decide +kernel
theorem dX7_resolve_24 : decode cX7_resolve 24 = .ok (.ldc 242, 2) := by decide +kernel
theorem dX7_resolve_26 : decode cX7_resolve 26 = .ok (.invokespecial 65, 3) := by decide +kernel
theorem dX7_resolve_29 : decode cX7_resolve 29 = .ok (.athrow, 1) := by decide +kernel
theorem dX7_resolve_30 : decode cX7_resolve 30 = .ok (.aload_n 0, 1) := by decide +kernel
theorem dX7_resolve_31 : decode cX7_resolve 31 = .ok (.getfield 22, 3) := by decide +kernel
theorem dX7_resolve_34 : decode cX7_resolve 34 = .ok (.aload_n 0, 1) := by decide +kernel
theorem dX7_resolve_35 : decode cX7_resolve 35 = .ok (.getfield 10, 3) := by decide +kernel
theorem dX7_resolve_38 : decode cX7_resolve 38 = .ok (.invokevirtual 141, 3) := by decide +kernel
theorem dX7_resolve_41 : decode cX7_resolve 41 = .ok (.iload_n 2, 1) := by decide +kernel
theorem dX7_resolve_42 : decode cX7_resolve 42 = .ok (.ifCond .eq 11, 3) := by decide +kernel
theorem dX7_resolve_45 : decode cX7_resolve 45 = .ok (.aload_n 0, 1) := by decide +kernel
theorem dX7_resolve_46 : decode cX7_resolve 46 = .ok (.getfield 10, 3) := by decide +kernel
theorem dX7_resolve_49 : decode cX7_resolve 49 = .ok (.iload_n 1, 1) := by decide +kernel
theorem dX7_resolve_50 : decode cX7_resolve 50 = .ok (.invokevirtual 244, 3) := by decide +kernel
theorem dX7_resolve_53 : decode cX7_resolve 53 = .ok (.aload_n 0, 1) := by decide +kernel
theorem dX7_resolve_54 : decode cX7_resolve 54 = .ok (.getfield 10, 3) := by decide +kernel
theorem dX7_resolve_57 : decode cX7_resolve 57 = .ok (.getfield 226, 3) := by decide +kernel
theorem dX7_resolve_60 : decode cX7_resolve 60 = .ok (.iload_n 1, 1) := by decide +kernel
theorem dX7_resolve_61 : decode cX7_resolve 61 = .ok (.invokevirtual 247, 3) := by decide +kernel
theorem dX7_resolve_64 : decode cX7_resolve 64 = .ok (.aload_n 0, 1) := by decide +kernel
theorem dX7_resolve_65 : decode cX7_resolve 65 = .ok (.getfield 10, 3) := by decide +kernel
theorem dX7_resolve_68 : decode cX7_resolve 68 = .ok (.getfield 226, 3) := by decide +kernel
theorem dX7_resolve_71 : decode cX7_resolve 71 = .ok (.getfield 250, 3) := by decide +kernel
theorem dX7_resolve_74 : decode cX7_resolve 74 = .ok (.ireturn, 1) := by decide +kernel
theorem dX7_advance_0 : decode cX7_advance 0 = .ok (.iload_n 1, 1) := by decide +kernel
theorem dX7_advance_1 : decode cX7_advance 1 = .ok (.iconst 1, 1) := by decide +kernel
theorem dX7_advance_2 : decode cX7_advance 2 = .ok (.if_icmp .lt 25, 3) := by decide +kernel
theorem dX7_advance_5 : decode cX7_advance 5 = .ok (.iload_n 1, 1) := by decide +kernel
theorem dX7_advance_6 : decode cX7_advance 6 = .ok (.sipush 200, 3) := by decide +kernel
theorem dX7_advance_9 : decode cX7_advance 9 = .ok (.if_icmp .gt 18, 3) := by decide +kernel
theorem dX7_advance_12 : decode cX7_advance 12 = .ok (.aload_n 0, 1) := by decide +kernel
theorem dX7_advance_13 : decode cX7_advance 13 = .ok (.getfield 10, 3) := by decide +kernel
theorem dX7_advance_16 : decode cX7_advance 16 = .ok (.getfield 151, 3) := by decide +kernel
theorem dX7_advance_19 : decode cX7_advance 19 = .ok (.iload_n 1, 1) := by decide +kernel
theorem dX7_advance_20 : decode cX7_advance 20 = .ok (.iadd, 1) := by decide +kernel
theorem dX7_advance_21 : decode cX7_advance 21 = .ok (.sipush 9999, 3) := by decide +kernel
theorem dX7_advance_24 : decode cX7_advance 24 = .ok (.if_icmp .le 13, 3) := by decide +kernel
theorem dX7_advance_27 : decode cX7_advance 27 = .ok (.new 72, 3) := by decide +kernel
theorem dX7_advance_30 : decode cX7_advance 30 = .ok (.dup, 1) := by decide +kernel
theorem dX7_advance_31 : decode cX7_advance 31 = .ok (.ldc 251, 2) := by decide +kernel
theorem dX7_advance_33 : decode cX7_advance 33 = .ok (.invokespecial 76, 3) := by decide +kernel
theorem dX7_advance_36 : decode cX7_advance 36 = .ok (.athrow, 1) := by decide +kernel
theorem dX7_advance_37 : decode cX7_advance 37 = .ok (.aload_n 0, 1) := by decide +kernel
theorem dX7_advance_38 : decode cX7_advance 38 = .ok (.getfield 22, 3) := by decide +kernel
theorem dX7_advance_41 : decode cX7_advance 41 = .ok (.aload_n 0, 1) := by decide +kernel
theorem dX7_advance_42 : decode cX7_advance 42 = .ok (.getfield 10, 3) := by decide +kernel
theorem dX7_advance_45 : decode cX7_advance 45 = .ok (.invokevirtual 141, 3) := by decide +kernel
theorem dX7_advance_48 : decode cX7_advance 48 = .ok (.iconst 0, 1) := by decide +kernel
theorem dX7_advance_49 : decode cX7_advance 49 = .ok (.istore_n 2, 1) := by decide +kernel
theorem dX7_advance_50 : decode cX7_advance 50 = .ok (.iconst 0, 1) := by decide +kernel
theorem dX7_advance_51 : decode cX7_advance 51 = .ok (.istore_n 3, 1) := by decide +kernel
theorem dX7_advance_52 : decode cX7_advance 52 = .ok (.iload_n 3, 1) := by decide +kernel
theorem dX7_advance_53 : decode cX7_advance 53 = .ok (.iload_n 1, 1) := by decide +kernel
theorem dX7_advance_54 : decode cX7_advance 54 = .ok (.if_icmp .ge 19, 3) := by decide +kernel
theorem dX7_advance_57 : decode cX7_advance 57 = .ok (.iload_n 2, 1) := by decide +kernel
theorem dX7_advance_58 : decode cX7_advance 58 = .ok (.aload_n 0, 1) := by decide +kernel
theorem dX7_advance_59 : decode cX7_advance 59 = .ok (.getfield 10, 3) := by decide +kernel
theorem dX7_advance_62 : decode cX7_advance 62 = .ok (.invokevirtual 253, 3) := by decide +kernel
theorem dX7_advance_65 : decode cX7_advance 65 = .ok (.iadd, 1) := by decide +kernel
theorem dX7_advance_66 : decode cX7_advance 66 = .ok (.istore_n 2, 1) := by decide +kernel
theorem dX7_advance_67 : decode cX7_advance 67 = .ok (.iinc 3 1, 3) := by decide +kernel
theorem dX7_advance_70 : decode cX7_advance 70 = .ok (.goto (-18), 3) := by decide +kernel
theorem dX7_advance_73 : decode cX7_advance 73 = .ok (.iload_n 2, 1) := by decide +kernel
theorem dX7_advance_74 : decode cX7_advance 74 = .ok (.ireturn, 1) := by decide +kernel
theorem dX7_undo_0 : decode cX7_undo 0 = .ok (.aload_n 0, 1) := by decide +kernel
theorem dX7_undo_1 : decode cX7_undo 1 = .ok (.getfield 22, 3) := by decide +kernel
theorem dX7_undo_4 : decode cX7_undo 4 = .ok (.getfield 256, 3) := by decide +kernel
theorem dX7_undo_7 : decode cX7_undo 7 = .ok (.ifCond .ne 14, 3) := by decide +kernel
theorem dX7_undo_10 : decode cX7_undo 10 = .ok (.new 61, 3) := by decide +kernel
theorem dX7_undo_13 : decode cX7_undo 13 = .ok (.dup, 1) := by decide +kernel
theorem dX7_undo_14 : decode cX7_undo 14 = .ok (.ldc_w 257, 3) := by decide +kernel
theorem dX7_undo_17 : decode cX7_undo 17 = .ok (.invokespecial 65, 3) := by decide +kernel
theorem dX7_undo_20 : decode cX7_undo 20 = .ok (.athrow, 1) := by decide +kernel
theorem dX7_undo_21 : decode cX7_undo 21 = .ok (.aload_n 0, 1) := by decide +kernel
theorem dX7_undo_22 : decode cX7_undo 22 = .ok (.getfield 22, 3) := by decide +kernel
theorem dX7_undo_25 : decode cX7_undo 25 = .ok (.aload_n 0, 1) := by decide +kernel
theorem dX7_undo_26 : decode cX7_undo 26 = .ok (.getfield 10, 3) := by decide +kernel
theorem dX7_undo_29 : decode cX7_undo 29 = .ok (.invokevirtual 259, 3) := by decide +kernel
