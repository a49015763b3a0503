set_option maxHeartbeats 4000000 in
set_option maxRecDepth 20000 in
theorem c0_X7_bit (Θ : GC) (D : Nat → Nat → Prop) (x : Mm) (n : Int) (h0 : 0 ≤ n) (h1 : n < 64) : Cal Θ mX7_bit 0 0 0 0 [vi n] (hq D x) (Ret (vl (bt n)) (hq D x)) := by
  refine Cal.of (by decide +kernel) rfl rfl (Nat.le_of_ble_eq_true rfl) ?_
  show Ev Θ mX7_bit 0 0 0 0 0 [(0, vi n)] [] (hq D x) (Ret (vl (bt n)) (hq D x))
  refine Ev.lconst (b := BitVec.ofInt 64 1) ⟨dX7_bit_0, rfl⟩ (by decide) ?_
  refine Ev.iload_n (q := 0) ⟨dX7_bit_1, rfl⟩ rfl rfl ?_
  refine Ev.lshl ⟨dX7_bit_2, rfl⟩ (by omega) (by omega) ?_
  refine Ev.lreturn ⟨dX7_bit_3, rfl⟩ rfl ?_
  exact ⟨rfl, rfl⟩

set_option maxHeartbeats 4000000 in
set_option maxRecDepth 20000 in
theorem c0_X7_contains (Θ : GC) (D : Nat → Nat → Prop) (x : Mm) (s : BitVec 64) (n : Int) (h0 : 0 ≤ n) (h1 : n < 64) : Cal Θ mX7_contains 0 0 0 0 [vl s, vi n] (hq D x) (Ret (vi (b2i (has s n))) (hq D x)) := by
  refine Cal.of (by decide +kernel) rfl rfl (Nat.le_of_ble_eq_true rfl) ?_
  show Ev Θ mX7_contains 0 0 0 0 0 [(0, vl s), (2, vi n)] [] (hq D x) (Ret (vi (b2i (has s n))) (hq D x))
  have e := @has_lcm s n.toNat
  refine Ev.lload_n (q := 0) ⟨dX7_contains_0, rfl⟩ rfl rfl ?_
  refine Ev.iload_n (q := 1) ⟨dX7_contains_1, rfl⟩ rfl rfl ?_
  refine Ev.lushr ⟨dX7_contains_2, rfl⟩ (by omega) (by omega) ?_
  refine Ev.lconst (b := BitVec.ofInt 64 1) ⟨dX7_contains_3, rfl⟩ (by decide) ?_
  refine Ev.land ⟨dX7_contains_4, rfl⟩ ?_
  refine Ev.lconst (b := BitVec.ofInt 64 0) ⟨dX7_contains_5, rfl⟩ (by decide) ?_
  refine Ev.lcmp ⟨dX7_contains_6, rfl⟩ ?_
  refine Ev.if_eq jX7_contains_7 (fun hc7 => ?_) (fun hc7 => ?_)
  ·
    refine Ev.iconst ⟨dX7_contains_14, rfl⟩ (inRd rfl) ?_
    refine Ev.ireturn (ty := .boolean) ⟨dX7_contains_15, rfl⟩ rfl (by first | rfl | exact nb _) ?_
    refine ⟨?_, rfl⟩
    rw [e] at hc7
    first
      | (rw [show has s n = false from b2i_0.mp hc7]; rfl)
      | (rw [show has s n = true from b2i_1.mp hc7]; rfl)
  ·
    refine Ev.iconst ⟨dX7_contains_10, rfl⟩ (inRd rfl) ?_
    refine Ev.goto jX7_contains_11 ?_
    refine Ev.ireturn (ty := .boolean) ⟨dX7_contains_15, rfl⟩ rfl (by first | rfl | exact nb _) ?_
    refine ⟨?_, rfl⟩
    rw [e] at hc7
    first
      | (rw [show has s n = false from b2i_0.mp hc7]; rfl)
      | (rw [show has s n = true from b2i_1.mp hc7]; rfl)

def F_X7_bit (_z : Nat) (n : Int) (_x : Mm) : Option (BitVec 64) := ckI n 64 (some (bt n))
theorem c_X7_bit (Θ : GC) (D : Nat → Nat → Prop) (z : Nat) (n : Int) (x : Mm) (y) (h : F_X7_bit z n x = some y) : Cal Θ mX7_bit 0 0 0 0 [vi n] (hq D x) (Ret (vl y) (hq D x)) := by
  obtain ⟨c, h⟩ := ckI_s h
  obtain rfl := Option.some.inj h
  exact c0_X7_bit Θ D x n c.1 c.2
def F_X7_contains (_z : Nat) (s : BitVec 64) (n : Int) (_x : Mm) : Option Int := ckI n 64 (some (b2i (has s n)))
theorem c_X7_contains (Θ : GC) (D : Nat → Nat → Prop) (z : Nat) (s : BitVec 64) (n : Int) (x : Mm) (y) (h : F_X7_contains z s n x = some y) : Cal Θ mX7_contains 0 0 0 0 [vl s, vi n] (hq D x) (Ret (vi y) (hq D x)) := by
  obtain ⟨c, h⟩ := ckI_s h
  obtain rfl := Option.some.inj h
  exact c0_X7_contains Θ D x s n c.1 c.2

set_option maxHeartbeats 4000000 in
set_option maxRecDepth 20000 in
theorem c_J0_coder_7d493 (Θ : GC) (h : Hp) (k : Nat) (hk : k < 22) : Cal Θ mJ0_coder_7d493 0 0 0 0 [vt k] (h) (Ret (vi 0) h) := by
  refine Cal.of (by decide +kernel) rfl rfl (Nat.le_of_ble_eq_true rfl) ?_
  show Ev Θ mJ0_coder_7d493 0 0 0 0 0 [(0, vt k)] [] (h) (Ret (vi 0) h)
  refine Ev.getCS wJ0_38 ⟨dJ0_coder_7d493_0, rfl⟩ ?_
  refine Ev.if_eq jJ0_coder_7d493_3 (fun hc3 => ?_) (fun hc3 => ?_)
  · exact absurd hc3 (by omega)
  ·
    refine Ev.aloadt_n (q := 0) ⟨dJ0_coder_7d493_6, rfl⟩ rfl rfl ?_
    refine Ev.getSC hk wJ0_15 ⟨dJ0_coder_7d493_7, rfl⟩ ?_
    refine Ev.goto jJ0_coder_7d493_10 ?_
    refine Ev.ireturn (ty := .byte) ⟨dJ0_coder_7d493_14, rfl⟩ rfl rfl ?_
    exact ⟨rfl, rfl⟩

set_option maxHeartbeats 4000000 in
set_option maxRecDepth 20000 in
theorem c_J0_isLatin1_aae02 (Θ : GC) (h : Hp) (k : Nat) (hk : k < 22) : Cal Θ mJ0_isLatin1_aae02 0 0 0 0 [vt k] (h) (Ret (vi 1) h) := by
  refine Cal.of (by decide +kernel) rfl rfl (Nat.le_of_ble_eq_true rfl) ?_
  show Ev Θ mJ0_isLatin1_aae02 0 0 0 0 0 [(0, vt k)] [] (h) (Ret (vi 1) h)
  refine Ev.getCS wJ0_38 ⟨dJ0_isLatin1_aae02_0, rfl⟩ ?_
  refine Ev.if_eq jJ0_isLatin1_aae02_3 (fun hc3 => ?_) (fun hc3 => ?_)
  · exact absurd hc3 (by omega)
  ·
    refine Ev.aloadt_n (q := 0) ⟨dJ0_isLatin1_aae02_6, rfl⟩ rfl rfl ?_
    refine Ev.getSC hk wJ0_15 ⟨dJ0_isLatin1_aae02_7, rfl⟩ ?_
    refine Ev.if_ne jJ0_isLatin1_aae02_10 (fun hc10 => ?_) (fun hc10 => ?_)
    · exact absurd hc10 (by omega)
    ·
      refine Ev.iconst ⟨dJ0_isLatin1_aae02_13, rfl⟩ (inRd rfl) ?_
      refine Ev.goto jJ0_isLatin1_aae02_14 ?_
      refine Ev.ireturn (ty := .boolean) ⟨dJ0_isLatin1_aae02_18, rfl⟩ rfl (by first | rfl | exact nb _) ?_
      exact ⟨rfl, rfl⟩

set_option maxHeartbeats 4000000 in
set_option maxRecDepth 20000 in
theorem c_J0_length_8abf5 (Θ : GC) (h : Hp) (k : Nat) (hk : k < 22) : Cal Θ mJ0_length_8abf5 1 20 0 0 [vt k] (h) (Ret (vi ((wby k).length : Int)) h) := by
  refine Cal.of (by decide +kernel) rfl rfl (Nat.le_of_ble_eq_true rfl) ?_
  show Ev Θ mJ0_length_8abf5 1 20 0 0 0 [(0, vt k)] [] (h) (Ret (vi ((wby k).length : Int)) h)
  refine Ev.aloadt_n (q := 0) ⟨dJ0_length_8abf5_0, rfl⟩ rfl rfl ?_
  refine Ev.getSV hk wJ0_9 ⟨dJ0_length_8abf5_1, rfl⟩ ?_
  refine Ev.blen hk ⟨dJ0_length_8abf5_4, rfl⟩ ?_
  refine Ev.aloadt_n (q := 0) ⟨dJ0_length_8abf5_5, rfl⟩ rfl rfl ?_
  refine Ev.callT1 (mc1 := 0) (ms1 := 0) vJ0_335 (c_J0_coder_7d493 Θ _ _ hk) rfl hk rfl ⟨by decide, by decide, by decide, by decide, Nat.le_of_ble_eq_true rfl⟩ ⟨dJ0_length_8abf5_6, rfl⟩ ?_
  refine Ev.ishr ⟨dJ0_length_8abf5_9, rfl⟩ (by omega) (by omega) ?_
  refine Ev.ireturn (ty := .int) ⟨dJ0_length_8abf5_10, rfl⟩ rfl rfl ?_
  exact ⟨by simp, rfl⟩

set_option maxHeartbeats 4000000 in
set_option maxRecDepth 20000 in
theorem c_J3_checkIndex_8e157 (Θ : GC) (h : Hp) (i n : Int) (h0 : 0 ≤ i) (h1 : i < n) : Cal Θ mJ3_checkIndex_8e157 0 0 0 0 [vi i, vi n, vr 15 0] (h) (Ret (vi i) h) := by
  refine Cal.of (by decide +kernel) rfl rfl (Nat.le_of_ble_eq_true rfl) ?_
  show Ev Θ mJ3_checkIndex_8e157 0 0 0 0 0 [(0, vi i), (1, vi n), (2, vr 15 0)] [] (h) (Ret (vi i) h)
  refine Ev.iload_n (q := 0) ⟨dJ3_checkIndex_8e157_0, rfl⟩ rfl rfl ?_
  refine Ev.if_lt jJ3_checkIndex_8e157_1 (fun hc1 => ?_) (fun hc1 => ?_)
  · exact absurd hc1 (by omega)
  ·
    refine Ev.iload_n (q := 0) ⟨dJ3_checkIndex_8e157_4, rfl⟩ rfl rfl ?_
    refine Ev.iload_n (q := 1) ⟨dJ3_checkIndex_8e157_5, rfl⟩ rfl rfl ?_
    refine Ev.icmp_lt jJ3_checkIndex_8e157_6 (fun hc6 => ?_) (fun hc6 => ?_)
    ·
      refine Ev.iload_n (q := 0) ⟨dJ3_checkIndex_8e157_16, rfl⟩ rfl rfl ?_
      refine Ev.ireturn (ty := .int) ⟨dJ3_checkIndex_8e157_17, rfl⟩ rfl rfl ?_
      exact ⟨rfl, rfl⟩
    · exact absurd hc6 (by omega)

set_option maxHeartbeats 4000000 in
set_option maxRecDepth 20000 in
theorem c_J0_checkIndex_df160 (Θ : GC) (h : Hp) (i n : Int) (h0 : 0 ≤ i) (h1 : i < n) : Cal Θ mJ0_checkIndex_df160 1 22 0 0 [vi i, vi n] (h) (RetN h) := by
  refine Cal.of (by decide +kernel) rfl rfl (Nat.le_of_ble_eq_true rfl) ?_
  show Ev Θ mJ0_checkIndex_df160 1 22 0 0 0 [(0, vi i), (1, vi n)] [] (h) (RetN h)
  refine Ev.iload_n (q := 0) ⟨dJ0_checkIndex_df160_0, rfl⟩ rfl rfl ?_
  refine Ev.iload_n (q := 1) ⟨dJ0_checkIndex_df160_1, rfl⟩ rfl rfl ?_
  refine Ev.getSF wJ0_1053 ⟨dJ0_checkIndex_df160_2, rfl⟩ ?_
  refine Ev.callS1 (mc1 := 0) (ms1 := 0) sJ0_1059 (c_J3_checkIndex_8e157 Θ _ _ _ h0 h1) rfl rfl ⟨by decide, by decide, by decide, by decide, Nat.le_of_ble_eq_true rfl⟩ ⟨dJ0_checkIndex_df160_5, rfl⟩ ?_
  refine Ev.pop ⟨dJ0_checkIndex_df160_8, rfl⟩ rfl ?_
  refine Ev.ret ⟨dJ0_checkIndex_df160_9, rfl⟩ rfl ?_
  exact ⟨rfl, rfl⟩

set_option maxHeartbeats 4000000 in
set_option maxRecDepth 20000 in
theorem c_J1_charAt_3b067 (Θ : GC) (h : Hp) (k : Nat) (hk : k < 22) (i : Int) (h0 : 0 ≤ i) (h1 : i < ((wby k).length : Int)) : Cal Θ mJ1_charAt_3b067 2 43 0 0 [vr 14 (k + 1), vi i] (h) (Ret (vi ((wby k).getD i.toNat 0)) h) := by
  refine Cal.of (by decide +kernel) rfl rfl (Nat.le_of_ble_eq_true rfl) ?_
  show Ev Θ mJ1_charAt_3b067 2 43 0 0 0 [(0, vr 14 (k + 1)), (1, vi i)] [] (h) (Ret (vi ((wby k).getD i.toNat 0)) h)
  have wb := wbB k hk i.toNat (by omega)
  refine Ev.iload_n (q := 1) ⟨dJ1_charAt_3b067_0, rfl⟩ rfl rfl ?_
  refine Ev.aload_n (q := 0) ⟨dJ1_charAt_3b067_1, rfl⟩ rfl rfl ?_
  refine Ev.blen hk ⟨dJ1_charAt_3b067_2, rfl⟩ ?_
  refine Ev.callSV (mc1 := 0) (ms1 := 0) sJ1_9 (c_J0_checkIndex_df160 Θ _ _ _ h0 h1) rfl rfl ⟨by decide, by decide, by decide, by decide, Nat.le_of_ble_eq_true rfl⟩ ⟨dJ1_charAt_3b067_3, rfl⟩ ?_
  refine Ev.aload_n (q := 0) ⟨dJ1_charAt_3b067_6, rfl⟩ rfl rfl ?_
  refine Ev.iload_n (q := 1) ⟨dJ1_charAt_3b067_7, rfl⟩ rfl rfl ?_
  refine Ev.bload hk (by omega) (by omega) ⟨dJ1_charAt_3b067_8, rfl⟩ ?_
  refine Ev.sipush ⟨dJ1_charAt_3b067_9, rfl⟩ (inRd rfl) (by decide) ?_
  refine Ev.iand ⟨dJ1_charAt_3b067_12, rfl⟩ ?_
  rw [wb.1]
  refine Ev.i2c ⟨dJ1_charAt_3b067_13, rfl⟩ wb.2.1 (by omega) ?_
  refine Ev.ireturn (ty := .char) ⟨dJ1_charAt_3b067_14, rfl⟩ rfl (nchI wb.2.1 wb.2.2.1) ?_
  exact ⟨rfl, rfl⟩

set_option maxHeartbeats 4000000 in
set_option maxRecDepth 20000 in
theorem c_J0_charAt_5068e (Θ : GC) (h : Hp) (k : Nat) (hk : k < 22) (i : Int) (h0 : 0 ≤ i) (h1 : i < ((wby k).length : Int)) : Cal Θ mJ0_charAt_5068e 3 64 0 0 [vt k, vi i] (h) (Ret (vi ((wby k).getD i.toNat 0)) h) := by
  refine Cal.of (by decide +kernel) rfl rfl (Nat.le_of_ble_eq_true rfl) ?_
  show Ev Θ mJ0_charAt_5068e 3 64 0 0 0 [(0, vt k), (1, vi i)] [] (h) (Ret (vi ((wby k).getD i.toNat 0)) h)
  have wb := wbB k hk i.toNat (by omega)
  refine Ev.aloadt_n (q := 0) ⟨dJ0_charAt_5068e_0, rfl⟩ rfl rfl ?_
  refine Ev.callT1 (mc1 := 0) (ms1 := 0) vJ0_492 (c_J0_isLatin1_aae02 Θ _ _ hk) rfl hk rfl ⟨by decide, by decide, by decide, by decide, Nat.le_of_ble_eq_true rfl⟩ ⟨dJ0_charAt_5068e_1, rfl⟩ ?_
  refine Ev.if_eq jJ0_charAt_5068e_4 (fun hc4 => ?_) (fun hc4 => ?_)
  · exact absurd hc4 (by omega)
  ·
    refine Ev.aloadt_n (q := 0) ⟨dJ0_charAt_5068e_7, rfl⟩ rfl rfl ?_
    refine Ev.getSV hk wJ0_9 ⟨dJ0_charAt_5068e_8, rfl⟩ ?_
    refine Ev.iload_n (q := 1) ⟨dJ0_charAt_5068e_11, rfl⟩ rfl rfl ?_
    refine Ev.callS1 (mc1 := 0) (ms1 := 0) sJ0_495 (c_J1_charAt_3b067 Θ _ _ hk _ h0 h1) rfl rfl ⟨by decide, by decide, by decide, by decide, Nat.le_of_ble_eq_true rfl⟩ ⟨dJ0_charAt_5068e_12, rfl⟩ ?_
    refine Ev.ireturn (ty := .char) ⟨dJ0_charAt_5068e_15, rfl⟩ rfl (nchI wb.2.1 wb.2.2.1) ?_
    exact ⟨rfl, rfl⟩

set_option maxHeartbeats 4000000 in
set_option maxRecDepth 20000 in
theorem c_J13_bitCount_95d88 (Θ : GC) (h : Hp) (s : BitVec 64) : Cal Θ mJ13_bitCount_95d88 0 0 0 0 [vl s] (h) (Ret (vi (pcnt s)) h) := by
  refine Cal.of (by decide +kernel) rfl rfl (Nat.le_of_ble_eq_true rfl) ?_
  show Ev Θ mJ13_bitCount_95d88 0 0 0 0 0 [(0, vl s)] [] (h) (Ret (vi (pcnt s)) h)
  refine Ev.lload_n (q := 0) ⟨dJ13_bitCount_95d88_0, rfl⟩ rfl rfl ?_
  refine Ev.lload_n (q := 0) ⟨dJ13_bitCount_95d88_1, rfl⟩ rfl rfl ?_
  refine Ev.iconst ⟨dJ13_bitCount_95d88_2, rfl⟩ (inRd rfl) ?_
  refine Ev.lushr ⟨dJ13_bitCount_95d88_3, rfl⟩ (by omega) (by omega) ?_
  refine Ev.ldc2 (b := BitVec.ofInt 64 (6148914691236517205)) ⟨dJ13_bitCount_95d88_4, rfl⟩ wJ13_314 ?_
  refine Ev.land ⟨dJ13_bitCount_95d88_7, rfl⟩ ?_
  refine Ev.lsub ⟨dJ13_bitCount_95d88_8, rfl⟩ ?_
  refine Ev.lstore_n (i := 0) (ls' := [(0, _)]) ⟨dJ13_bitCount_95d88_9, rfl⟩ rfl (by decide) rfl ?_
  refine Ev.lload_n (q := 0) ⟨dJ13_bitCount_95d88_10, rfl⟩ rfl rfl ?_
  refine Ev.ldc2 (b := BitVec.ofInt 64 (3689348814741910323)) ⟨dJ13_bitCount_95d88_11, rfl⟩ wJ13_316 ?_
  refine Ev.land ⟨dJ13_bitCount_95d88_14, rfl⟩ ?_
  refine Ev.lload_n (q := 0) ⟨dJ13_bitCount_95d88_15, rfl⟩ rfl rfl ?_
  refine Ev.iconst ⟨dJ13_bitCount_95d88_16, rfl⟩ (inRd rfl) ?_
  refine Ev.lushr ⟨dJ13_bitCount_95d88_17, rfl⟩ (by omega) (by omega) ?_
  refine Ev.ldc2 (b := BitVec.ofInt 64 (3689348814741910323)) ⟨dJ13_bitCount_95d88_18, rfl⟩ wJ13_316 ?_
  refine Ev.land ⟨dJ13_bitCount_95d88_21, rfl⟩ ?_
  refine Ev.ladd ⟨dJ13_bitCount_95d88_22, rfl⟩ ?_
  refine Ev.lstore_n (i := 0) (ls' := [(0, _)]) ⟨dJ13_bitCount_95d88_23, rfl⟩ rfl (by decide) rfl ?_
  refine Ev.lload_n (q := 0) ⟨dJ13_bitCount_95d88_24, rfl⟩ rfl rfl ?_
  refine Ev.lload_n (q := 0) ⟨dJ13_bitCount_95d88_25, rfl⟩ rfl rfl ?_
  refine Ev.iconst ⟨dJ13_bitCount_95d88_26, rfl⟩ (inRd rfl) ?_
  refine Ev.lushr ⟨dJ13_bitCount_95d88_27, rfl⟩ (by omega) (by omega) ?_
  refine Ev.ladd ⟨dJ13_bitCount_95d88_28, rfl⟩ ?_
  refine Ev.ldc2 (b := BitVec.ofInt 64 (1085102592571150095)) ⟨dJ13_bitCount_95d88_29, rfl⟩ wJ13_318 ?_
  refine Ev.land ⟨dJ13_bitCount_95d88_32, rfl⟩ ?_
  refine Ev.lstore_n (i := 0) (ls' := [(0, _)]) ⟨dJ13_bitCount_95d88_33, rfl⟩ rfl (by decide) rfl ?_
  refine Ev.lload_n (q := 0) ⟨dJ13_bitCount_95d88_34, rfl⟩ rfl rfl ?_
  refine Ev.lload_n (q := 0) ⟨dJ13_bitCount_95d88_35, rfl⟩ rfl rfl ?_
  refine Ev.bipush ⟨dJ13_bitCount_95d88_36, rfl⟩ (inRd rfl) (by decide) ?_
  refine Ev.lushr ⟨dJ13_bitCount_95d88_38, rfl⟩ (by omega) (by omega) ?_
  refine Ev.ladd ⟨dJ13_bitCount_95d88_39, rfl⟩ ?_
  refine Ev.lstore_n (i := 0) (ls' := [(0, _)]) ⟨dJ13_bitCount_95d88_40, rfl⟩ rfl (by decide) rfl ?_
  refine Ev.lload_n (q := 0) ⟨dJ13_bitCount_95d88_41, rfl⟩ rfl rfl ?_
  refine Ev.lload_n (q := 0) ⟨dJ13_bitCount_95d88_42, rfl⟩ rfl rfl ?_
  refine Ev.bipush ⟨dJ13_bitCount_95d88_43, rfl⟩ (inRd rfl) (by decide) ?_
  refine Ev.lushr ⟨dJ13_bitCount_95d88_45, rfl⟩ (by omega) (by omega) ?_
  refine Ev.ladd ⟨dJ13_bitCount_95d88_46, rfl⟩ ?_
  refine Ev.lstore_n (i := 0) (ls' := [(0, _)]) ⟨dJ13_bitCount_95d88_47, rfl⟩ rfl (by decide) rfl ?_
  refine Ev.lload_n (q := 0) ⟨dJ13_bitCount_95d88_48, rfl⟩ rfl rfl ?_
  refine Ev.lload_n (q := 0) ⟨dJ13_bitCount_95d88_49, rfl⟩ rfl rfl ?_
  refine Ev.bipush ⟨dJ13_bitCount_95d88_50, rfl⟩ (inRd rfl) (by decide) ?_
  refine Ev.lushr ⟨dJ13_bitCount_95d88_52, rfl⟩ (by omega) (by omega) ?_
  refine Ev.ladd ⟨dJ13_bitCount_95d88_53, rfl⟩ ?_
  refine Ev.lstore_n (i := 0) (ls' := [(0, _)]) ⟨dJ13_bitCount_95d88_54, rfl⟩ rfl (by decide) rfl ?_
  refine Ev.lload_n (q := 0) ⟨dJ13_bitCount_95d88_55, rfl⟩ rfl rfl ?_
  refine Ev.l2i ⟨dJ13_bitCount_95d88_56, rfl⟩ ?_
  refine Ev.bipush ⟨dJ13_bitCount_95d88_57, rfl⟩ (inRd rfl) (by decide) ?_
  refine Ev.iand ⟨dJ13_bitCount_95d88_59, rfl⟩ ?_
  refine Ev.ireturn (ty := .int) ⟨dJ13_bitCount_95d88_60, rfl⟩ rfl rfl ?_
  exact ⟨rfl, rfl⟩

def F_J7_fill_53178_5 (z : Nat) (v0 : Nat) (v1 : Int) (v3 : Int) : Nat → Int → Mm → Option (Mm)
  | 0, _, _ => none
  | k + 1, v2, x => if v3 ≤ v2 then (some (x)) else (ckI v2 360 <| (some (wI x 23 v0 (v2).toNat (v1))).bind fun x2 => ckR ((v2 + 1)) <| F_J7_fill_53178_5 z v0 v1 v3 k ((v2 + 1)) x2)
set_option maxHeartbeats 4000000 in
set_option maxRecDepth 20000 in
theorem e_J7_fill_53178_5 (Θ : GC) (D : Nat → Nat → Prop) (z : Nat) (v0 : Nat) (v1 : Int) (v3 : Int) (Q : Ro → Hp → Prop) (mc ms : Nat) : ∀ (k : Nat) (v2 : Int) (x : Mm) (y), F_J7_fill_53178_5 z v0 v1 v3 k v2 x = some y → (Ev Θ mJ7_fill_53178 0 0 mc ms 20 [(0, vr 23 (v0 + 1)), (1, vi (v1)), (3, vi (v3))] [] (hq D y) Q) → Ev Θ mJ7_fill_53178 0 0 mc ms 5 [(0, vr 23 (v0 + 1)), (1, vi (v1)), (2, vi (v2)), (3, vi (v3))] [] (hq D x) Q := by
  intro k
  induction k with
  | zero => intro v2 x y h; exact absurd h (by unfold F_J7_fill_53178_5; exact nofun)
  | succ k ih =>
    intro v2 x y h k1
    unfold F_J7_fill_53178_5 at h
    refine Ev.iload_n (q := 2) ⟨dJ7_fill_53178_5, rfl⟩ rfl rfl ?_
    refine Ev.iload_n (q := 3) ⟨dJ7_fill_53178_6, rfl⟩ rfl rfl ?_
    refine Ev.icmp_ge jJ7_fill_53178_7 (fun hc => ?_) (fun hc => ?_)
    · replace h := (if_pos hc).symm.trans h; clear hc
      refine Ev.keep [0, 1, 3] rfl ?_
      obtain rfl := Option.some.inj h
      exact k1
    · replace h := (if_neg hc).symm.trans h; clear hc
      refine Ev.aload_n (q := 0) ⟨dJ7_fill_53178_10, rfl⟩ rfl rfl ?_
      refine Ev.iload_n (q := 2) ⟨dJ7_fill_53178_11, rfl⟩ rfl rfl ?_
      refine Ev.iload_n (q := 1) ⟨dJ7_fill_53178_12, rfl⟩ rfl rfl ?_
      obtain ⟨c1, h⟩ := ckI_s h
      obtain ⟨x2, ex, h⟩ := bnd_s h
      refine Ev.iastore (by decide) c1.1 c1.2 ⟨dJ7_fill_53178_13, rfl⟩ ?_
      refine Ev.cast ?_ rfl rfl (hqI ex)
      clear ex
      obtain ⟨c3, h⟩ := ckR_s h
      refine Ev.iinc (q := 2) (ls' := [(0, _), (1, _), (2, _), (3, _)]) ⟨dJ7_fill_53178_14, rfl⟩ rfl (by decide) c3 rfl ?_
      refine Ev.goto jJ7_fill_53178_17 ?_
      exact ih _ _ _ h k1
def F_J7_fill_53178 (z : Nat) (v0 : Nat) (v1 : Int) (x : Mm) : Option (Mm) := (F_J7_fill_53178_5 z (v0) (v1) ((360 : Int)) z ((0 : Int)) x).bind fun s4 => some (s4)
set_option maxHeartbeats 4000000 in
set_option maxRecDepth 20000 in
theorem c_J7_fill_53178 (Θ : GC) (D : Nat → Nat → Prop) (z : Nat) (v0 : Nat) (v1 : Int) (x : Mm) (y) (h : F_J7_fill_53178 z v0 v1 x = some y) : Cal Θ mJ7_fill_53178 0 0 0 0 [vr 23 (v0 + 1), vi (v1)] (hq D x) (RetN (hq D y)) := by
  refine Cal.of (by decide +kernel) rfl rfl (Nat.le_of_ble_eq_true rfl) ?_
  show Ev Θ mJ7_fill_53178 0 0 0 0 0 [(0, vr 23 (v0 + 1)), (1, vi (v1))] [] (hq D x) (RetN (hq D y))
  unfold F_J7_fill_53178 at h
  refine Ev.iconst ⟨dJ7_fill_53178_0, rfl⟩ (inRd rfl) ?_
  refine Ev.istore_n (i := 2) (ls' := [(0, _), (1, _), (2, _)]) ⟨dJ7_fill_53178_1, rfl⟩ rfl (by decide) rfl ?_
  refine Ev.aload_n (q := 0) ⟨dJ7_fill_53178_2, rfl⟩ rfl rfl ?_
  refine Ev.alen (by decide) ⟨dJ7_fill_53178_3, rfl⟩ ?_
  refine Ev.istore_n (i := 3) (ls' := [(0, _), (1, _), (2, _), (3, _)]) ⟨dJ7_fill_53178_4, rfl⟩ rfl (by decide) rfl ?_
  obtain ⟨s4, hl, h⟩ := bnd_s h
  refine e_J7_fill_53178_5 Θ D z _ _ _ _ _ _ _ _ _ _ hl ?_
  clear hl
  obtain rfl := Option.some.inj h
  exact Ev.ret ⟨dJ7_fill_53178_20, rfl⟩ rfl ⟨rfl, rfl⟩
