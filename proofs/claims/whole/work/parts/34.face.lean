def F_X7_append (z : Nat) (v0 : Nat) (v1 : Int) (v2 : Int) (v3 : Int) (v4 : Int) (v5 : Int) (x : Mm) : Option ((Int ⊕ String) × Mm) := (F_X7_countBytes z (v1) x).bind fun r2 => (F_X7_countBytes z (v2) x).bind fun r4 => ckR ((r2 + r4)) <| (F_X7_countBytes z (v3) x).bind fun r7 => ckR (((r2 + r4) + r7)) <| (F_X7_countBytes z (v4) x).bind fun r10 => ckR ((((r2 + r4) + r7) + r10)) <| (F_X7_countBytes z (v5) x).bind fun r13 => ckR (((((r2 + r4) + r7) + r10) + r13)) <| ckR (((x.1 5 0 0) + ((((r2 + r4) + r7) + r10) + r13))) <| if ((x.1 5 0 0) + ((((r2 + r4) + r7) + r10) + r13)) ≤ (600 : Int) then ((F_X5_addBytes z (0) (v1) x).bind fun r17 => (F_X5_addBytes z (0) (v2) r17).bind fun r19 => (F_X5_addBytes z (0) (v3) r19).bind fun r21 => (F_X5_addBytes z (0) (v4) r21).bind fun r23 => (F_X5_addBytes z (0) (v5) r23).bind fun r25 => some ((.inl (r25.1 5 0 0), r25))) else (some (.inr "java/lang/IllegalStateException", x))
set_option maxHeartbeats 4000000 in
set_option maxRecDepth 20000 in
theorem c_X7_append (Θ : GC) (D : Nat → Nat → Prop) (z : Nat) (v0 : Nat) (v1 : Int) (v2 : Int) (v3 : Int) (v4 : Int) (v5 : Int) (x : Mm) (y) (h : F_X7_append z v0 v1 v2 v3 v4 v5 x = some y) : Cal Θ mX7_append 6 90 1 6 [vr 7 (v0 + 1), vi (v1), vi (v2), vi (v3), vi (v4), vi (v5)] (hq D x) (ThrI D y) := by
  refine Cal.of (by decide +kernel) rfl rfl (Nat.le_of_ble_eq_true rfl) ?_
  show Ev Θ mX7_append 6 90 1 6 0 [(0, vr 7 (v0 + 1)), (1, vi (v1)), (2, vi (v2)), (3, vi (v3)), (4, vi (v4)), (5, vi (v5))] [] (hq D x) (ThrI D y)
  unfold F_X7_append at h
  refine Ev.iload_n (q := 1) ⟨dX7_append_0, rfl⟩ rfl rfl ?_
  obtain ⟨r2, hv1, h⟩ := bnd_s h
  refine Ev.callS1 (mc1 := 1) (ms1 := 6) (v := vi r2) (h1 := hq D x) sX7_53 (c_X7_countBytes Θ D z _ _ _ hv1) rfl rfl ⟨by decide, by decide, Nat.le_of_eq (Nat.zero_add _), Nat.le_of_eq (Nat.zero_add _), Nat.le_of_ble_eq_true rfl⟩ ⟨dX7_append_1, rfl⟩ ?_
  clear hv1
  refine Ev.iload_n (q := 2) ⟨dX7_append_4, rfl⟩ rfl rfl ?_
  obtain ⟨r4, hv3, h⟩ := bnd_s h
  refine Ev.callS1 (mc1 := 1) (ms1 := 6) (v := vi r4) (h1 := hq D x) sX7_53 (c_X7_countBytes Θ D z _ _ _ hv3) rfl rfl ⟨by decide, by decide, Nat.le_of_eq (Nat.zero_add _), Nat.le_of_eq (Nat.zero_add _), Nat.le_of_ble_eq_true rfl⟩ ⟨dX7_append_5, rfl⟩ ?_
  clear hv3
  obtain ⟨c5, h⟩ := ckR_s h
  refine Ev.iadd ⟨dX7_append_8, rfl⟩ c5 ?_
  refine Ev.iload_n (q := 3) ⟨dX7_append_9, rfl⟩ rfl rfl ?_
  obtain ⟨r7, hv6, h⟩ := bnd_s h
  refine Ev.callS1 (mc1 := 1) (ms1 := 6) (v := vi r7) (h1 := hq D x) sX7_53 (c_X7_countBytes Θ D z _ _ _ hv6) rfl rfl ⟨by decide, by decide, Nat.le_of_eq (Nat.zero_add _), Nat.le_of_eq (Nat.zero_add _), Nat.le_of_ble_eq_true rfl⟩ ⟨dX7_append_10, rfl⟩ ?_
  clear hv6
  obtain ⟨c8, h⟩ := ckR_s h
  refine Ev.iadd ⟨dX7_append_13, rfl⟩ c8 ?_
  refine Ev.iload (q := 4) ⟨dX7_append_14, rfl⟩ rfl ?_
  obtain ⟨r10, hv9, h⟩ := bnd_s h
  refine Ev.callS1 (mc1 := 1) (ms1 := 6) (v := vi r10) (h1 := hq D x) sX7_53 (c_X7_countBytes Θ D z _ _ _ hv9) rfl rfl ⟨by decide, by decide, Nat.le_of_eq (Nat.zero_add _), Nat.le_of_eq (Nat.zero_add _), Nat.le_of_ble_eq_true rfl⟩ ⟨dX7_append_16, rfl⟩ ?_
  clear hv9
  obtain ⟨c11, h⟩ := ckR_s h
  refine Ev.iadd ⟨dX7_append_19, rfl⟩ c11 ?_
  refine Ev.iload (q := 5) ⟨dX7_append_20, rfl⟩ rfl ?_
  obtain ⟨r13, hv12, h⟩ := bnd_s h
  refine Ev.callS1 (mc1 := 1) (ms1 := 6) (v := vi r13) (h1 := hq D x) sX7_53 (c_X7_countBytes Θ D z _ _ _ hv12) rfl rfl ⟨by decide, by decide, Nat.le_of_eq (Nat.zero_add _), Nat.le_of_eq (Nat.zero_add _), Nat.le_of_ble_eq_true rfl⟩ ⟨dX7_append_22, rfl⟩ ?_
  clear hv12
  obtain ⟨c14, h⟩ := ckR_s h
  refine Ev.iadd ⟨dX7_append_25, rfl⟩ c14 ?_
  refine Ev.istore (i := 6) (ls' := [(0, _), (1, _), (2, _), (3, _), (4, _), (5, _), (6, _)]) ⟨dX7_append_26, rfl⟩ (by decide) rfl ?_
  refine Ev.aload_n (q := 0) ⟨dX7_append_28, rfl⟩ rfl rfl ?_
  refine Ev.getRk (C2 := 5) (r := 0) fX7_29 rfl (by decide) (by decide) ⟨dX7_append_29, rfl⟩ ?_
  refine Ev.getI fX7_57 (Or.inl rfl) ⟨dX7_append_32, rfl⟩ ?_
  refine Ev.iload (q := 6) ⟨dX7_append_35, rfl⟩ rfl ?_
  obtain ⟨c15, h⟩ := ckR_s h
  refine Ev.iadd ⟨dX7_append_37, rfl⟩ c15 ?_
  refine Ev.sipush ⟨dX7_append_38, rfl⟩ (inRd rfl) (by decide) ?_
  refine Ev.icmp_le jX7_append_41 (fun hc => ?_) (fun hc => ?_)
  · replace h := (if_pos hc).symm.trans h; clear hc
    refine Ev.aload_n (q := 0) ⟨dX7_append_54, rfl⟩ rfl rfl ?_
    refine Ev.getRk (C2 := 5) (r := 0) fX7_29 rfl (by decide) (by decide) ⟨dX7_append_55, rfl⟩ ?_
    refine Ev.iload_n (q := 1) ⟨dX7_append_58, rfl⟩ rfl rfl ?_
    obtain ⟨r17, hv16, h⟩ := bnd_s h
    refine Ev.callVN (mc1 := 1) (ms1 := 6) (h1 := hq D r17) vX7_68 (c_X5_addBytes Θ D z _ _ _ _ hv16) rfl rfl (by decide) rfl ⟨by decide, by decide, Nat.le_of_eq (Nat.zero_add _), Nat.le_of_eq (Nat.zero_add _), Nat.le_of_ble_eq_true rfl⟩ ⟨dX7_append_59, rfl⟩ ?_
    clear hv16
    refine Ev.aload_n (q := 0) ⟨dX7_append_62, rfl⟩ rfl rfl ?_
    refine Ev.getRk (C2 := 5) (r := 0) fX7_29 rfl (by decide) (by decide) ⟨dX7_append_63, rfl⟩ ?_
    refine Ev.iload_n (q := 2) ⟨dX7_append_66, rfl⟩ rfl rfl ?_
    obtain ⟨r19, hv18, h⟩ := bnd_s h
    refine Ev.callVN (mc1 := 1) (ms1 := 6) (h1 := hq D r19) vX7_68 (c_X5_addBytes Θ D z _ _ _ _ hv18) rfl rfl (by decide) rfl ⟨by decide, by decide, Nat.le_of_eq (Nat.zero_add _), Nat.le_of_eq (Nat.zero_add _), Nat.le_of_ble_eq_true rfl⟩ ⟨dX7_append_67, rfl⟩ ?_
    clear hv18
    refine Ev.aload_n (q := 0) ⟨dX7_append_70, rfl⟩ rfl rfl ?_
    refine Ev.getRk (C2 := 5) (r := 0) fX7_29 rfl (by decide) (by decide) ⟨dX7_append_71, rfl⟩ ?_
    refine Ev.iload_n (q := 3) ⟨dX7_append_74, rfl⟩ rfl rfl ?_
    obtain ⟨r21, hv20, h⟩ := bnd_s h
    refine Ev.callVN (mc1 := 1) (ms1 := 6) (h1 := hq D r21) vX7_68 (c_X5_addBytes Θ D z _ _ _ _ hv20) rfl rfl (by decide) rfl ⟨by decide, by decide, Nat.le_of_eq (Nat.zero_add _), Nat.le_of_eq (Nat.zero_add _), Nat.le_of_ble_eq_true rfl⟩ ⟨dX7_append_75, rfl⟩ ?_
    clear hv20
    refine Ev.aload_n (q := 0) ⟨dX7_append_78, rfl⟩ rfl rfl ?_
    refine Ev.getRk (C2 := 5) (r := 0) fX7_29 rfl (by decide) (by decide) ⟨dX7_append_79, rfl⟩ ?_
    refine Ev.iload (q := 4) ⟨dX7_append_82, rfl⟩ rfl ?_
    obtain ⟨r23, hv22, h⟩ := bnd_s h
    refine Ev.callVN (mc1 := 1) (ms1 := 6) (h1 := hq D r23) vX7_68 (c_X5_addBytes Θ D z _ _ _ _ hv22) rfl rfl (by decide) rfl ⟨by decide, by decide, Nat.le_of_eq (Nat.zero_add _), Nat.le_of_eq (Nat.zero_add _), Nat.le_of_ble_eq_true rfl⟩ ⟨dX7_append_84, rfl⟩ ?_
    clear hv22
    refine Ev.aload_n (q := 0) ⟨dX7_append_87, rfl⟩ rfl rfl ?_
    refine Ev.getRk (C2 := 5) (r := 0) fX7_29 rfl (by decide) (by decide) ⟨dX7_append_88, rfl⟩ ?_
    refine Ev.iload (q := 5) ⟨dX7_append_91, rfl⟩ rfl ?_
    obtain ⟨r25, hv24, h⟩ := bnd_s h
    refine Ev.callVN (mc1 := 1) (ms1 := 6) (h1 := hq D r25) vX7_68 (c_X5_addBytes Θ D z _ _ _ _ hv24) rfl rfl (by decide) rfl ⟨by decide, by decide, Nat.le_of_eq (Nat.zero_add _), Nat.le_of_eq (Nat.zero_add _), Nat.le_of_ble_eq_true rfl⟩ ⟨dX7_append_93, rfl⟩ ?_
    clear hv24
    refine Ev.aload_n (q := 0) ⟨dX7_append_96, rfl⟩ rfl rfl ?_
    refine Ev.getRk (C2 := 5) (r := 0) fX7_29 rfl (by decide) (by decide) ⟨dX7_append_97, rfl⟩ ?_
    refine Ev.getI fX7_57 (Or.inl rfl) ⟨dX7_append_100, rfl⟩ ?_
    obtain rfl := Option.some.inj h
    exact Ev.ireturn (ty := .int) ⟨dX7_append_103, rfl⟩ rfl rfl ⟨rfl, rfl⟩
  · replace h := (if_neg hc).symm.trans h; clear hc
    obtain rfl := Option.some.inj h
    exact Ev.throwS eX7_IllegalStateException tX7_63 rfl dX7_append_44 dX7_append_47 dX7_append_48 dX7_append_50 dX7_append_53 (by decide) (Nat.le_of_ble_eq_true rfl) (by decide) (by decide) ⟨rfl, rfl⟩

def F_X7_truncate (z : Nat) (v0 : Nat) (v1 : Int) (x : Mm) : Option ((Int ⊕ String) × Mm) := if v1 < 0 then (some (.inr "java/lang/IllegalArgumentException", x)) else (if v1 ≤ (x.1 5 0 0) then ((some (wI x 5 0 0 (v1))).bind fun x1 => some ((.inl v1, x1))) else (some (.inr "java/lang/IllegalArgumentException", x)))
set_option maxHeartbeats 4000000 in
set_option maxRecDepth 20000 in
theorem c_X7_truncate (Θ : GC) (D : Nat → Nat → Prop) (z : Nat) (v0 : Nat) (v1 : Int) (x : Mm) (y) (h : F_X7_truncate z v0 v1 x = some y) : Cal Θ mX7_truncate 6 90 1 6 [vr 7 (v0 + 1), vi (v1)] (hq D x) (ThrI D y) := by
  refine Cal.of (by decide +kernel) rfl rfl (Nat.le_of_ble_eq_true rfl) ?_
  show Ev Θ mX7_truncate 6 90 1 6 0 [(0, vr 7 (v0 + 1)), (1, vi (v1))] [] (hq D x) (ThrI D y)
  unfold F_X7_truncate at h
  refine Ev.iload_n (q := 1) ⟨dX7_truncate_0, rfl⟩ rfl rfl ?_
  refine Ev.if_lt jX7_truncate_1 (fun hc => ?_) (fun hc => ?_)
  · replace h := (if_pos hc).symm.trans h; clear hc
    obtain rfl := Option.some.inj h
    exact Ev.throwS eX7_IllegalArgumentException tX7_74 rfl dX7_truncate_15 dX7_truncate_18 dX7_truncate_19 dX7_truncate_21 dX7_truncate_24 (by decide) (Nat.le_of_ble_eq_true rfl) (by decide) (by decide) ⟨rfl, rfl⟩
  · replace h := (if_neg hc).symm.trans h; clear hc
    refine Ev.iload_n (q := 1) ⟨dX7_truncate_4, rfl⟩ rfl rfl ?_
    refine Ev.aload_n (q := 0) ⟨dX7_truncate_5, rfl⟩ rfl rfl ?_
    refine Ev.getRk (C2 := 5) (r := 0) fX7_29 rfl (by decide) (by decide) ⟨dX7_truncate_6, rfl⟩ ?_
    refine Ev.getI fX7_57 (Or.inl rfl) ⟨dX7_truncate_9, rfl⟩ ?_
    refine Ev.icmp_le jX7_truncate_12 (fun hc => ?_) (fun hc => ?_)
    · replace h := (if_pos hc).symm.trans h; clear hc
      refine Ev.aload_n (q := 0) ⟨dX7_truncate_25, rfl⟩ rfl rfl ?_
      refine Ev.getRk (C2 := 5) (r := 0) fX7_29 rfl (by decide) (by decide) ⟨dX7_truncate_26, rfl⟩ ?_
      refine Ev.iload_n (q := 1) ⟨dX7_truncate_29, rfl⟩ rfl rfl ?_
      obtain ⟨x1, ex, h⟩ := bnd_s h
      refine Ev.putI fX7_57 ⟨dX7_truncate_30, rfl⟩ ?_
      refine Ev.cast ?_ rfl rfl (hqI ex)
      clear ex
      refine Ev.iload_n (q := 1) ⟨dX7_truncate_33, rfl⟩ rfl rfl ?_
      obtain rfl := Option.some.inj h
      exact Ev.ireturn (ty := .int) ⟨dX7_truncate_34, rfl⟩ rfl rfl ⟨rfl, rfl⟩
    · replace h := (if_neg hc).symm.trans h; clear hc
      obtain rfl := Option.some.inj h
      exact Ev.throwS eX7_IllegalArgumentException tX7_74 rfl dX7_truncate_15 dX7_truncate_18 dX7_truncate_19 dX7_truncate_21 dX7_truncate_24 (by decide) (Nat.le_of_ble_eq_true rfl) (by decide) (by decide) ⟨rfl, rfl⟩

def F_X7_errorPosition (z : Nat) (v0 : Nat) (x : Mm) : Option (Int × Mm) := (F_X5_readAll z (0) x).bind fun r2 => some ((r2.1, r2.2))
set_option maxHeartbeats 4000000 in
set_option maxRecDepth 20000 in
theorem c_X7_errorPosition (Θ : GC) (D : Nat → Nat → Prop) (z : Nat) (v0 : Nat) (x : Mm) (y) (h : F_X7_errorPosition z v0 x = some y) : Cal Θ mX7_errorPosition 9 189 0 0 [vr 7 (v0 + 1)] (hq D x) (Ret (vi y.1) (hq D y.2)) := by
  refine Cal.of (by decide +kernel) rfl rfl (Nat.le_of_ble_eq_true rfl) ?_
  show Ev Θ mX7_errorPosition 9 189 0 0 0 [(0, vr 7 (v0 + 1))] [] (hq D x) (Ret (vi y.1) (hq D y.2))
  unfold F_X7_errorPosition at h
  refine Ev.aload_n (q := 0) ⟨dX7_errorPosition_0, rfl⟩ rfl rfl ?_
  refine Ev.getRk (C2 := 5) (r := 0) fX7_29 rfl (by decide) (by decide) ⟨dX7_errorPosition_1, rfl⟩ ?_
  obtain ⟨r2, hv1, h⟩ := bnd_s h
  refine Ev.callV1 (mc1 := 0) (ms1 := 0) (v := vi r2.1) (h1 := hq D r2.2) vX7_77 (c_X5_readAll Θ D z _ _ _ hv1) rfl rfl (by decide) rfl ⟨by decide, by decide, Nat.le_of_eq (Nat.zero_add _), Nat.le_of_eq (Nat.zero_add _), Nat.le_of_ble_eq_true rfl⟩ ⟨dX7_errorPosition_4, rfl⟩ ?_
  clear hv1
  obtain rfl := Option.some.inj h
  exact Ev.ireturn (ty := .int) ⟨dX7_errorPosition_7, rfl⟩ rfl rfl ⟨rfl, rfl⟩

def F_X7_load (z : Nat) (v0 : Nat) (x : Mm) : Option ((Int ⊕ String) × Mm) := (F_X5_readAll z (0) x).bind fun r2 => if r2.1 = (-1 : Int) then ((F_X6_copyFrom z (0) (10) r2.2).bind fun r4 => (some (wI r4 5 0 0 ((0 : Int)))).bind fun x5 => (F_X2_forget z (0) x5).bind fun r7 => (some (wI r7 7 v0 2 ((0 : Int)))).bind fun x8 => some ((.inl (x8.1 4 0 0), x8))) else (some (.inr "java/lang/IllegalArgumentException", r2.2))
set_option maxHeartbeats 4000000 in
set_option maxRecDepth 20000 in
theorem c_X7_load (Θ : GC) (D : Nat → Nat → Prop) (z : Nat) (v0 : Nat) (x : Mm) (y) (h : F_X7_load z v0 x = some y) : Cal Θ mX7_load 9 189 1 6 [vr 7 (v0 + 1)] (hq D x) (ThrI D y) := by
  refine Cal.of (by decide +kernel) rfl rfl (Nat.le_of_ble_eq_true rfl) ?_
  show Ev Θ mX7_load 9 189 1 6 0 [(0, vr 7 (v0 + 1))] [] (hq D x) (ThrI D y)
  unfold F_X7_load at h
  refine Ev.aload_n (q := 0) ⟨dX7_load_0, rfl⟩ rfl rfl ?_
  refine Ev.getRk (C2 := 5) (r := 0) fX7_29 rfl (by decide) (by decide) ⟨dX7_load_1, rfl⟩ ?_
  obtain ⟨r2, hv1, h⟩ := bnd_s h
  refine Ev.callV1 (mc1 := 1) (ms1 := 6) (v := vi r2.1) (h1 := hq D r2.2) vX7_77 (c_X5_readAll Θ D z _ _ _ hv1) rfl rfl (by decide) rfl ⟨by decide, by decide, Nat.le_of_eq (Nat.zero_add _), Nat.le_of_eq (Nat.zero_add _), Nat.le_of_ble_eq_true rfl⟩ ⟨dX7_load_4, rfl⟩ ?_
  clear hv1
  refine Ev.iconst ⟨dX7_load_7, rfl⟩ (inRd rfl) ?_
  refine Ev.icmp_eq jX7_load_8 (fun hc => ?_) (fun hc => ?_)
  · replace h := (if_pos hc).symm.trans h; clear hc
    refine Ev.aload_n (q := 0) ⟨dX7_load_21, rfl⟩ rfl rfl ?_
    refine Ev.getRk (C2 := 6) (r := 0) fX7_10 rfl (by decide) (by decide) ⟨dX7_load_22, rfl⟩ ?_
    refine Ev.aload_n (q := 0) ⟨dX7_load_25, rfl⟩ rfl rfl ?_
    refine Ev.getRk (C2 := 5) (r := 0) fX7_29 rfl (by decide) (by decide) ⟨dX7_load_26, rfl⟩ ?_
    refine Ev.getRk (C2 := 6) (r := 10) fX7_83 rfl (by decide) (by decide) ⟨dX7_load_29, rfl⟩ ?_
    obtain ⟨r4, hv3, h⟩ := bnd_s h
    refine Ev.callVN (mc1 := 1) (ms1 := 6) (h1 := hq D r4) vX7_86 (c_X6_copyFrom Θ D z _ _ _ _ hv3) rfl rfl (by decide) rfl ⟨by decide, by decide, Nat.le_of_eq (Nat.zero_add _), Nat.le_of_eq (Nat.zero_add _), Nat.le_of_ble_eq_true rfl⟩ ⟨dX7_load_32, rfl⟩ ?_
    clear hv3
    refine Ev.aload_n (q := 0) ⟨dX7_load_35, rfl⟩ rfl rfl ?_
    refine Ev.getRk (C2 := 5) (r := 0) fX7_29 rfl (by decide) (by decide) ⟨dX7_load_36, rfl⟩ ?_
    refine Ev.iconst ⟨dX7_load_39, rfl⟩ (inRd rfl) ?_
    obtain ⟨x5, ex, h⟩ := bnd_s h
    refine Ev.putI fX7_57 ⟨dX7_load_40, rfl⟩ ?_
    refine Ev.cast ?_ rfl rfl (hqI ex)
    clear ex
    refine Ev.aload_n (q := 0) ⟨dX7_load_43, rfl⟩ rfl rfl ?_
    refine Ev.getRk (C2 := 2) (r := 0) fX7_22 rfl (by decide) (by decide) ⟨dX7_load_44, rfl⟩ ?_
    obtain ⟨r7, hv6, h⟩ := bnd_s h
    refine Ev.callVN (mc1 := 1) (ms1 := 6) (h1 := hq D r7) vX7_90 (c_X2_forget Θ D z _ _ _ hv6) rfl rfl (by decide) rfl ⟨by decide, by decide, Nat.le_of_eq (Nat.zero_add _), Nat.le_of_eq (Nat.zero_add _), Nat.le_of_ble_eq_true rfl⟩ ⟨dX7_load_47, rfl⟩ ?_
    clear hv6
    refine Ev.aload_n (q := 0) ⟨dX7_load_50, rfl⟩ rfl rfl ?_
    refine Ev.iconst ⟨dX7_load_51, rfl⟩ (inRd rfl) ?_
    obtain ⟨x8, ex, h⟩ := bnd_s h
    refine Ev.putZ fX7_93 (by decide) ⟨dX7_load_52, rfl⟩ ?_
    refine Ev.cast ?_ rfl rfl (hqI ex)
    clear ex
    refine Ev.aload_n (q := 0) ⟨dX7_load_55, rfl⟩ rfl rfl ?_
    refine Ev.getRk (C2 := 6) (r := 0) fX7_10 rfl (by decide) (by decide) ⟨dX7_load_56, rfl⟩ ?_
    refine Ev.getRk (C2 := 4) (r := 0) fX7_97 rfl (by decide) (by decide) ⟨dX7_load_59, rfl⟩ ?_
    refine Ev.getI fX7_101 (Or.inl rfl) ⟨dX7_load_62, rfl⟩ ?_
    obtain rfl := Option.some.inj h
    exact Ev.ireturn (ty := .int) ⟨dX7_load_65, rfl⟩ rfl rfl ⟨rfl, rfl⟩
  · replace h := (if_neg hc).symm.trans h; clear hc
    obtain rfl := Option.some.inj h
    exact Ev.throwS eX7_IllegalArgumentException tX7_81 rfl dX7_load_11 dX7_load_14 dX7_load_15 dX7_load_17 dX7_load_20 (by decide) (Nat.le_of_ble_eq_true rfl) (by decide) (by decide) ⟨rfl, rfl⟩

def F_X7_requireClient (z : Nat) (v0 : Nat) (v1 : Int) (x : Mm) : Option ((Unit ⊕ String) × Mm) := if v1 < 0 then (some (.inr "java/lang/IndexOutOfBoundsException", x)) else (if v1 < (x.1 6 0 2) then (some ((.inl (), x))) else (some (.inr "java/lang/IndexOutOfBoundsException", x)))
set_option maxHeartbeats 4000000 in
set_option maxRecDepth 20000 in
theorem c_X7_requireClient (Θ : GC) (D : Nat → Nat → Prop) (z : Nat) (v0 : Nat) (v1 : Int) (x : Mm) (y) (h : F_X7_requireClient z v0 v1 x = some y) : Cal Θ mX7_requireClient 6 90 1 6 [vr 7 (v0 + 1), vi (v1)] (hq D x) (ThrU D y) := by
  refine Cal.of (by decide +kernel) rfl rfl (Nat.le_of_ble_eq_true rfl) ?_
  show Ev Θ mX7_requireClient 6 90 1 6 0 [(0, vr 7 (v0 + 1)), (1, vi (v1))] [] (hq D x) (ThrU D y)
  unfold F_X7_requireClient at h
  refine Ev.iload_n (q := 1) ⟨dX7_requireClient_0, rfl⟩ rfl rfl ?_
  refine Ev.if_lt jX7_requireClient_1 (fun hc => ?_) (fun hc => ?_)
  · replace h := (if_pos hc).symm.trans h; clear hc
    obtain rfl := Option.some.inj h
    exact Ev.throwSW eX7_IndexOutOfBoundsException tX7_348 rfl dX7_requireClient_15 dX7_requireClient_18 dX7_requireClient_19 dX7_requireClient_22 dX7_requireClient_25 (by decide) (Nat.le_of_ble_eq_true rfl) (by decide) (by decide) ⟨rfl, rfl⟩
  · replace h := (if_neg hc).symm.trans h; clear hc
    refine Ev.iload_n (q := 1) ⟨dX7_requireClient_4, rfl⟩ rfl rfl ?_
    refine Ev.aload_n (q := 0) ⟨dX7_requireClient_5, rfl⟩ rfl rfl ?_
    refine Ev.getRk (C2 := 6) (r := 0) fX7_10 rfl (by decide) (by decide) ⟨dX7_requireClient_6, rfl⟩ ?_
    refine Ev.getI fX7_267 (Or.inl rfl) ⟨dX7_requireClient_9, rfl⟩ ?_
    refine Ev.icmp_lt jX7_requireClient_12 (fun hc => ?_) (fun hc => ?_)
    · replace h := (if_pos hc).symm.trans h; clear hc
      obtain rfl := Option.some.inj h
      exact Ev.ret ⟨dX7_requireClient_26, rfl⟩ rfl ⟨rfl, rfl⟩
    · replace h := (if_neg hc).symm.trans h; clear hc
      obtain rfl := Option.some.inj h
      exact Ev.throwSW eX7_IndexOutOfBoundsException tX7_348 rfl dX7_requireClient_15 dX7_requireClient_18 dX7_requireClient_19 dX7_requireClient_22 dX7_requireClient_25 (by decide) (Nat.le_of_ble_eq_true rfl) (by decide) (by decide) ⟨rfl, rfl⟩

def F_X7_requireNode (z : Nat) (v0 : Nat) (v1 : Int) (x : Mm) : Option ((Unit ⊕ String) × Mm) := if v1 < 0 then (some (.inr "java/lang/IndexOutOfBoundsException", x)) else (if v1 < (x.1 4 0 0) then (some ((.inl (), x))) else (some (.inr "java/lang/IndexOutOfBoundsException", x)))
set_option maxHeartbeats 4000000 in
set_option maxRecDepth 20000 in
theorem c_X7_requireNode (Θ : GC) (D : Nat → Nat → Prop) (z : Nat) (v0 : Nat) (v1 : Int) (x : Mm) (y) (h : F_X7_requireNode z v0 v1 x = some y) : Cal Θ mX7_requireNode 6 90 1 6 [vr 7 (v0 + 1), vi (v1)] (hq D x) (ThrU D y) := by
  refine Cal.of (by decide +kernel) rfl rfl (Nat.le_of_ble_eq_true rfl) ?_
  show Ev Θ mX7_requireNode 6 90 1 6 0 [(0, vr 7 (v0 + 1)), (1, vi (v1))] [] (hq D x) (ThrU D y)
  unfold F_X7_requireNode at h
  refine Ev.iload_n (q := 1) ⟨dX7_requireNode_0, rfl⟩ rfl rfl ?_
  refine Ev.if_lt jX7_requireNode_1 (fun hc => ?_) (fun hc => ?_)
  · replace h := (if_pos hc).symm.trans h; clear hc
    obtain rfl := Option.some.inj h
    exact Ev.throwSW eX7_IndexOutOfBoundsException tX7_350 rfl dX7_requireNode_18 dX7_requireNode_21 dX7_requireNode_22 dX7_requireNode_25 dX7_requireNode_28 (by decide) (Nat.le_of_ble_eq_true rfl) (by decide) (by decide) ⟨rfl, rfl⟩
  · replace h := (if_neg hc).symm.trans h; clear hc
    refine Ev.iload_n (q := 1) ⟨dX7_requireNode_4, rfl⟩ rfl rfl ?_
    refine Ev.aload_n (q := 0) ⟨dX7_requireNode_5, rfl⟩ rfl rfl ?_
    refine Ev.getRk (C2 := 6) (r := 0) fX7_10 rfl (by decide) (by decide) ⟨dX7_requireNode_6, rfl⟩ ?_
    refine Ev.getRk (C2 := 4) (r := 0) fX7_97 rfl (by decide) (by decide) ⟨dX7_requireNode_9, rfl⟩ ?_
    refine Ev.getI fX7_101 (Or.inl rfl) ⟨dX7_requireNode_12, rfl⟩ ?_
    refine Ev.icmp_lt jX7_requireNode_15 (fun hc => ?_) (fun hc => ?_)
    · replace h := (if_pos hc).symm.trans h; clear hc
      obtain rfl := Option.some.inj h
      exact Ev.ret ⟨dX7_requireNode_29, rfl⟩ rfl ⟨rfl, rfl⟩
    · replace h := (if_neg hc).symm.trans h; clear hc
      obtain rfl := Option.some.inj h
      exact Ev.throwSW eX7_IndexOutOfBoundsException tX7_350 rfl dX7_requireNode_18 dX7_requireNode_21 dX7_requireNode_22 dX7_requireNode_25 dX7_requireNode_28 (by decide) (Nat.le_of_ble_eq_true rfl) (by decide) (by decide) ⟨rfl, rfl⟩

def F_X7_requireLeaseTicks (z : Nat) (v0 : Nat) (v1 : Int) (x : Mm) : Option ((Unit ⊕ String) × Mm) := if v1 < (1 : Int) then (some (.inr "java/lang/IllegalArgumentException", x)) else (if v1 ≤ (100 : Int) then (some ((.inl (), x))) else (some (.inr "java/lang/IllegalArgumentException", x)))
set_option maxHeartbeats 4000000 in
set_option maxRecDepth 20000 in
theorem c_X7_requireLeaseTicks (Θ : GC) (D : Nat → Nat → Prop) (z : Nat) (v0 : Nat) (v1 : Int) (x : Mm) (y) (h : F_X7_requireLeaseTicks z v0 v1 x = some y) : Cal Θ mX7_requireLeaseTicks 6 90 1 6 [vr 7 (v0 + 1), vi (v1)] (hq D x) (ThrU D y) := by
  refine Cal.of (by decide +kernel) rfl rfl (Nat.le_of_ble_eq_true rfl) ?_
  show Ev Θ mX7_requireLeaseTicks 6 90 1 6 0 [(0, vr 7 (v0 + 1)), (1, vi (v1))] [] (hq D x) (ThrU D y)
  unfold F_X7_requireLeaseTicks at h
  refine Ev.iload_n (q := 1) ⟨dX7_requireLeaseTicks_0, rfl⟩ rfl rfl ?_
  refine Ev.iconst ⟨dX7_requireLeaseTicks_1, rfl⟩ (inRd rfl) ?_
  refine Ev.icmp_lt jX7_requireLeaseTicks_2 (fun hc => ?_) (fun hc => ?_)
  · replace h := (if_pos hc).symm.trans h; clear hc
    obtain rfl := Option.some.inj h
    exact Ev.throwS eX7_IllegalArgumentException tX7_251 rfl dX7_requireLeaseTicks_11 dX7_requireLeaseTicks_14 dX7_requireLeaseTicks_15 dX7_requireLeaseTicks_17 dX7_requireLeaseTicks_20 (by decide) (Nat.le_of_ble_eq_true rfl) (by decide) (by decide) ⟨rfl, rfl⟩
  · replace h := (if_neg hc).symm.trans h; clear hc
    refine Ev.iload_n (q := 1) ⟨dX7_requireLeaseTicks_5, rfl⟩ rfl rfl ?_
    refine Ev.bipush ⟨dX7_requireLeaseTicks_6, rfl⟩ (inRd rfl) (by decide) ?_
    refine Ev.icmp_le jX7_requireLeaseTicks_8 (fun hc => ?_) (fun hc => ?_)
    · replace h := (if_pos hc).symm.trans h; clear hc
      obtain rfl := Option.some.inj h
      exact Ev.ret ⟨dX7_requireLeaseTicks_21, rfl⟩ rfl ⟨rfl, rfl⟩
    · replace h := (if_neg hc).symm.trans h; clear hc
      obtain rfl := Option.some.inj h
      exact Ev.throwS eX7_IllegalArgumentException tX7_251 rfl dX7_requireLeaseTicks_11 dX7_requireLeaseTicks_14 dX7_requireLeaseTicks_15 dX7_requireLeaseTicks_17 dX7_requireLeaseTicks_20 (by decide) (Nat.le_of_ble_eq_true rfl) (by decide) (by decide) ⟨rfl, rfl⟩

def F_X7_lease (z : Nat) (v0 : Nat) (v1 : Int) (v2 : Int) (v3 : Int) (v4 : Int) (x : Mm) : Option ((Int ⊕ String) × Mm) := bndX (F_X7_requireClient z (v0) (v1) x) fun r2 x3 => bndX (F_X7_requireNode z (v0) (v2) x3) fun r5 x6 => bndX (F_X7_requireLeaseTicks z (v0) (v3) x6) fun r8 x9 => ckI v1 5 <| if (x9.1 3 (5 * 0 + (v1).toNat) 0) = 0 then ((F_X0_has z ((3 * 0)) (v2) x9).bind fun r12 => if r12 = 0 then (some (.inr "java/lang/IllegalStateException", x9)) else ((F_X6_blockersOf z (0) (v1) (v2) (v4) x9).bind fun r14 => if r14 = 0 then ((F_X2_push z (0) (0) x9).bind fun r16 => (F_X6_beginLease z (0) (v1) (v2) (v3) (v4) r16).bind fun r18 => some ((.inl r18.1, r18.2))) else (some (.inr "java/lang/IllegalStateException", x9)))) else (some (.inr "java/lang/IllegalStateException", x9))
set_option maxHeartbeats 4000000 in
set_option maxRecDepth 20000 in
theorem c_X7_lease (Θ : GC) (D : Nat → Nat → Prop) (z : Nat) (v0 : Nat) (v1 : Int) (v2 : Int) (v3 : Int) (v4 : Int) (x : Mm) (y) (h : F_X7_lease z v0 v1 v2 v3 v4 x = some y) : Cal Θ mX7_lease 7 111 4 24 [vr 7 (v0 + 1), vi (v1), vi (v2), vi (v3), vi (v4)] (hq D x) (ThrI D y) := by
  refine Cal.of (by decide +kernel) rfl rfl (Nat.le_of_ble_eq_true rfl) ?_
  show Ev Θ mX7_lease 7 111 4 24 0 [(0, vr 7 (v0 + 1)), (1, vi (v1)), (2, vi (v2)), (3, vi (v3)), (4, vi (v4))] [] (hq D x) (ThrI D y)
  unfold F_X7_lease at h
  refine Ev.aload_n (q := 0) ⟨dX7_lease_0, rfl⟩ rfl rfl ?_
  refine Ev.iload_n (q := 1) ⟨dX7_lease_1, rfl⟩ rfl rfl ?_
  rcases bndX_s h with ⟨r2, x3, hv1, h⟩ | ⟨E, x3, hv1, rfl⟩
  rotate_left
  · exact Ev.callVE (mc1 := 3) (ms1 := 18) (h1 := hq D x3) vX7_106 (c_X7_requireClient Θ D z _ _ _ _ hv1) rfl rfl (by decide) rfl ⟨by decide, by decide, by decide, by decide, Nat.le_of_ble_eq_true rfl⟩ ⟨dX7_lease_2, rfl⟩ rfl ⟨rfl, rfl⟩
  refine Ev.callVN (mc1 := 3) (ms1 := 18) (h1 := hq D x3) vX7_106 (c_X7_requireClient Θ D z _ _ _ _ hv1) rfl rfl (by decide) rfl ⟨by decide, by decide, by decide, by decide, Nat.le_of_ble_eq_true rfl⟩ ⟨dX7_lease_2, rfl⟩ ?_
  clear hv1
  refine Ev.aload_n (q := 0) ⟨dX7_lease_5, rfl⟩ rfl rfl ?_
  refine Ev.iload_n (q := 2) ⟨dX7_lease_6, rfl⟩ rfl rfl ?_
  rcases bndX_s h with ⟨r5, x6, hv4, h⟩ | ⟨E, x6, hv4, rfl⟩
  rotate_left
  · exact Ev.callVE (mc1 := 2) (ms1 := 12) (h1 := hq D x6) vX7_109 (c_X7_requireNode Θ D z _ _ _ _ hv4) rfl rfl (by decide) rfl ⟨by decide, by decide, by decide, by decide, Nat.le_of_ble_eq_true rfl⟩ ⟨dX7_lease_7, rfl⟩ rfl ⟨rfl, rfl⟩
  refine Ev.callVN (mc1 := 2) (ms1 := 12) (h1 := hq D x6) vX7_109 (c_X7_requireNode Θ D z _ _ _ _ hv4) rfl rfl (by decide) rfl ⟨by decide, by decide, by decide, by decide, Nat.le_of_ble_eq_true rfl⟩ ⟨dX7_lease_7, rfl⟩ ?_
  clear hv4
  refine Ev.aload_n (q := 0) ⟨dX7_lease_10, rfl⟩ rfl rfl ?_
  refine Ev.iload_n (q := 3) ⟨dX7_lease_11, rfl⟩ rfl rfl ?_
  rcases bndX_s h with ⟨r8, x9, hv7, h⟩ | ⟨E, x9, hv7, rfl⟩
  rotate_left
  · exact Ev.callVE (mc1 := 1) (ms1 := 6) (h1 := hq D x9) vX7_112 (c_X7_requireLeaseTicks Θ D z _ _ _ _ hv7) rfl rfl (by decide) rfl ⟨by decide, by decide, by decide, by decide, Nat.le_of_ble_eq_true rfl⟩ ⟨dX7_lease_12, rfl⟩ rfl ⟨rfl, rfl⟩
  refine Ev.callVN (mc1 := 1) (ms1 := 6) (h1 := hq D x9) vX7_112 (c_X7_requireLeaseTicks Θ D z _ _ _ _ hv7) rfl rfl (by decide) rfl ⟨by decide, by decide, by decide, by decide, Nat.le_of_ble_eq_true rfl⟩ ⟨dX7_lease_12, rfl⟩ ?_
  clear hv7
  refine Ev.aload_n (q := 0) ⟨dX7_lease_15, rfl⟩ rfl rfl ?_
  refine Ev.getRk (C2 := 6) (r := 0) fX7_10 rfl (by decide) (by decide) ⟨dX7_lease_16, rfl⟩ ?_
  refine Ev.getRk (C2 := 11) (r := 0) fX7_115 rfl (by decide) (by decide) ⟨dX7_lease_19, rfl⟩ ?_
  refine Ev.iload_n (q := 1) ⟨dX7_lease_22, rfl⟩ rfl rfl ?_
  obtain ⟨c10, h⟩ := ckI_s h
  refine Ev.aaloadk (C := 3) (r := (5 * 0 + (v1).toNat)) (by decide) c10.1 c10.2 (sr11 c10) ⟨dX7_lease_23, rfl⟩ ?_
  refine Ev.getI fX7_119 (Or.inr rfl) ⟨dX7_lease_24, rfl⟩ ?_
  refine Ev.if_eq jX7_lease_27 (fun hc => ?_) (fun hc => ?_)
  · replace h := (if_pos hc).symm.trans h; clear hc
    refine Ev.aload_n (q := 0) ⟨dX7_lease_40, rfl⟩ rfl rfl ?_
    refine Ev.getRk (C2 := 6) (r := 0) fX7_10 rfl (by decide) (by decide) ⟨dX7_lease_41, rfl⟩ ?_
    refine Ev.getRk (C2 := 0) (r := (3 * 0)) fX7_126 rfl (by decide) (by decide) ⟨dX7_lease_44, rfl⟩ ?_
    refine Ev.iload_n (q := 2) ⟨dX7_lease_47, rfl⟩ rfl rfl ?_
    obtain ⟨r12, hv11, h⟩ := bnd_s h
    refine Ev.callV1 (mc1 := 1) (ms1 := 6) (v := vi r12) (h1 := hq D x9) vX7_129 (c_X0_has Θ D z _ _ _ _ hv11) rfl rfl (by decide) rfl ⟨by decide, by decide, Nat.le_of_eq (Nat.zero_add _), Nat.le_of_eq (Nat.zero_add _), Nat.le_of_ble_eq_true rfl⟩ ⟨dX7_lease_48, rfl⟩ ?_
    clear hv11
    refine Ev.if_ne jX7_lease_51 (fun hc => ?_) (fun hc => ?_)
    · replace h := (if_neg hc).symm.trans h; clear hc
      refine Ev.aload_n (q := 0) ⟨dX7_lease_64, rfl⟩ rfl rfl ?_
      refine Ev.getRk (C2 := 6) (r := 0) fX7_10 rfl (by decide) (by decide) ⟨dX7_lease_65, rfl⟩ ?_
      refine Ev.iload_n (q := 1) ⟨dX7_lease_68, rfl⟩ rfl rfl ?_
      refine Ev.iload_n (q := 2) ⟨dX7_lease_69, rfl⟩ rfl rfl ?_
      refine Ev.iload (q := 4) ⟨dX7_lease_70, rfl⟩ rfl ?_
      obtain ⟨r14, hv13, h⟩ := bnd_s h
      refine Ev.callV1 (mc1 := 1) (ms1 := 6) (v := vi r14) (h1 := hq D x9) vX7_135 (c_X6_blockersOf Θ D z _ _ _ _ _ _ hv13) rfl rfl (by decide) rfl ⟨by decide, by decide, Nat.le_of_eq (Nat.zero_add _), Nat.le_of_eq (Nat.zero_add _), Nat.le_of_ble_eq_true rfl⟩ ⟨dX7_lease_72, rfl⟩ ?_
      clear hv13
      refine Ev.if_eq jX7_lease_75 (fun hc => ?_) (fun hc => ?_)
      · replace h := (if_pos hc).symm.trans h; clear hc
        refine Ev.aload_n (q := 0) ⟨dX7_lease_88, rfl⟩ rfl rfl ?_
        refine Ev.getRk (C2 := 2) (r := 0) fX7_22 rfl (by decide) (by decide) ⟨dX7_lease_89, rfl⟩ ?_
        refine Ev.aload_n (q := 0) ⟨dX7_lease_92, rfl⟩ rfl rfl ?_
        refine Ev.getRk (C2 := 6) (r := 0) fX7_10 rfl (by decide) (by decide) ⟨dX7_lease_93, rfl⟩ ?_
        obtain ⟨r16, hv15, h⟩ := bnd_s h
        refine Ev.callVN (mc1 := 1) (ms1 := 6) (h1 := hq D r16) vX7_141 (c_X2_push Θ D z _ _ _ _ hv15) rfl rfl (by decide) rfl ⟨by decide, by decide, Nat.le_of_eq (Nat.zero_add _), Nat.le_of_eq (Nat.zero_add _), Nat.le_of_ble_eq_true rfl⟩ ⟨dX7_lease_96, rfl⟩ ?_
        clear hv15
        refine Ev.aload_n (q := 0) ⟨dX7_lease_99, rfl⟩ rfl rfl ?_
        refine Ev.getRk (C2 := 6) (r := 0) fX7_10 rfl (by decide) (by decide) ⟨dX7_lease_100, rfl⟩ ?_
        refine Ev.iload_n (q := 1) ⟨dX7_lease_103, rfl⟩ rfl rfl ?_
        refine Ev.iload_n (q := 2) ⟨dX7_lease_104, rfl⟩ rfl rfl ?_
        refine Ev.iload_n (q := 3) ⟨dX7_lease_105, rfl⟩ rfl rfl ?_
        refine Ev.iload (q := 4) ⟨dX7_lease_106, rfl⟩ rfl ?_
        obtain ⟨r18, hv17, h⟩ := bnd_s h
        refine Ev.callV1 (mc1 := 1) (ms1 := 6) (v := vi r18.1) (h1 := hq D r18.2) vX7_144 (c_X6_beginLease Θ D z _ _ _ _ _ _ _ hv17) rfl rfl (by decide) rfl ⟨by decide, by decide, Nat.le_of_eq (Nat.zero_add _), Nat.le_of_eq (Nat.zero_add _), Nat.le_of_ble_eq_true rfl⟩ ⟨dX7_lease_108, rfl⟩ ?_
        clear hv17
        obtain rfl := Option.some.inj h
        exact Ev.ireturn (ty := .int) ⟨dX7_lease_111, rfl⟩ rfl rfl ⟨rfl, rfl⟩
      · replace h := (if_neg hc).symm.trans h; clear hc
        obtain rfl := Option.some.inj h
        exact Ev.throwS eX7_IllegalStateException tX7_139 rfl dX7_lease_78 dX7_lease_81 dX7_lease_82 dX7_lease_84 dX7_lease_87 (by decide) (Nat.le_of_ble_eq_true rfl) (by decide) (by decide) ⟨rfl, rfl⟩
    · replace h := (if_pos hc).symm.trans h; clear hc
      obtain rfl := Option.some.inj h
      exact Ev.throwS eX7_IllegalStateException tX7_133 rfl dX7_lease_54 dX7_lease_57 dX7_lease_58 dX7_lease_60 dX7_lease_63 (by decide) (Nat.le_of_ble_eq_true rfl) (by decide) (by decide) ⟨rfl, rfl⟩
  · replace h := (if_neg hc).symm.trans h; clear hc
    obtain rfl := Option.some.inj h
    exact Ev.throwS eX7_IllegalStateException tX7_124 rfl dX7_lease_30 dX7_lease_33 dX7_lease_34 dX7_lease_36 dX7_lease_39 (by decide) (Nat.le_of_ble_eq_true rfl) (by decide) (by decide) ⟨rfl, rfl⟩

def F_X7_requireLease (z : Nat) (v0 : Nat) (v1 : Int) (x : Mm) : Option ((Unit ⊕ String) × Mm) := ckI v1 5 <| if (x.1 3 (5 * 0 + (v1).toNat) 0) = 0 then (some (.inr "java/lang/IllegalStateException", x)) else (some ((.inl (), x)))
set_option maxHeartbeats 4000000 in
set_option maxRecDepth 20000 in
theorem c_X7_requireLease (Θ : GC) (D : Nat → Nat → Prop) (z : Nat) (v0 : Nat) (v1 : Int) (x : Mm) (y) (h : F_X7_requireLease z v0 v1 x = some y) : Cal Θ mX7_requireLease 6 90 1 6 [vr 7 (v0 + 1), vi (v1)] (hq D x) (ThrU D y) := by
  refine Cal.of (by decide +kernel) rfl rfl (Nat.le_of_ble_eq_true rfl) ?_
  show Ev Θ mX7_requireLease 6 90 1 6 0 [(0, vr 7 (v0 + 1)), (1, vi (v1))] [] (hq D x) (ThrU D y)
  unfold F_X7_requireLease at h
  refine Ev.aload_n (q := 0) ⟨dX7_requireLease_0, rfl⟩ rfl rfl ?_
  refine Ev.getRk (C2 := 6) (r := 0) fX7_10 rfl (by decide) (by decide) ⟨dX7_requireLease_1, rfl⟩ ?_
  refine Ev.getRk (C2 := 11) (r := 0) fX7_115 rfl (by decide) (by decide) ⟨dX7_requireLease_4, rfl⟩ ?_
  refine Ev.iload_n (q := 1) ⟨dX7_requireLease_7, rfl⟩ rfl rfl ?_
  obtain ⟨c1, h⟩ := ckI_s h
  refine Ev.aaloadk (C := 3) (r := (5 * 0 + (v1).toNat)) (by decide) c1.1 c1.2 (sr11 c1) ⟨dX7_requireLease_8, rfl⟩ ?_
  refine Ev.getI fX7_119 (Or.inr rfl) ⟨dX7_requireLease_9, rfl⟩ ?_
  refine Ev.if_ne jX7_requireLease_12 (fun hc => ?_) (fun hc => ?_)
  · replace h := (if_neg hc).symm.trans h; clear hc
    obtain rfl := Option.some.inj h
    exact Ev.ret ⟨dX7_requireLease_26, rfl⟩ rfl ⟨rfl, rfl⟩
  · replace h := (if_pos hc).symm.trans h; clear hc
    obtain rfl := Option.some.inj h
    exact Ev.throwSW eX7_IllegalStateException tX7_356 rfl dX7_requireLease_15 dX7_requireLease_18 dX7_requireLease_19 dX7_requireLease_22 dX7_requireLease_25 (by decide) (Nat.le_of_ble_eq_true rfl) (by decide) (by decide) ⟨rfl, rfl⟩

def F_X7_renew (z : Nat) (v0 : Nat) (v1 : Int) (v2 : Int) (x : Mm) : Option ((Int ⊕ String) × Mm) := bndX (F_X7_requireClient z (v0) (v1) x) fun r2 x3 => bndX (F_X7_requireLeaseTicks z (v0) (v2) x3) fun r5 x6 => bndX (F_X7_requireLease z (v0) (v1) x6) fun r8 x9 => ckR (((x9.1 6 0 0) + v2)) <| ckI v1 5 <| if (x9.1 3 (5 * 0 + (v1).toNat) 2) < ((x9.1 6 0 0) + v2) then ((F_X2_push z (0) (0) x9).bind fun r13 => ckI v1 5 <| (some (wI r13 3 (5 * 0 + (v1).toNat) 2 (((x9.1 6 0 0) + v2)))).bind fun x15 => some ((.inl ((x9.1 6 0 0) + v2), x15))) else (some (.inr "java/lang/IllegalStateException", x9))
set_option maxHeartbeats 4000000 in
set_option maxRecDepth 20000 in
theorem c_X7_renew (Θ : GC) (D : Nat → Nat → Prop) (z : Nat) (v0 : Nat) (v1 : Int) (v2 : Int) (x : Mm) (y) (h : F_X7_renew z v0 v1 v2 x = some y) : Cal Θ mX7_renew 7 111 4 24 [vr 7 (v0 + 1), vi (v1), vi (v2)] (hq D x) (ThrI D y) := by
  refine Cal.of (by decide +kernel) rfl rfl (Nat.le_of_ble_eq_true rfl) ?_
  show Ev Θ mX7_renew 7 111 4 24 0 [(0, vr 7 (v0 + 1)), (1, vi (v1)), (2, vi (v2))] [] (hq D x) (ThrI D y)
  unfold F_X7_renew at h
  refine Ev.aload_n (q := 0) ⟨dX7_renew_0, rfl⟩ rfl rfl ?_
  refine Ev.iload_n (q := 1) ⟨dX7_renew_1, rfl⟩ rfl rfl ?_
  rcases bndX_s h with ⟨r2, x3, hv1, h⟩ | ⟨E, x3, hv1, rfl⟩
  rotate_left
  · exact Ev.callVE (mc1 := 3) (ms1 := 18) (h1 := hq D x3) vX7_106 (c_X7_requireClient Θ D z _ _ _ _ hv1) rfl rfl (by decide) rfl ⟨by decide, by decide, by decide, by decide, Nat.le_of_ble_eq_true rfl⟩ ⟨dX7_renew_2, rfl⟩ rfl ⟨rfl, rfl⟩
  refine Ev.callVN (mc1 := 3) (ms1 := 18) (h1 := hq D x3) vX7_106 (c_X7_requireClient Θ D z _ _ _ _ hv1) rfl rfl (by decide) rfl ⟨by decide, by decide, by decide, by decide, Nat.le_of_ble_eq_true rfl⟩ ⟨dX7_renew_2, rfl⟩ ?_
  clear hv1
  refine Ev.aload_n (q := 0) ⟨dX7_renew_5, rfl⟩ rfl rfl ?_
  refine Ev.iload_n (q := 2) ⟨dX7_renew_6, rfl⟩ rfl rfl ?_
  rcases bndX_s h with ⟨r5, x6, hv4, h⟩ | ⟨E, x6, hv4, rfl⟩
  rotate_left
  · exact Ev.callVE (mc1 := 2) (ms1 := 12) (h1 := hq D x6) vX7_112 (c_X7_requireLeaseTicks Θ D z _ _ _ _ hv4) rfl rfl (by decide) rfl ⟨by decide, by decide, by decide, by decide, Nat.le_of_ble_eq_true rfl⟩ ⟨dX7_renew_7, rfl⟩ rfl ⟨rfl, rfl⟩
  refine Ev.callVN (mc1 := 2) (ms1 := 12) (h1 := hq D x6) vX7_112 (c_X7_requireLeaseTicks Θ D z _ _ _ _ hv4) rfl rfl (by decide) rfl ⟨by decide, by decide, by decide, by decide, Nat.le_of_ble_eq_true rfl⟩ ⟨dX7_renew_7, rfl⟩ ?_
  clear hv4
  refine Ev.aload_n (q := 0) ⟨dX7_renew_10, rfl⟩ rfl rfl ?_
  refine Ev.iload_n (q := 1) ⟨dX7_renew_11, rfl⟩ rfl rfl ?_
  rcases bndX_s h with ⟨r8, x9, hv7, h⟩ | ⟨E, x9, hv7, rfl⟩
  rotate_left
  · exact Ev.callVE (mc1 := 1) (ms1 := 6) (h1 := hq D x9) vX7_148 (c_X7_requireLease Θ D z _ _ _ _ hv7) rfl rfl (by decide) rfl ⟨by decide, by decide, by decide, by decide, Nat.le_of_ble_eq_true rfl⟩ ⟨dX7_renew_12, rfl⟩ rfl ⟨rfl, rfl⟩
  refine Ev.callVN (mc1 := 1) (ms1 := 6) (h1 := hq D x9) vX7_148 (c_X7_requireLease Θ D z _ _ _ _ hv7) rfl rfl (by decide) rfl ⟨by decide, by decide, by decide, by decide, Nat.le_of_ble_eq_true rfl⟩ ⟨dX7_renew_12, rfl⟩ ?_
  clear hv7
  refine Ev.aload_n (q := 0) ⟨dX7_renew_15, rfl⟩ rfl rfl ?_
  refine Ev.getRk (C2 := 6) (r := 0) fX7_10 rfl (by decide) (by decide) ⟨dX7_renew_16, rfl⟩ ?_
  refine Ev.getI fX7_151 (Or.inl rfl) ⟨dX7_renew_19, rfl⟩ ?_
  refine Ev.iload_n (q := 2) ⟨dX7_renew_22, rfl⟩ rfl rfl ?_
  obtain ⟨c10, h⟩ := ckR_s h
  refine Ev.iadd ⟨dX7_renew_23, rfl⟩ c10 ?_
  refine Ev.istore_n (i := 3) (ls' := [(0, _), (1, _), (2, _), (3, _)]) ⟨dX7_renew_24, rfl⟩ rfl (by decide) rfl ?_
  refine Ev.iload_n (q := 3) ⟨dX7_renew_25, rfl⟩ rfl rfl ?_
  refine Ev.aload_n (q := 0) ⟨dX7_renew_26, rfl⟩ rfl rfl ?_
  refine Ev.getRk (C2 := 6) (r := 0) fX7_10 rfl (by decide) (by decide) ⟨dX7_renew_27, rfl⟩ ?_
  refine Ev.getRk (C2 := 11) (r := 0) fX7_115 rfl (by decide) (by decide) ⟨dX7_renew_30, rfl⟩ ?_
  refine Ev.iload_n (q := 1) ⟨dX7_renew_33, rfl⟩ rfl rfl ?_
  obtain ⟨c11, h⟩ := ckI_s h
  refine Ev.aaloadk (C := 3) (r := (5 * 0 + (v1).toNat)) (by decide) c11.1 c11.2 (sr11 c11) ⟨dX7_renew_34, rfl⟩ ?_
  refine Ev.getI fX7_154 (Or.inl rfl) ⟨dX7_renew_35, rfl⟩ ?_
  refine Ev.icmp_gt jX7_renew_38 (fun hc => ?_) (fun hc => ?_)
  · replace h := (if_pos hc).symm.trans h; clear hc
    refine Ev.aload_n (q := 0) ⟨dX7_renew_51, rfl⟩ rfl rfl ?_
    refine Ev.getRk (C2 := 2) (r := 0) fX7_22 rfl (by decide) (by decide) ⟨dX7_renew_52, rfl⟩ ?_
    refine Ev.aload_n (q := 0) ⟨dX7_renew_55, rfl⟩ rfl rfl ?_
    refine Ev.getRk (C2 := 6) (r := 0) fX7_10 rfl (by decide) (by decide) ⟨dX7_renew_56, rfl⟩ ?_
    obtain ⟨r13, hv12, h⟩ := bnd_s h
    refine Ev.callVN (mc1 := 1) (ms1 := 6) (h1 := hq D r13) vX7_141 (c_X2_push Θ D z _ _ _ _ hv12) rfl rfl (by decide) rfl ⟨by decide, by decide, Nat.le_of_eq (Nat.zero_add _), Nat.le_of_eq (Nat.zero_add _), Nat.le_of_ble_eq_true rfl⟩ ⟨dX7_renew_59, rfl⟩ ?_
    clear hv12
    refine Ev.aload_n (q := 0) ⟨dX7_renew_62, rfl⟩ rfl rfl ?_
    refine Ev.getRk (C2 := 6) (r := 0) fX7_10 rfl (by decide) (by decide) ⟨dX7_renew_63, rfl⟩ ?_
    refine Ev.getRk (C2 := 11) (r := 0) fX7_115 rfl (by decide) (by decide) ⟨dX7_renew_66, rfl⟩ ?_
    refine Ev.iload_n (q := 1) ⟨dX7_renew_69, rfl⟩ rfl rfl ?_
    obtain ⟨c14, h⟩ := ckI_s h
    refine Ev.aaloadk (C := 3) (r := (5 * 0 + (v1).toNat)) (by decide) c14.1 c14.2 (sr11 c14) ⟨dX7_renew_70, rfl⟩ ?_
    refine Ev.iload_n (q := 3) ⟨dX7_renew_71, rfl⟩ rfl rfl ?_
    obtain ⟨x15, ex, h⟩ := bnd_s h
    refine Ev.putI fX7_154 ⟨dX7_renew_72, rfl⟩ ?_
    refine Ev.cast ?_ rfl rfl (hqI ex)
    clear ex
    refine Ev.iload_n (q := 3) ⟨dX7_renew_75, rfl⟩ rfl rfl ?_
    obtain rfl := Option.some.inj h
    exact Ev.ireturn (ty := .int) ⟨dX7_renew_76, rfl⟩ rfl rfl ⟨rfl, rfl⟩
  · replace h := (if_neg hc).symm.trans h; clear hc
    obtain rfl := Option.some.inj h
    exact Ev.throwS eX7_IllegalStateException tX7_157 rfl dX7_renew_41 dX7_renew_44 dX7_renew_45 dX7_renew_47 dX7_renew_50 (by decide) (Nat.le_of_ble_eq_true rfl) (by decide) (by decide) ⟨rfl, rfl⟩

def F_X7_requireField (z : Nat) (v0 : Nat) (v1 : Int) (x : Mm) : Option ((Unit ⊕ String) × Mm) := if v1 < 0 then (some (.inr "java/lang/IndexOutOfBoundsException", x)) else (if v1 < (x.1 6 0 1) then (some ((.inl (), x))) else (some (.inr "java/lang/IndexOutOfBoundsException", x)))
set_option maxHeartbeats 4000000 in
set_option maxRecDepth 20000 in
theorem c_X7_requireField (Θ : GC) (D : Nat → Nat → Prop) (z : Nat) (v0 : Nat) (v1 : Int) (x : Mm) (y) (h : F_X7_requireField z v0 v1 x = some y) : Cal Θ mX7_requireField 6 90 1 6 [vr 7 (v0 + 1), vi (v1)] (hq D x) (ThrU D y) := by
  refine Cal.of (by decide +kernel) rfl rfl (Nat.le_of_ble_eq_true rfl) ?_
  show Ev Θ mX7_requireField 6 90 1 6 0 [(0, vr 7 (v0 + 1)), (1, vi (v1))] [] (hq D x) (ThrU D y)
  unfold F_X7_requireField at h
  refine Ev.iload_n (q := 1) ⟨dX7_requireField_0, rfl⟩ rfl rfl ?_
  refine Ev.if_lt jX7_requireField_1 (fun hc => ?_) (fun hc => ?_)
  · replace h := (if_pos hc).symm.trans h; clear hc
    obtain rfl := Option.some.inj h
    exact Ev.throwSW eX7_IndexOutOfBoundsException tX7_352 rfl dX7_requireField_15 dX7_requireField_18 dX7_requireField_19 dX7_requireField_22 dX7_requireField_25 (by decide) (Nat.le_of_ble_eq_true rfl) (by decide) (by decide) ⟨rfl, rfl⟩
  · replace h := (if_neg hc).symm.trans h; clear hc
    refine Ev.iload_n (q := 1) ⟨dX7_requireField_4, rfl⟩ rfl rfl ?_
    refine Ev.aload_n (q := 0) ⟨dX7_requireField_5, rfl⟩ rfl rfl ?_
    refine Ev.getRk (C2 := 6) (r := 0) fX7_10 rfl (by decide) (by decide) ⟨dX7_requireField_6, rfl⟩ ?_
    refine Ev.getI fX7_264 (Or.inl rfl) ⟨dX7_requireField_9, rfl⟩ ?_
    refine Ev.icmp_lt jX7_requireField_12 (fun hc => ?_) (fun hc => ?_)
    · replace h := (if_pos hc).symm.trans h; clear hc
      obtain rfl := Option.some.inj h
      exact Ev.ret ⟨dX7_requireField_26, rfl⟩ rfl ⟨rfl, rfl⟩
    · replace h := (if_neg hc).symm.trans h; clear hc
      obtain rfl := Option.some.inj h
      exact Ev.throwSW eX7_IndexOutOfBoundsException tX7_352 rfl dX7_requireField_15 dX7_requireField_18 dX7_requireField_19 dX7_requireField_22 dX7_requireField_25 (by decide) (Nat.le_of_ble_eq_true rfl) (by decide) (by decide) ⟨rfl, rfl⟩

def F_X7_requireInCopy (z : Nat) (v0 : Nat) (v1 : Int) (v2 : Int) (x : Mm) : Option ((Unit ⊕ String) × Mm) := ckI v1 5 <| (F_X0_has z ((3 * (5 * 0 + (v1).toNat) + 2)) (v2) x).bind fun r3 => if r3 = 0 then (some (.inr "java/lang/IllegalStateException", x)) else (some ((.inl (), x)))
set_option maxHeartbeats 4000000 in
set_option maxRecDepth 20000 in
theorem c_X7_requireInCopy (Θ : GC) (D : Nat → Nat → Prop) (z : Nat) (v0 : Nat) (v1 : Int) (v2 : Int) (x : Mm) (y) (h : F_X7_requireInCopy z v0 v1 v2 x = some y) : Cal Θ mX7_requireInCopy 6 90 1 6 [vr 7 (v0 + 1), vi (v1), vi (v2)] (hq D x) (ThrU D y) := by
  refine Cal.of (by decide +kernel) rfl rfl (Nat.le_of_ble_eq_true rfl) ?_
  show Ev Θ mX7_requireInCopy 6 90 1 6 0 [(0, vr 7 (v0 + 1)), (1, vi (v1)), (2, vi (v2))] [] (hq D x) (ThrU D y)
  unfold F_X7_requireInCopy at h
  refine Ev.aload_n (q := 0) ⟨dX7_requireInCopy_0, rfl⟩ rfl rfl ?_
  refine Ev.getRk (C2 := 6) (r := 0) fX7_10 rfl (by decide) (by decide) ⟨dX7_requireInCopy_1, rfl⟩ ?_
  refine Ev.getRk (C2 := 11) (r := 0) fX7_115 rfl (by decide) (by decide) ⟨dX7_requireInCopy_4, rfl⟩ ?_
  refine Ev.iload_n (q := 1) ⟨dX7_requireInCopy_7, rfl⟩ rfl rfl ?_
  obtain ⟨c1, h⟩ := ckI_s h
  refine Ev.aaloadk (C := 3) (r := (5 * 0 + (v1).toNat)) (by decide) c1.1 c1.2 (sr11 c1) ⟨dX7_requireInCopy_8, rfl⟩ ?_
  refine Ev.getRk (C2 := 0) (r := (3 * (5 * 0 + (v1).toNat) + 2)) fX7_180 rfl (by decide) (by decide) ⟨dX7_requireInCopy_9, rfl⟩ ?_
  refine Ev.iload_n (q := 2) ⟨dX7_requireInCopy_12, rfl⟩ rfl rfl ?_
  obtain ⟨r3, hv2, h⟩ := bnd_s h
  refine Ev.callV1 (mc1 := 1) (ms1 := 6) (v := vi r3) (h1 := hq D x) vX7_129 (c_X0_has Θ D z _ _ _ _ hv2) rfl rfl (by decide) rfl ⟨by decide, by decide, Nat.le_of_eq (Nat.zero_add _), Nat.le_of_eq (Nat.zero_add _), Nat.le_of_ble_eq_true rfl⟩ ⟨dX7_requireInCopy_13, rfl⟩ ?_
  clear hv2
  refine Ev.if_ne jX7_requireInCopy_16 (fun hc => ?_) (fun hc => ?_)
  · replace h := (if_neg hc).symm.trans h; clear hc
    obtain rfl := Option.some.inj h
    exact Ev.ret ⟨dX7_requireInCopy_30, rfl⟩ rfl ⟨rfl, rfl⟩
  · replace h := (if_pos hc).symm.trans h; clear hc
    obtain rfl := Option.some.inj h
    exact Ev.throwSW eX7_IllegalStateException tX7_358 rfl dX7_requireInCopy_19 dX7_requireInCopy_22 dX7_requireInCopy_23 dX7_requireInCopy_26 dX7_requireInCopy_29 (by decide) (Nat.le_of_ble_eq_true rfl) (by decide) (by decide) ⟨rfl, rfl⟩

def F_X7_setField (z : Nat) (v0 : Nat) (v1 : Int) (v2 : Int) (v3 : Int) (v4 : Int) (x : Mm) : Option ((Int ⊕ String) × Mm) := bndX (F_X7_requireClient z (v0) (v1) x) fun r2 x3 => bndX (F_X7_requireNode z (v0) (v2) x3) fun r5 x6 => bndX (F_X7_requireField z (v0) (v3) x6) fun r8 x9 => if v4 < (-1000000 : Int) then (some (.inr "java/lang/IllegalArgumentException", x9)) else (if v4 ≤ (1000000 : Int) then (bndX (F_X7_requireLease z (v0) (v1) x9) fun r11 x12 => bndX (F_X7_requireInCopy z (v0) (v1) (v2) x12) fun r14 x15 => (F_X7_contains z ((x15.2 4 0 1)) (v2) x15).bind fun r17 => if r17 = 0 then (some (.inr "java/lang/IllegalStateException", x15)) else ((F_X2_push z (0) (0) x15).bind fun r19 => ckI v1 5 <| (F_X0_valueOf z ((3 * (5 * 0 + (v1).toNat) + 2)) (v2) (v3) r19).bind fun r22 => (F_X0_put z ((3 * (5 * 0 + (v1).toNat) + 2)) (v2) (v3) (v4) r19).bind fun r24 => some ((.inl r22, r24)))) else (some (.inr "java/lang/IllegalArgumentException", x9)))
set_option maxHeartbeats 4000000 in
set_option maxRecDepth 20000 in
theorem c_X7_setField (Θ : GC) (D : Nat → Nat → Prop) (z : Nat) (v0 : Nat) (v1 : Int) (v2 : Int) (v3 : Int) (v4 : Int) (x : Mm) (y) (h : F_X7_setField z v0 v1 v2 v3 v4 x = some y) : Cal Θ mX7_setField 7 112 6 36 [vr 7 (v0 + 1), vi (v1), vi (v2), vi (v3), vi (v4)] (hq D x) (ThrI D y) := by
  refine Cal.of (by decide +kernel) rfl rfl (Nat.le_of_ble_eq_true rfl) ?_
  show Ev Θ mX7_setField 7 112 6 36 0 [(0, vr 7 (v0 + 1)), (1, vi (v1)), (2, vi (v2)), (3, vi (v3)), (4, vi (v4))] [] (hq D x) (ThrI D y)
  unfold F_X7_setField at h
  refine Ev.aload_n (q := 0) ⟨dX7_setField_0, rfl⟩ rfl rfl ?_
  refine Ev.iload_n (q := 1) ⟨dX7_setField_1, rfl⟩ rfl rfl ?_
  rcases bndX_s h with ⟨r2, x3, hv1, h⟩ | ⟨E, x3, hv1, rfl⟩
  rotate_left
  · exact Ev.callVE (mc1 := 5) (ms1 := 30) (h1 := hq D x3) vX7_106 (c_X7_requireClient Θ D z _ _ _ _ hv1) rfl rfl (by decide) rfl ⟨by decide, by decide, by decide, by decide, Nat.le_of_ble_eq_true rfl⟩ ⟨dX7_setField_2, rfl⟩ rfl ⟨rfl, rfl⟩
  refine Ev.callVN (mc1 := 5) (ms1 := 30) (h1 := hq D x3) vX7_106 (c_X7_requireClient Θ D z _ _ _ _ hv1) rfl rfl (by decide) rfl ⟨by decide, by decide, by decide, by decide, Nat.le_of_ble_eq_true rfl⟩ ⟨dX7_setField_2, rfl⟩ ?_
  clear hv1
  refine Ev.aload_n (q := 0) ⟨dX7_setField_5, rfl⟩ rfl rfl ?_
  refine Ev.iload_n (q := 2) ⟨dX7_setField_6, rfl⟩ rfl rfl ?_
  rcases bndX_s h with ⟨r5, x6, hv4, h⟩ | ⟨E, x6, hv4, rfl⟩
  rotate_left
  · exact Ev.callVE (mc1 := 4) (ms1 := 24) (h1 := hq D x6) vX7_109 (c_X7_requireNode Θ D z _ _ _ _ hv4) rfl rfl (by decide) rfl ⟨by decide, by decide, by decide, by decide, Nat.le_of_ble_eq_true rfl⟩ ⟨dX7_setField_7, rfl⟩ rfl ⟨rfl, rfl⟩
  refine Ev.callVN (mc1 := 4) (ms1 := 24) (h1 := hq D x6) vX7_109 (c_X7_requireNode Θ D z _ _ _ _ hv4) rfl rfl (by decide) rfl ⟨by decide, by decide, by decide, by decide, Nat.le_of_ble_eq_true rfl⟩ ⟨dX7_setField_7, rfl⟩ ?_
  clear hv4
  refine Ev.aload_n (q := 0) ⟨dX7_setField_10, rfl⟩ rfl rfl ?_
  refine Ev.iload_n (q := 3) ⟨dX7_setField_11, rfl⟩ rfl rfl ?_
  rcases bndX_s h with ⟨r8, x9, hv7, h⟩ | ⟨E, x9, hv7, rfl⟩
  rotate_left
  · exact Ev.callVE (mc1 := 3) (ms1 := 18) (h1 := hq D x9) vX7_159 (c_X7_requireField Θ D z _ _ _ _ hv7) rfl rfl (by decide) rfl ⟨by decide, by decide, by decide, by decide, Nat.le_of_ble_eq_true rfl⟩ ⟨dX7_setField_12, rfl⟩ rfl ⟨rfl, rfl⟩
  refine Ev.callVN (mc1 := 3) (ms1 := 18) (h1 := hq D x9) vX7_159 (c_X7_requireField Θ D z _ _ _ _ hv7) rfl rfl (by decide) rfl ⟨by decide, by decide, by decide, by decide, Nat.le_of_ble_eq_true rfl⟩ ⟨dX7_setField_12, rfl⟩ ?_
  clear hv7
  refine Ev.iload (q := 4) ⟨dX7_setField_15, rfl⟩ rfl ?_
  refine Ev.ldc (n := -1000000) ⟨dX7_setField_17, rfl⟩ (inRd rfl) wX7_162 ?_
  refine Ev.icmp_lt jX7_setField_19 (fun hc => ?_) (fun hc => ?_)
  · replace h := (if_pos hc).symm.trans h; clear hc
    obtain rfl := Option.some.inj h
    exact Ev.throwS eX7_IllegalArgumentException tX7_164 rfl dX7_setField_29 dX7_setField_32 dX7_setField_33 dX7_setField_35 dX7_setField_38 (by decide) (Nat.le_of_ble_eq_true rfl) (by decide) (by decide) ⟨rfl, rfl⟩
  · replace h := (if_neg hc).symm.trans h; clear hc
    refine Ev.iload (q := 4) ⟨dX7_setField_22, rfl⟩ rfl ?_
    refine Ev.ldc (n := 1000000) ⟨dX7_setField_24, rfl⟩ (inRd rfl) wX7_163 ?_
    refine Ev.icmp_le jX7_setField_26 (fun hc => ?_) (fun hc => ?_)
    · replace h := (if_pos hc).symm.trans h; clear hc
      refine Ev.aload_n (q := 0) ⟨dX7_setField_39, rfl⟩ rfl rfl ?_
      refine Ev.iload_n (q := 1) ⟨dX7_setField_40, rfl⟩ rfl rfl ?_
      rcases bndX_s h with ⟨r11, x12, hv10, h⟩ | ⟨E, x12, hv10, rfl⟩
      rotate_left
      · exact Ev.callVE (mc1 := 2) (ms1 := 12) (h1 := hq D x12) vX7_148 (c_X7_requireLease Θ D z _ _ _ _ hv10) rfl rfl (by decide) rfl ⟨by decide, by decide, by decide, by decide, Nat.le_of_ble_eq_true rfl⟩ ⟨dX7_setField_41, rfl⟩ rfl ⟨rfl, rfl⟩
      refine Ev.callVN (mc1 := 2) (ms1 := 12) (h1 := hq D x12) vX7_148 (c_X7_requireLease Θ D z _ _ _ _ hv10) rfl rfl (by decide) rfl ⟨by decide, by decide, by decide, by decide, Nat.le_of_ble_eq_true rfl⟩ ⟨dX7_setField_41, rfl⟩ ?_
      clear hv10
      refine Ev.aload_n (q := 0) ⟨dX7_setField_44, rfl⟩ rfl rfl ?_
      refine Ev.iload_n (q := 1) ⟨dX7_setField_45, rfl⟩ rfl rfl ?_
      refine Ev.iload_n (q := 2) ⟨dX7_setField_46, rfl⟩ rfl rfl ?_
      rcases bndX_s h with ⟨r14, x15, hv13, h⟩ | ⟨E, x15, hv13, rfl⟩
      rotate_left
      · exact Ev.callVE (mc1 := 1) (ms1 := 6) (h1 := hq D x15) vX7_166 (c_X7_requireInCopy Θ D z _ _ _ _ _ hv13) rfl rfl (by decide) rfl ⟨by decide, by decide, by decide, by decide, Nat.le_of_ble_eq_true rfl⟩ ⟨dX7_setField_47, rfl⟩ rfl ⟨rfl, rfl⟩
      refine Ev.callVN (mc1 := 1) (ms1 := 6) (h1 := hq D x15) vX7_166 (c_X7_requireInCopy Θ D z _ _ _ _ _ hv13) rfl rfl (by decide) rfl ⟨by decide, by decide, by decide, by decide, Nat.le_of_ble_eq_true rfl⟩ ⟨dX7_setField_47, rfl⟩ ?_
      clear hv13
      refine Ev.aload_n (q := 0) ⟨dX7_setField_50, rfl⟩ rfl rfl ?_
      refine Ev.getRk (C2 := 6) (r := 0) fX7_10 rfl (by decide) (by decide) ⟨dX7_setField_51, rfl⟩ ?_
      refine Ev.getRk (C2 := 4) (r := 0) fX7_97 rfl (by decide) (by decide) ⟨dX7_setField_54, rfl⟩ ?_
      refine Ev.getL fX7_170 ⟨dX7_setField_57, rfl⟩ ?_
      refine Ev.iload_n (q := 2) ⟨dX7_setField_60, rfl⟩ rfl rfl ?_
      obtain ⟨r17, hv16, h⟩ := bnd_s h
      refine Ev.callS1 (mc1 := 1) (ms1 := 6) (v := vi r17) (h1 := hq D x15) sX7_174 (c_X7_contains Θ D z _ _ _ _ hv16) rfl rfl ⟨by decide, by decide, Nat.le_of_eq (Nat.zero_add _), Nat.le_of_eq (Nat.zero_add _), Nat.le_of_ble_eq_true rfl⟩ ⟨dX7_setField_61, rfl⟩ ?_
      clear hv16
      refine Ev.if_ne jX7_setField_64 (fun hc => ?_) (fun hc => ?_)
      · replace h := (if_neg hc).symm.trans h; clear hc
        refine Ev.aload_n (q := 0) ⟨dX7_setField_77, rfl⟩ rfl rfl ?_
        refine Ev.getRk (C2 := 2) (r := 0) fX7_22 rfl (by decide) (by decide) ⟨dX7_setField_78, rfl⟩ ?_
        refine Ev.aload_n (q := 0) ⟨dX7_setField_81, rfl⟩ rfl rfl ?_
        refine Ev.getRk (C2 := 6) (r := 0) fX7_10 rfl (by decide) (by decide) ⟨dX7_setField_82, rfl⟩ ?_
        obtain ⟨r19, hv18, h⟩ := bnd_s h
        refine Ev.callVN (mc1 := 1) (ms1 := 6) (h1 := hq D r19) vX7_141 (c_X2_push Θ D z _ _ _ _ hv18) rfl rfl (by decide) rfl ⟨by decide, by decide, Nat.le_of_eq (Nat.zero_add _), Nat.le_of_eq (Nat.zero_add _), Nat.le_of_ble_eq_true rfl⟩ ⟨dX7_setField_85, rfl⟩ ?_
        clear hv18
        refine Ev.aload_n (q := 0) ⟨dX7_setField_88, rfl⟩ rfl rfl ?_
        refine Ev.getRk (C2 := 6) (r := 0) fX7_10 rfl (by decide) (by decide) ⟨dX7_setField_89, rfl⟩ ?_
        refine Ev.getRk (C2 := 11) (r := 0) fX7_115 rfl (by decide) (by decide) ⟨dX7_setField_92, rfl⟩ ?_
        refine Ev.iload_n (q := 1) ⟨dX7_setField_95, rfl⟩ rfl rfl ?_
        obtain ⟨c20, h⟩ := ckI_s h
        refine Ev.aaloadk (C := 3) (r := (5 * 0 + (v1).toNat)) (by decide) c20.1 c20.2 (sr11 c20) ⟨dX7_setField_96, rfl⟩ ?_
        refine Ev.getRk (C2 := 0) (r := (3 * (5 * 0 + (v1).toNat) + 2)) fX7_180 rfl (by decide) (by decide) ⟨dX7_setField_97, rfl⟩ ?_
        refine Ev.astore (i := 5) (ls' := [(0, _), (1, _), (2, _), (3, _), (4, _), (5, _)]) ⟨dX7_setField_100, rfl⟩ (by decide) rfl ?_
        refine Ev.aload (q := 5) ⟨dX7_setField_102, rfl⟩ rfl ?_
        refine Ev.iload_n (q := 2) ⟨dX7_setField_104, rfl⟩ rfl rfl ?_
        refine Ev.iload_n (q := 3) ⟨dX7_setField_105, rfl⟩ rfl rfl ?_
        obtain ⟨r22, hv21, h⟩ := bnd_s h
        refine Ev.callV1 (mc1 := 1) (ms1 := 6) (v := vi r22) (h1 := hq D r19) vX7_183 (c_X0_valueOf Θ D z _ _ _ _ _ hv21) rfl rfl (by decide) rfl ⟨by decide, by decide, Nat.le_of_eq (Nat.zero_add _), Nat.le_of_eq (Nat.zero_add _), Nat.le_of_ble_eq_true rfl⟩ ⟨dX7_setField_106, rfl⟩ ?_
        clear hv21
        refine Ev.istore (i := 6) (ls' := [(0, _), (1, _), (2, _), (3, _), (4, _), (5, _), (6, _)]) ⟨dX7_setField_109, rfl⟩ (by decide) rfl ?_
        refine Ev.aload (q := 5) ⟨dX7_setField_111, rfl⟩ rfl ?_
        refine Ev.iload_n (q := 2) ⟨dX7_setField_113, rfl⟩ rfl rfl ?_
        refine Ev.iload_n (q := 3) ⟨dX7_setField_114, rfl⟩ rfl rfl ?_
        refine Ev.iload (q := 4) ⟨dX7_setField_115, rfl⟩ rfl ?_
        obtain ⟨r24, hv23, h⟩ := bnd_s h
        refine Ev.callVN (mc1 := 1) (ms1 := 6) (h1 := hq D r24) vX7_187 (c_X0_put Θ D z _ _ _ _ _ _ hv23) rfl rfl (by decide) rfl ⟨by decide, by decide, Nat.le_of_eq (Nat.zero_add _), Nat.le_of_eq (Nat.zero_add _), Nat.le_of_ble_eq_true rfl⟩ ⟨dX7_setField_117, rfl⟩ ?_
        clear hv23
        refine Ev.iload (q := 6) ⟨dX7_setField_120, rfl⟩ rfl ?_
        obtain rfl := Option.some.inj h
        exact Ev.ireturn (ty := .int) ⟨dX7_setField_122, rfl⟩ rfl rfl ⟨rfl, rfl⟩
      · replace h := (if_pos hc).symm.trans h; clear hc
        obtain rfl := Option.some.inj h
        exact Ev.throwS eX7_IllegalStateException tX7_178 rfl dX7_setField_67 dX7_setField_70 dX7_setField_71 dX7_setField_73 dX7_setField_76 (by decide) (Nat.le_of_ble_eq_true rfl) (by decide) (by decide) ⟨rfl, rfl⟩
    · replace h := (if_neg hc).symm.trans h; clear hc
      obtain rfl := Option.some.inj h
      exact Ev.throwS eX7_IllegalArgumentException tX7_164 rfl dX7_setField_29 dX7_setField_32 dX7_setField_33 dX7_setField_35 dX7_setField_38 (by decide) (Nat.le_of_ble_eq_true rfl) (by decide) (by decide) ⟨rfl, rfl⟩

def F_X7_addNode (z : Nat) (v0 : Nat) (v1 : Int) (v2 : Int) (v3 : Int) (v4 : Int) (x : Mm) : Option ((Int ⊕ String) × Mm) := bndX (F_X7_requireClient z (v0) (v1) x) fun r2 x3 => bndX (F_X7_requireNode z (v0) (v2) x3) fun r5 x6 => if v3 < 0 then (some (.inr "java/lang/IllegalArgumentException", x6)) else (if v3 ≤ (999 : Int) then (bndX (F_X7_requireLease z (v0) (v1) x6) fun r8 x9 => bndX (F_X7_requireInCopy z (v0) (v1) (v2) x9) fun r11 x12 => (F_X7_contains z ((x12.2 4 0 1)) (v2) x12).bind fun r14 => if r14 = 0 then (ckI v1 5 <| (F_X4_childWith z (0) ((x12.2 0 (3 * (5 * 0 + (v1).toNat) + 2) 0)) (v2) (v3) x12).bind fun r17 => if r17 = (-1 : Int) then (if (x12.1 4 0 0) < (60 : Int) then ((F_X2_push z (0) (0) x12).bind fun r19 => (F_X6_addToCopy z (0) (v1) (v2) (v3) (v4) r19).bind fun r21 => some ((.inl r21.1, r21.2))) else (some (.inr "java/lang/IllegalStateException", x12))) else (some (.inr "java/lang/IllegalStateException", x12))) else (some (.inr "java/lang/IllegalStateException", x12))) else (some (.inr "java/lang/IllegalArgumentException", x6)))
set_option maxHeartbeats 4000000 in
set_option maxRecDepth 20000 in
theorem c_X7_addNode (Θ : GC) (D : Nat → Nat → Prop) (z : Nat) (v0 : Nat) (v1 : Int) (v2 : Int) (v3 : Int) (v4 : Int) (x : Mm) (y) (h : F_X7_addNode z v0 v1 v2 v3 v4 x = some y) : Cal Θ mX7_addNode 7 112 5 30 [vr 7 (v0 + 1), vi (v1), vi (v2), vi (v3), vi (v4)] (hq D x) (ThrI D y) := by
  refine Cal.of (by decide +kernel) rfl rfl (Nat.le_of_ble_eq_true rfl) ?_
  show Ev Θ mX7_addNode 7 112 5 30 0 [(0, vr 7 (v0 + 1)), (1, vi (v1)), (2, vi (v2)), (3, vi (v3)), (4, vi (v4))] [] (hq D x) (ThrI D y)
  unfold F_X7_addNode at h
  refine Ev.aload_n (q := 0) ⟨dX7_addNode_0, rfl⟩ rfl rfl ?_
  refine Ev.iload_n (q := 1) ⟨dX7_addNode_1, rfl⟩ rfl rfl ?_
  rcases bndX_s h with ⟨r2, x3, hv1, h⟩ | ⟨E, x3, hv1, rfl⟩
  rotate_left
  · exact Ev.callVE (mc1 := 4) (ms1 := 24) (h1 := hq D x3) vX7_106 (c_X7_requireClient Θ D z _ _ _ _ hv1) rfl rfl (by decide) rfl ⟨by decide, by decide, by decide, by decide, Nat.le_of_ble_eq_true rfl⟩ ⟨dX7_addNode_2, rfl⟩ rfl ⟨rfl, rfl⟩
  refine Ev.callVN (mc1 := 4) (ms1 := 24) (h1 := hq D x3) vX7_106 (c_X7_requireClient Θ D z _ _ _ _ hv1) rfl rfl (by decide) rfl ⟨by decide, by decide, by decide, by decide, Nat.le_of_ble_eq_true rfl⟩ ⟨dX7_addNode_2, rfl⟩ ?_
  clear hv1
  refine Ev.aload_n (q := 0) ⟨dX7_addNode_5, rfl⟩ rfl rfl ?_
  refine Ev.iload_n (q := 2) ⟨dX7_addNode_6, rfl⟩ rfl rfl ?_
  rcases bndX_s h with ⟨r5, x6, hv4, h⟩ | ⟨E, x6, hv4, rfl⟩
  rotate_left
  · exact Ev.callVE (mc1 := 3) (ms1 := 18) (h1 := hq D x6) vX7_109 (c_X7_requireNode Θ D z _ _ _ _ hv4) rfl rfl (by decide) rfl ⟨by decide, by decide, by decide, by decide, Nat.le_of_ble_eq_true rfl⟩ ⟨dX7_addNode_7, rfl⟩ rfl ⟨rfl, rfl⟩
  refine Ev.callVN (mc1 := 3) (ms1 := 18) (h1 := hq D x6) vX7_109 (c_X7_requireNode Θ D z _ _ _ _ hv4) rfl rfl (by decide) rfl ⟨by decide, by decide, by decide, by decide, Nat.le_of_ble_eq_true rfl⟩ ⟨dX7_addNode_7, rfl⟩ ?_
  clear hv4
  refine Ev.iload_n (q := 3) ⟨dX7_addNode_10, rfl⟩ rfl rfl ?_
  refine Ev.if_lt jX7_addNode_11 (fun hc => ?_) (fun hc => ?_)
  · replace h := (if_pos hc).symm.trans h; clear hc
    obtain rfl := Option.some.inj h
    exact Ev.throwS eX7_IllegalArgumentException tX7_191 rfl dX7_addNode_21 dX7_addNode_24 dX7_addNode_25 dX7_addNode_27 dX7_addNode_30 (by decide) (Nat.le_of_ble_eq_true rfl) (by decide) (by decide) ⟨rfl, rfl⟩
  · replace h := (if_neg hc).symm.trans h; clear hc
    refine Ev.iload_n (q := 3) ⟨dX7_addNode_14, rfl⟩ rfl rfl ?_
    refine Ev.sipush ⟨dX7_addNode_15, rfl⟩ (inRd rfl) (by decide) ?_
    refine Ev.icmp_le jX7_addNode_18 (fun hc => ?_) (fun hc => ?_)
    · replace h := (if_pos hc).symm.trans h; clear hc
      refine Ev.aload_n (q := 0) ⟨dX7_addNode_31, rfl⟩ rfl rfl ?_
      refine Ev.iload_n (q := 1) ⟨dX7_addNode_32, rfl⟩ rfl rfl ?_
      rcases bndX_s h with ⟨r8, x9, hv7, h⟩ | ⟨E, x9, hv7, rfl⟩
      rotate_left
      · exact Ev.callVE (mc1 := 2) (ms1 := 12) (h1 := hq D x9) vX7_148 (c_X7_requireLease Θ D z _ _ _ _ hv7) rfl rfl (by decide) rfl ⟨by decide, by decide, by decide, by decide, Nat.le_of_ble_eq_true rfl⟩ ⟨dX7_addNode_33, rfl⟩ rfl ⟨rfl, rfl⟩
      refine Ev.callVN (mc1 := 2) (ms1 := 12) (h1 := hq D x9) vX7_148 (c_X7_requireLease Θ D z _ _ _ _ hv7) rfl rfl (by decide) rfl ⟨by decide, by decide, by decide, by decide, Nat.le_of_ble_eq_true rfl⟩ ⟨dX7_addNode_33, rfl⟩ ?_
      clear hv7
      refine Ev.aload_n (q := 0) ⟨dX7_addNode_36, rfl⟩ rfl rfl ?_
      refine Ev.iload_n (q := 1) ⟨dX7_addNode_37, rfl⟩ rfl rfl ?_
      refine Ev.iload_n (q := 2) ⟨dX7_addNode_38, rfl⟩ rfl rfl ?_
      rcases bndX_s h with ⟨r11, x12, hv10, h⟩ | ⟨E, x12, hv10, rfl⟩
      rotate_left
      · exact Ev.callVE (mc1 := 1) (ms1 := 6) (h1 := hq D x12) vX7_166 (c_X7_requireInCopy Θ D z _ _ _ _ _ hv10) rfl rfl (by decide) rfl ⟨by decide, by decide, by decide, by decide, Nat.le_of_ble_eq_true rfl⟩ ⟨dX7_addNode_39, rfl⟩ rfl ⟨rfl, rfl⟩
      refine Ev.callVN (mc1 := 1) (ms1 := 6) (h1 := hq D x12) vX7_166 (c_X7_requireInCopy Θ D z _ _ _ _ _ hv10) rfl rfl (by decide) rfl ⟨by decide, by decide, by decide, by decide, Nat.le_of_ble_eq_true rfl⟩ ⟨dX7_addNode_39, rfl⟩ ?_
      clear hv10
      refine Ev.aload_n (q := 0) ⟨dX7_addNode_42, rfl⟩ rfl rfl ?_
      refine Ev.getRk (C2 := 6) (r := 0) fX7_10 rfl (by decide) (by decide) ⟨dX7_addNode_43, rfl⟩ ?_
      refine Ev.getRk (C2 := 4) (r := 0) fX7_97 rfl (by decide) (by decide) ⟨dX7_addNode_46, rfl⟩ ?_
      refine Ev.getL fX7_170 ⟨dX7_addNode_49, rfl⟩ ?_
      refine Ev.iload_n (q := 2) ⟨dX7_addNode_52, rfl⟩ rfl rfl ?_
      obtain ⟨r14, hv13, h⟩ := bnd_s h
      refine Ev.callS1 (mc1 := 1) (ms1 := 6) (v := vi r14) (h1 := hq D x12) sX7_174 (c_X7_contains Θ D z _ _ _ _ hv13) rfl rfl ⟨by decide, by decide, Nat.le_of_eq (Nat.zero_add _), Nat.le_of_eq (Nat.zero_add _), Nat.le_of_ble_eq_true rfl⟩ ⟨dX7_addNode_53, rfl⟩ ?_
      clear hv13
      refine Ev.if_eq jX7_addNode_56 (fun hc => ?_) (fun hc => ?_)
      · replace h := (if_pos hc).symm.trans h; clear hc
        refine Ev.aload_n (q := 0) ⟨dX7_addNode_69, rfl⟩ rfl rfl ?_
        refine Ev.getRk (C2 := 6) (r := 0) fX7_10 rfl (by decide) (by decide) ⟨dX7_addNode_70, rfl⟩ ?_
        refine Ev.getRk (C2 := 4) (r := 0) fX7_97 rfl (by decide) (by decide) ⟨dX7_addNode_73, rfl⟩ ?_
        refine Ev.aload_n (q := 0) ⟨dX7_addNode_76, rfl⟩ rfl rfl ?_
        refine Ev.getRk (C2 := 6) (r := 0) fX7_10 rfl (by decide) (by decide) ⟨dX7_addNode_77, rfl⟩ ?_
        refine Ev.getRk (C2 := 11) (r := 0) fX7_115 rfl (by decide) (by decide) ⟨dX7_addNode_80, rfl⟩ ?_
        refine Ev.iload_n (q := 1) ⟨dX7_addNode_83, rfl⟩ rfl rfl ?_
        obtain ⟨c15, h⟩ := ckI_s h
        refine Ev.aaloadk (C := 3) (r := (5 * 0 + (v1).toNat)) (by decide) c15.1 c15.2 (sr11 c15) ⟨dX7_addNode_84, rfl⟩ ?_
        refine Ev.getRk (C2 := 0) (r := (3 * (5 * 0 + (v1).toNat) + 2)) fX7_180 rfl (by decide) (by decide) ⟨dX7_addNode_85, rfl⟩ ?_
        refine Ev.getL fX7_195 ⟨dX7_addNode_88, rfl⟩ ?_
        refine Ev.iload_n (q := 2) ⟨dX7_addNode_91, rfl⟩ rfl rfl ?_
        refine Ev.iload_n (q := 3) ⟨dX7_addNode_92, rfl⟩ rfl rfl ?_
        obtain ⟨r17, hv16, h⟩ := bnd_s h
        refine Ev.callV1 (mc1 := 1) (ms1 := 6) (v := vi r17) (h1 := hq D x12) vX7_198 (c_X4_childWith Θ D z _ _ _ _ _ _ hv16) rfl rfl (by decide) rfl ⟨by decide, by decide, Nat.le_of_eq (Nat.zero_add _), Nat.le_of_eq (Nat.zero_add _), Nat.le_of_ble_eq_true rfl⟩ ⟨dX7_addNode_93, rfl⟩ ?_
        clear hv16
        refine Ev.iconst ⟨dX7_addNode_96, rfl⟩ (inRd rfl) ?_
        refine Ev.icmp_eq jX7_addNode_97 (fun hc => ?_) (fun hc => ?_)
        · replace h := (if_pos hc).symm.trans h; clear hc
          refine Ev.aload_n (q := 0) ⟨dX7_addNode_110, rfl⟩ rfl rfl ?_
          refine Ev.getRk (C2 := 6) (r := 0) fX7_10 rfl (by decide) (by decide) ⟨dX7_addNode_111, rfl⟩ ?_
          refine Ev.getRk (C2 := 4) (r := 0) fX7_97 rfl (by decide) (by decide) ⟨dX7_addNode_114, rfl⟩ ?_
          refine Ev.getI fX7_101 (Or.inl rfl) ⟨dX7_addNode_117, rfl⟩ ?_
          refine Ev.bipush ⟨dX7_addNode_120, rfl⟩ (inRd rfl) (by decide) ?_
          refine Ev.icmp_lt jX7_addNode_122 (fun hc => ?_) (fun hc => ?_)
          · replace h := (if_pos hc).symm.trans h; clear hc
            refine Ev.aload_n (q := 0) ⟨dX7_addNode_135, rfl⟩ rfl rfl ?_
            refine Ev.getRk (C2 := 2) (r := 0) fX7_22 rfl (by decide) (by decide) ⟨dX7_addNode_136, rfl⟩ ?_
            refine Ev.aload_n (q := 0) ⟨dX7_addNode_139, rfl⟩ rfl rfl ?_
            refine Ev.getRk (C2 := 6) (r := 0) fX7_10 rfl (by decide) (by decide) ⟨dX7_addNode_140, rfl⟩ ?_
            obtain ⟨r19, hv18, h⟩ := bnd_s h
            refine Ev.callVN (mc1 := 1) (ms1 := 6) (h1 := hq D r19) vX7_141 (c_X2_push Θ D z _ _ _ _ hv18) rfl rfl (by decide) rfl ⟨by decide, by decide, Nat.le_of_eq (Nat.zero_add _), Nat.le_of_eq (Nat.zero_add _), Nat.le_of_ble_eq_true rfl⟩ ⟨dX7_addNode_143, rfl⟩ ?_
            clear hv18
            refine Ev.aload_n (q := 0) ⟨dX7_addNode_146, rfl⟩ rfl rfl ?_
            refine Ev.getRk (C2 := 6) (r := 0) fX7_10 rfl (by decide) (by decide) ⟨dX7_addNode_147, rfl⟩ ?_
            refine Ev.iload_n (q := 1) ⟨dX7_addNode_150, rfl⟩ rfl rfl ?_
            refine Ev.iload_n (q := 2) ⟨dX7_addNode_151, rfl⟩ rfl rfl ?_
            refine Ev.iload_n (q := 3) ⟨dX7_addNode_152, rfl⟩ rfl rfl ?_
            refine Ev.iload (q := 4) ⟨dX7_addNode_153, rfl⟩ rfl ?_
            obtain ⟨r21, hv20, h⟩ := bnd_s h
            refine Ev.callV1 (mc1 := 1) (ms1 := 6) (v := vi r21.1) (h1 := hq D r21.2) vX7_206 (c_X6_addToCopy Θ D z _ _ _ _ _ _ _ hv20) rfl rfl (by decide) rfl ⟨by decide, by decide, Nat.le_of_eq (Nat.zero_add _), Nat.le_of_eq (Nat.zero_add _), Nat.le_of_ble_eq_true rfl⟩ ⟨dX7_addNode_155, rfl⟩ ?_
            clear hv20
            obtain rfl := Option.some.inj h
            exact Ev.ireturn (ty := .int) ⟨dX7_addNode_158, rfl⟩ rfl rfl ⟨rfl, rfl⟩
          · replace h := (if_neg hc).symm.trans h; clear hc
            obtain rfl := Option.some.inj h
            exact Ev.throwS eX7_IllegalStateException tX7_204 rfl dX7_addNode_125 dX7_addNode_128 dX7_addNode_129 dX7_addNode_131 dX7_addNode_134 (by decide) (Nat.le_of_ble_eq_true rfl) (by decide) (by decide) ⟨rfl, rfl⟩
        · replace h := (if_neg hc).symm.trans h; clear hc
          obtain rfl := Option.some.inj h
          exact Ev.throwS eX7_IllegalStateException tX7_202 rfl dX7_addNode_100 dX7_addNode_103 dX7_addNode_104 dX7_addNode_106 dX7_addNode_109 (by decide) (Nat.le_of_ble_eq_true rfl) (by decide) (by decide) ⟨rfl, rfl⟩
      · replace h := (if_neg hc).symm.trans h; clear hc
        obtain rfl := Option.some.inj h
        exact Ev.throwS eX7_IllegalStateException tX7_193 rfl dX7_addNode_59 dX7_addNode_62 dX7_addNode_63 dX7_addNode_65 dX7_addNode_68 (by decide) (Nat.le_of_ble_eq_true rfl) (by decide) (by decide) ⟨rfl, rfl⟩
    · replace h := (if_neg hc).symm.trans h; clear hc
      obtain rfl := Option.some.inj h
      exact Ev.throwS eX7_IllegalArgumentException tX7_191 rfl dX7_addNode_21 dX7_addNode_24 dX7_addNode_25 dX7_addNode_27 dX7_addNode_30 (by decide) (Nat.le_of_ble_eq_true rfl) (by decide) (by decide) ⟨rfl, rfl⟩

def F_X7_removeNode (z : Nat) (v0 : Nat) (v1 : Int) (v2 : Int) (x : Mm) : Option ((Int ⊕ String) × Mm) := bndX (F_X7_requireClient z (v0) (v1) x) fun r2 x3 => bndX (F_X7_requireNode z (v0) (v2) x3) fun r5 x6 => bndX (F_X7_requireLease z (v0) (v1) x6) fun r8 x9 => bndX (F_X7_requireInCopy z (v0) (v1) (v2) x9) fun r11 x12 => ckI v1 5 <| if (x12.1 3 (5 * 0 + (v1).toNat) 1) = v2 then (some (.inr "java/lang/IllegalStateException", x12)) else ((F_X2_push z (0) (0) x12).bind fun r15 => ckI v1 5 <| (F_X4_atOrBelow z (0) (v2) r15).bind fun r18 => (some (wL r15 0 (3 * (5 * 0 + (v1).toNat) + 2) 0 (((r15.2 0 (3 * (5 * 0 + (v1).toNat) + 2) 0) &&& (((r15.2 0 (3 * (5 * 0 + (v1).toNat) + 2) 0) &&& r18) ^^^ (BitVec.ofInt 64 (-1))))))).bind fun x19 => some ((.inl (pcnt ((r15.2 0 (3 * (5 * 0 + (v1).toNat) + 2) 0) &&& r18)), x19)))
set_option maxHeartbeats 4000000 in
set_option maxRecDepth 20000 in
theorem c_X7_removeNode (Θ : GC) (D : Nat → Nat → Prop) (z : Nat) (v0 : Nat) (v1 : Int) (v2 : Int) (x : Mm) (y) (h : F_X7_removeNode z v0 v1 v2 x = some y) : Cal Θ mX7_removeNode 7 112 5 30 [vr 7 (v0 + 1), vi (v1), vi (v2)] (hq D x) (ThrI D y) := by
  refine Cal.of (by decide +kernel) rfl rfl (Nat.le_of_ble_eq_true rfl) ?_
  show Ev Θ mX7_removeNode 7 112 5 30 0 [(0, vr 7 (v0 + 1)), (1, vi (v1)), (2, vi (v2))] [] (hq D x) (ThrI D y)
  unfold F_X7_removeNode at h
  refine Ev.aload_n (q := 0) ⟨dX7_removeNode_0, rfl⟩ rfl rfl ?_
  refine Ev.iload_n (q := 1) ⟨dX7_removeNode_1, rfl⟩ rfl rfl ?_
  rcases bndX_s h with ⟨r2, x3, hv1, h⟩ | ⟨E, x3, hv1, rfl⟩
  rotate_left
  · exact Ev.callVE (mc1 := 4) (ms1 := 24) (h1 := hq D x3) vX7_106 (c_X7_requireClient Θ D z _ _ _ _ hv1) rfl rfl (by decide) rfl ⟨by decide, by decide, by decide, by decide, Nat.le_of_ble_eq_true rfl⟩ ⟨dX7_removeNode_2, rfl⟩ rfl ⟨rfl, rfl⟩
  refine Ev.callVN (mc1 := 4) (ms1 := 24) (h1 := hq D x3) vX7_106 (c_X7_requireClient Θ D z _ _ _ _ hv1) rfl rfl (by decide) rfl ⟨by decide, by decide, by decide, by decide, Nat.le_of_ble_eq_true rfl⟩ ⟨dX7_removeNode_2, rfl⟩ ?_
  clear hv1
  refine Ev.aload_n (q := 0) ⟨dX7_removeNode_5, rfl⟩ rfl rfl ?_
  refine Ev.iload_n (q := 2) ⟨dX7_removeNode_6, rfl⟩ rfl rfl ?_
  rcases bndX_s h with ⟨r5, x6, hv4, h⟩ | ⟨E, x6, hv4, rfl⟩
  rotate_left
  · exact Ev.callVE (mc1 := 3) (ms1 := 18) (h1 := hq D x6) vX7_109 (c_X7_requireNode Θ D z _ _ _ _ hv4) rfl rfl (by decide) rfl ⟨by decide, by decide, by decide, by decide, Nat.le_of_ble_eq_true rfl⟩ ⟨dX7_removeNode_7, rfl⟩ rfl ⟨rfl, rfl⟩
  refine Ev.callVN (mc1 := 3) (ms1 := 18) (h1 := hq D x6) vX7_109 (c_X7_requireNode Θ D z _ _ _ _ hv4) rfl rfl (by decide) rfl ⟨by decide, by decide, by decide, by decide, Nat.le_of_ble_eq_true rfl⟩ ⟨dX7_removeNode_7, rfl⟩ ?_
  clear hv4
  refine Ev.aload_n (q := 0) ⟨dX7_removeNode_10, rfl⟩ rfl rfl ?_
  refine Ev.iload_n (q := 1) ⟨dX7_removeNode_11, rfl⟩ rfl rfl ?_
  rcases bndX_s h with ⟨r8, x9, hv7, h⟩ | ⟨E, x9, hv7, rfl⟩
  rotate_left
  · exact Ev.callVE (mc1 := 2) (ms1 := 12) (h1 := hq D x9) vX7_148 (c_X7_requireLease Θ D z _ _ _ _ hv7) rfl rfl (by decide) rfl ⟨by decide, by decide, by decide, by decide, Nat.le_of_ble_eq_true rfl⟩ ⟨dX7_removeNode_12, rfl⟩ rfl ⟨rfl, rfl⟩
  refine Ev.callVN (mc1 := 2) (ms1 := 12) (h1 := hq D x9) vX7_148 (c_X7_requireLease Θ D z _ _ _ _ hv7) rfl rfl (by decide) rfl ⟨by decide, by decide, by decide, by decide, Nat.le_of_ble_eq_true rfl⟩ ⟨dX7_removeNode_12, rfl⟩ ?_
  clear hv7
  refine Ev.aload_n (q := 0) ⟨dX7_removeNode_15, rfl⟩ rfl rfl ?_
  refine Ev.iload_n (q := 1) ⟨dX7_removeNode_16, rfl⟩ rfl rfl ?_
  refine Ev.iload_n (q := 2) ⟨dX7_removeNode_17, rfl⟩ rfl rfl ?_
  rcases bndX_s h with ⟨r11, x12, hv10, h⟩ | ⟨E, x12, hv10, rfl⟩
  rotate_left
  · exact Ev.callVE (mc1 := 1) (ms1 := 6) (h1 := hq D x12) vX7_166 (c_X7_requireInCopy Θ D z _ _ _ _ _ hv10) rfl rfl (by decide) rfl ⟨by decide, by decide, by decide, by decide, Nat.le_of_ble_eq_true rfl⟩ ⟨dX7_removeNode_18, rfl⟩ rfl ⟨rfl, rfl⟩
  refine Ev.callVN (mc1 := 1) (ms1 := 6) (h1 := hq D x12) vX7_166 (c_X7_requireInCopy Θ D z _ _ _ _ _ hv10) rfl rfl (by decide) rfl ⟨by decide, by decide, by decide, by decide, Nat.le_of_ble_eq_true rfl⟩ ⟨dX7_removeNode_18, rfl⟩ ?_
  clear hv10
  refine Ev.aload_n (q := 0) ⟨dX7_removeNode_21, rfl⟩ rfl rfl ?_
  refine Ev.getRk (C2 := 6) (r := 0) fX7_10 rfl (by decide) (by decide) ⟨dX7_removeNode_22, rfl⟩ ?_
  refine Ev.getRk (C2 := 11) (r := 0) fX7_115 rfl (by decide) (by decide) ⟨dX7_removeNode_25, rfl⟩ ?_
  refine Ev.iload_n (q := 1) ⟨dX7_removeNode_28, rfl⟩ rfl rfl ?_
  obtain ⟨c13, h⟩ := ckI_s h
  refine Ev.aaloadk (C := 3) (r := (5 * 0 + (v1).toNat)) (by decide) c13.1 c13.2 (sr11 c13) ⟨dX7_removeNode_29, rfl⟩ ?_
  refine Ev.getI fX7_209 (Or.inl rfl) ⟨dX7_removeNode_30, rfl⟩ ?_
  refine Ev.iload_n (q := 2) ⟨dX7_removeNode_33, rfl⟩ rfl rfl ?_
  refine Ev.icmp_ne jX7_removeNode_34 (fun hc => ?_) (fun hc => ?_)
  · replace h := (if_neg hc).symm.trans h; clear hc
    refine Ev.aload_n (q := 0) ⟨dX7_removeNode_47, rfl⟩ rfl rfl ?_
    refine Ev.getRk (C2 := 2) (r := 0) fX7_22 rfl (by decide) (by decide) ⟨dX7_removeNode_48, rfl⟩ ?_
    refine Ev.aload_n (q := 0) ⟨dX7_removeNode_51, rfl⟩ rfl rfl ?_
    refine Ev.getRk (C2 := 6) (r := 0) fX7_10 rfl (by decide) (by decide) ⟨dX7_removeNode_52, rfl⟩ ?_
    obtain ⟨r15, hv14, h⟩ := bnd_s h
    refine Ev.callVN (mc1 := 1) (ms1 := 6) (h1 := hq D r15) vX7_141 (c_X2_push Θ D z _ _ _ _ hv14) rfl rfl (by decide) rfl ⟨by decide, by decide, Nat.le_of_eq (Nat.zero_add _), Nat.le_of_eq (Nat.zero_add _), Nat.le_of_ble_eq_true rfl⟩ ⟨dX7_removeNode_55, rfl⟩ ?_
    clear hv14
    refine Ev.aload_n (q := 0) ⟨dX7_removeNode_58, rfl⟩ rfl rfl ?_
    refine Ev.getRk (C2 := 6) (r := 0) fX7_10 rfl (by decide) (by decide) ⟨dX7_removeNode_59, rfl⟩ ?_
    refine Ev.getRk (C2 := 11) (r := 0) fX7_115 rfl (by decide) (by decide) ⟨dX7_removeNode_62, rfl⟩ ?_
    refine Ev.iload_n (q := 1) ⟨dX7_removeNode_65, rfl⟩ rfl rfl ?_
    obtain ⟨c16, h⟩ := ckI_s h
    refine Ev.aaloadk (C := 3) (r := (5 * 0 + (v1).toNat)) (by decide) c16.1 c16.2 (sr11 c16) ⟨dX7_removeNode_66, rfl⟩ ?_
    refine Ev.getRk (C2 := 0) (r := (3 * (5 * 0 + (v1).toNat) + 2)) fX7_180 rfl (by decide) (by decide) ⟨dX7_removeNode_67, rfl⟩ ?_
    refine Ev.astore_n (i := 3) (ls' := [(0, _), (1, _), (2, _), (3, _)]) ⟨dX7_removeNode_70, rfl⟩ rfl (by decide) rfl ?_
    refine Ev.aload_n (q := 3) ⟨dX7_removeNode_71, rfl⟩ rfl rfl ?_
    refine Ev.getL fX7_195 ⟨dX7_removeNode_72, rfl⟩ ?_
    refine Ev.aload_n (q := 0) ⟨dX7_removeNode_75, rfl⟩ rfl rfl ?_
    refine Ev.getRk (C2 := 6) (r := 0) fX7_10 rfl (by decide) (by decide) ⟨dX7_removeNode_76, rfl⟩ ?_
    refine Ev.getRk (C2 := 4) (r := 0) fX7_97 rfl (by decide) (by decide) ⟨dX7_removeNode_79, rfl⟩ ?_
    refine Ev.iload_n (q := 2) ⟨dX7_removeNode_82, rfl⟩ rfl rfl ?_
    obtain ⟨r18, hv17, h⟩ := bnd_s h
    refine Ev.callV1 (mc1 := 1) (ms1 := 6) (v := vl r18) (h1 := hq D r15) vX7_214 (c_X4_atOrBelow Θ D z _ _ _ _ hv17) rfl rfl (by decide) rfl ⟨by decide, by decide, Nat.le_of_eq (Nat.zero_add _), Nat.le_of_eq (Nat.zero_add _), Nat.le_of_ble_eq_true rfl⟩ ⟨dX7_removeNode_83, rfl⟩ ?_
    clear hv17
    refine Ev.land ⟨dX7_removeNode_86, rfl⟩ ?_
    refine Ev.lstore (i := 4) (ls' := [(0, _), (1, _), (2, _), (3, _), (4, _)]) ⟨dX7_removeNode_87, rfl⟩ (by decide) rfl ?_
    refine Ev.aload_n (q := 3) ⟨dX7_removeNode_89, rfl⟩ rfl rfl ?_
    refine Ev.dup ⟨dX7_removeNode_90, rfl⟩ rfl ?_
    refine Ev.getL fX7_195 ⟨dX7_removeNode_91, rfl⟩ ?_
    refine Ev.lload (q := 4) ⟨dX7_removeNode_94, rfl⟩ rfl ?_
    refine Ev.ldc2 (b := BitVec.ofInt 64 (-1)) ⟨dX7_removeNode_96, rfl⟩ wX7_218 ?_
    refine Ev.lxor ⟨dX7_removeNode_99, rfl⟩ ?_
    refine Ev.land ⟨dX7_removeNode_100, rfl⟩ ?_
    obtain ⟨x19, ex, h⟩ := bnd_s h
    refine Ev.putL fX7_195 ⟨dX7_removeNode_101, rfl⟩ ?_
    refine Ev.cast ?_ rfl rfl (hqL ex)
    clear ex
    refine Ev.lload (q := 4) ⟨dX7_removeNode_104, rfl⟩ rfl ?_
    refine Ev.callS1 (mc1 := 1) (ms1 := 6) (v := vi (pcnt ((r15.2 0 (3 * (5 * 0 + (v1).toNat) + 2) 0) &&& r18))) (h1 := hq D x19) sX7_220 (c_J13_bitCount_95d88 Θ _ _) rfl rfl ⟨by decide, by decide, Nat.le_of_eq (Nat.zero_add _), Nat.le_of_eq (Nat.zero_add _), Nat.le_of_ble_eq_true rfl⟩ ⟨dX7_removeNode_106, rfl⟩ ?_
    obtain rfl := Option.some.inj h
    exact Ev.ireturn (ty := .int) ⟨dX7_removeNode_109, rfl⟩ rfl rfl ⟨rfl, rfl⟩
  · replace h := (if_pos hc).symm.trans h; clear hc
    obtain rfl := Option.some.inj h
    exact Ev.throwS eX7_IllegalStateException tX7_212 rfl dX7_removeNode_37 dX7_removeNode_40 dX7_removeNode_41 dX7_removeNode_43 dX7_removeNode_46 (by decide) (Nat.le_of_ble_eq_true rfl) (by decide) (by decide) ⟨rfl, rfl⟩

def F_X7_commit (z : Nat) (v0 : Nat) (v1 : Int) (x : Mm) : Option ((Int ⊕ String) × Mm) := bndX (F_X7_requireClient z (v0) (v1) x) fun r2 x3 => bndX (F_X7_requireLease z (v0) (v1) x3) fun r5 x6 => (F_X2_push z (0) (0) x6).bind fun r8 => (F_X6_merge z (0) (v1) ((3 * 0)) (0) r8).bind fun r10 => ckI v1 5 <| (some (wI r10.2 3 (5 * 0 + (v1).toNat) 0 ((0 : Int)))).bind fun x12 => some ((.inl r10.1, x12))
set_option maxHeartbeats 4000000 in
set_option maxRecDepth 20000 in
theorem c_X7_commit (Θ : GC) (D : Nat → Nat → Prop) (z : Nat) (v0 : Nat) (v1 : Int) (x : Mm) (y) (h : F_X7_commit z v0 v1 x = some y) : Cal Θ mX7_commit 7 130 2 12 [vr 7 (v0 + 1), vi (v1)] (hq D x) (ThrI D y) := by
  refine Cal.of (by decide +kernel) rfl rfl (Nat.le_of_ble_eq_true rfl) ?_
  show Ev Θ mX7_commit 7 130 2 12 0 [(0, vr 7 (v0 + 1)), (1, vi (v1))] [] (hq D x) (ThrI D y)
  unfold F_X7_commit at h
  refine Ev.aload_n (q := 0) ⟨dX7_commit_0, rfl⟩ rfl rfl ?_
  refine Ev.iload_n (q := 1) ⟨dX7_commit_1, rfl⟩ rfl rfl ?_
  rcases bndX_s h with ⟨r2, x3, hv1, h⟩ | ⟨E, x3, hv1, rfl⟩
  rotate_left
  · exact Ev.callVE (mc1 := 1) (ms1 := 6) (h1 := hq D x3) vX7_106 (c_X7_requireClient Θ D z _ _ _ _ hv1) rfl rfl (by decide) rfl ⟨by decide, by decide, by decide, by decide, Nat.le_of_ble_eq_true rfl⟩ ⟨dX7_commit_2, rfl⟩ rfl ⟨rfl, rfl⟩
  refine Ev.callVN (mc1 := 1) (ms1 := 6) (h1 := hq D x3) vX7_106 (c_X7_requireClient Θ D z _ _ _ _ hv1) rfl rfl (by decide) rfl ⟨by decide, by decide, by decide, by decide, Nat.le_of_ble_eq_true rfl⟩ ⟨dX7_commit_2, rfl⟩ ?_
  clear hv1
  refine Ev.aload_n (q := 0) ⟨dX7_commit_5, rfl⟩ rfl rfl ?_
  refine Ev.iload_n (q := 1) ⟨dX7_commit_6, rfl⟩ rfl rfl ?_
  rcases bndX_s h with ⟨r5, x6, hv4, h⟩ | ⟨E, x6, hv4, rfl⟩
  rotate_left
  · exact Ev.callVE (mc1 := 0) (ms1 := 0) (h1 := hq D x6) vX7_148 (c_X7_requireLease Θ D z _ _ _ _ hv4) rfl rfl (by decide) rfl ⟨by decide, by decide, by decide, by decide, Nat.le_of_ble_eq_true rfl⟩ ⟨dX7_commit_7, rfl⟩ rfl ⟨rfl, rfl⟩
  refine Ev.callVN (mc1 := 0) (ms1 := 0) (h1 := hq D x6) vX7_148 (c_X7_requireLease Θ D z _ _ _ _ hv4) rfl rfl (by decide) rfl ⟨by decide, by decide, by decide, by decide, Nat.le_of_ble_eq_true rfl⟩ ⟨dX7_commit_7, rfl⟩ ?_
  clear hv4
  refine Ev.aload_n (q := 0) ⟨dX7_commit_10, rfl⟩ rfl rfl ?_
  refine Ev.getRk (C2 := 2) (r := 0) fX7_22 rfl (by decide) (by decide) ⟨dX7_commit_11, rfl⟩ ?_
  refine Ev.aload_n (q := 0) ⟨dX7_commit_14, rfl⟩ rfl rfl ?_
  refine Ev.getRk (C2 := 6) (r := 0) fX7_10 rfl (by decide) (by decide) ⟨dX7_commit_15, rfl⟩ ?_
  obtain ⟨r8, hv7, h⟩ := bnd_s h
  refine Ev.callVN (mc1 := 0) (ms1 := 0) (h1 := hq D r8) vX7_141 (c_X2_push Θ D z _ _ _ _ hv7) rfl rfl (by decide) rfl ⟨by decide, by decide, Nat.le_of_eq (Nat.zero_add _), Nat.le_of_eq (Nat.zero_add _), Nat.le_of_ble_eq_true rfl⟩ ⟨dX7_commit_18, rfl⟩ ?_
  clear hv7
  refine Ev.aload_n (q := 0) ⟨dX7_commit_21, rfl⟩ rfl rfl ?_
  refine Ev.getRk (C2 := 6) (r := 0) fX7_10 rfl (by decide) (by decide) ⟨dX7_commit_22, rfl⟩ ?_
  refine Ev.iload_n (q := 1) ⟨dX7_commit_25, rfl⟩ rfl rfl ?_
  refine Ev.aload_n (q := 0) ⟨dX7_commit_26, rfl⟩ rfl rfl ?_
  refine Ev.getRk (C2 := 6) (r := 0) fX7_10 rfl (by decide) (by decide) ⟨dX7_commit_27, rfl⟩ ?_
  refine Ev.getRk (C2 := 0) (r := (3 * 0)) fX7_126 rfl (by decide) (by decide) ⟨dX7_commit_30, rfl⟩ ?_
  refine Ev.aload_n (q := 0) ⟨dX7_commit_33, rfl⟩ rfl rfl ?_
  refine Ev.getRk (C2 := 6) (r := 0) fX7_10 rfl (by decide) (by decide) ⟨dX7_commit_34, rfl⟩ ?_
  refine Ev.getRk (C2 := 1) (r := 0) fX7_226 rfl (by decide) (by decide) ⟨dX7_commit_37, rfl⟩ ?_
  obtain ⟨r10, hv9, h⟩ := bnd_s h
  refine Ev.callV1 (mc1 := 0) (ms1 := 0) (v := vi r10.1) (h1 := hq D r10.2) vX7_229 (c_X6_merge Θ D z _ _ _ _ _ _ hv9) rfl rfl (by decide) rfl ⟨by decide, by decide, Nat.le_of_eq (Nat.zero_add _), Nat.le_of_eq (Nat.zero_add _), Nat.le_of_ble_eq_true rfl⟩ ⟨dX7_commit_40, rfl⟩ ?_
  clear hv9
  refine Ev.istore_n (i := 2) (ls' := [(0, _), (1, _), (2, _)]) ⟨dX7_commit_43, rfl⟩ rfl (by decide) rfl ?_
  refine Ev.aload_n (q := 0) ⟨dX7_commit_44, rfl⟩ rfl rfl ?_
  refine Ev.getRk (C2 := 6) (r := 0) fX7_10 rfl (by decide) (by decide) ⟨dX7_commit_45, rfl⟩ ?_
  refine Ev.getRk (C2 := 11) (r := 0) fX7_115 rfl (by decide) (by decide) ⟨dX7_commit_48, rfl⟩ ?_
  refine Ev.iload_n (q := 1) ⟨dX7_commit_51, rfl⟩ rfl rfl ?_
  obtain ⟨c11, h⟩ := ckI_s h
  refine Ev.aaloadk (C := 3) (r := (5 * 0 + (v1).toNat)) (by decide) c11.1 c11.2 (sr11 c11) ⟨dX7_commit_52, rfl⟩ ?_
  refine Ev.iconst ⟨dX7_commit_53, rfl⟩ (inRd rfl) ?_
  obtain ⟨x12, ex, h⟩ := bnd_s h
  refine Ev.putZ fX7_119 (by decide) ⟨dX7_commit_54, rfl⟩ ?_
  refine Ev.cast ?_ rfl rfl (hqI ex)
  clear ex
  refine Ev.iload_n (q := 2) ⟨dX7_commit_57, rfl⟩ rfl rfl ?_
  obtain rfl := Option.some.inj h
  exact Ev.ireturn (ty := .int) ⟨dX7_commit_58, rfl⟩ rfl rfl ⟨rfl, rfl⟩

def F_X7_abandon (z : Nat) (v0 : Nat) (v1 : Int) (x : Mm) : Option ((Int ⊕ String) × Mm) := bndX (F_X7_requireClient z (v0) (v1) x) fun r2 x3 => bndX (F_X7_requireLease z (v0) (v1) x3) fun r5 x6 => (F_X2_push z (0) (0) x6).bind fun r8 => (F_X6_changedIn z (0) (v1) r8).bind fun r10 => ckI v1 5 <| (some (wI r8 3 (5 * 0 + (v1).toNat) 0 ((0 : Int)))).bind fun x12 => some ((.inl r10, x12))
set_option maxHeartbeats 4000000 in
set_option maxRecDepth 20000 in
theorem c_X7_abandon (Θ : GC) (D : Nat → Nat → Prop) (z : Nat) (v0 : Nat) (v1 : Int) (x : Mm) (y) (h : F_X7_abandon z v0 v1 x = some y) : Cal Θ mX7_abandon 7 111 2 12 [vr 7 (v0 + 1), vi (v1)] (hq D x) (ThrI D y) := by
  refine Cal.of (by decide +kernel) rfl rfl (Nat.le_of_ble_eq_true rfl) ?_
  show Ev Θ mX7_abandon 7 111 2 12 0 [(0, vr 7 (v0 + 1)), (1, vi (v1))] [] (hq D x) (ThrI D y)
  unfold F_X7_abandon at h
  refine Ev.aload_n (q := 0) ⟨dX7_abandon_0, rfl⟩ rfl rfl ?_
  refine Ev.iload_n (q := 1) ⟨dX7_abandon_1, rfl⟩ rfl rfl ?_
  rcases bndX_s h with ⟨r2, x3, hv1, h⟩ | ⟨E, x3, hv1, rfl⟩
  rotate_left
  · exact Ev.callVE (mc1 := 1) (ms1 := 6) (h1 := hq D x3) vX7_106 (c_X7_requireClient Θ D z _ _ _ _ hv1) rfl rfl (by decide) rfl ⟨by decide, by decide, by decide, by decide, Nat.le_of_ble_eq_true rfl⟩ ⟨dX7_abandon_2, rfl⟩ rfl ⟨rfl, rfl⟩
  refine Ev.callVN (mc1 := 1) (ms1 := 6) (h1 := hq D x3) vX7_106 (c_X7_requireClient Θ D z _ _ _ _ hv1) rfl rfl (by decide) rfl ⟨by decide, by decide, by decide, by decide, Nat.le_of_ble_eq_true rfl⟩ ⟨dX7_abandon_2, rfl⟩ ?_
  clear hv1
  refine Ev.aload_n (q := 0) ⟨dX7_abandon_5, rfl⟩ rfl rfl ?_
  refine Ev.iload_n (q := 1) ⟨dX7_abandon_6, rfl⟩ rfl rfl ?_
  rcases bndX_s h with ⟨r5, x6, hv4, h⟩ | ⟨E, x6, hv4, rfl⟩
  rotate_left
  · exact Ev.callVE (mc1 := 0) (ms1 := 0) (h1 := hq D x6) vX7_148 (c_X7_requireLease Θ D z _ _ _ _ hv4) rfl rfl (by decide) rfl ⟨by decide, by decide, by decide, by decide, Nat.le_of_ble_eq_true rfl⟩ ⟨dX7_abandon_7, rfl⟩ rfl ⟨rfl, rfl⟩
  refine Ev.callVN (mc1 := 0) (ms1 := 0) (h1 := hq D x6) vX7_148 (c_X7_requireLease Θ D z _ _ _ _ hv4) rfl rfl (by decide) rfl ⟨by decide, by decide, by decide, by decide, Nat.le_of_ble_eq_true rfl⟩ ⟨dX7_abandon_7, rfl⟩ ?_
  clear hv4
  refine Ev.aload_n (q := 0) ⟨dX7_abandon_10, rfl⟩ rfl rfl ?_
  refine Ev.getRk (C2 := 2) (r := 0) fX7_22 rfl (by decide) (by decide) ⟨dX7_abandon_11, rfl⟩ ?_
  refine Ev.aload_n (q := 0) ⟨dX7_abandon_14, rfl⟩ rfl rfl ?_
  refine Ev.getRk (C2 := 6) (r := 0) fX7_10 rfl (by decide) (by decide) ⟨dX7_abandon_15, rfl⟩ ?_
  obtain ⟨r8, hv7, h⟩ := bnd_s h
  refine Ev.callVN (mc1 := 0) (ms1 := 0) (h1 := hq D r8) vX7_141 (c_X2_push Θ D z _ _ _ _ hv7) rfl rfl (by decide) rfl ⟨by decide, by decide, Nat.le_of_eq (Nat.zero_add _), Nat.le_of_eq (Nat.zero_add _), Nat.le_of_ble_eq_true rfl⟩ ⟨dX7_abandon_18, rfl⟩ ?_
  clear hv7
  refine Ev.aload_n (q := 0) ⟨dX7_abandon_21, rfl⟩ rfl rfl ?_
  refine Ev.getRk (C2 := 6) (r := 0) fX7_10 rfl (by decide) (by decide) ⟨dX7_abandon_22, rfl⟩ ?_
  refine Ev.iload_n (q := 1) ⟨dX7_abandon_25, rfl⟩ rfl rfl ?_
  obtain ⟨r10, hv9, h⟩ := bnd_s h
  refine Ev.callV1 (mc1 := 0) (ms1 := 0) (v := vi r10) (h1 := hq D r8) vX7_233 (c_X6_changedIn Θ D z _ _ _ _ hv9) rfl rfl (by decide) rfl ⟨by decide, by decide, Nat.le_of_eq (Nat.zero_add _), Nat.le_of_eq (Nat.zero_add _), Nat.le_of_ble_eq_true rfl⟩ ⟨dX7_abandon_26, rfl⟩ ?_
  clear hv9
  refine Ev.istore_n (i := 2) (ls' := [(0, _), (1, _), (2, _)]) ⟨dX7_abandon_29, rfl⟩ rfl (by decide) rfl ?_
  refine Ev.aload_n (q := 0) ⟨dX7_abandon_30, rfl⟩ rfl rfl ?_
  refine Ev.getRk (C2 := 6) (r := 0) fX7_10 rfl (by decide) (by decide) ⟨dX7_abandon_31, rfl⟩ ?_
  refine Ev.getRk (C2 := 11) (r := 0) fX7_115 rfl (by decide) (by decide) ⟨dX7_abandon_34, rfl⟩ ?_
  refine Ev.iload_n (q := 1) ⟨dX7_abandon_37, rfl⟩ rfl rfl ?_
  obtain ⟨c11, h⟩ := ckI_s h
  refine Ev.aaloadk (C := 3) (r := (5 * 0 + (v1).toNat)) (by decide) c11.1 c11.2 (sr11 c11) ⟨dX7_abandon_38, rfl⟩ ?_
  refine Ev.iconst ⟨dX7_abandon_39, rfl⟩ (inRd rfl) ?_
  obtain ⟨x12, ex, h⟩ := bnd_s h
  refine Ev.putZ fX7_119 (by decide) ⟨dX7_abandon_40, rfl⟩ ?_
  refine Ev.cast ?_ rfl rfl (hqI ex)
  clear ex
  refine Ev.iload_n (q := 2) ⟨dX7_abandon_43, rfl⟩ rfl rfl ?_
  obtain rfl := Option.some.inj h
  exact Ev.ireturn (ty := .int) ⟨dX7_abandon_44, rfl⟩ rfl rfl ⟨rfl, rfl⟩

def F_X7_requireConflict (z : Nat) (v0 : Nat) (v1 : Int) (x : Mm) : Option ((Unit ⊕ String) × Mm) := if v1 < 0 then (some (.inr "java/lang/IndexOutOfBoundsException", x)) else (if v1 < (x.1 1 0 0) then (some ((.inl (), x))) else (some (.inr "java/lang/IndexOutOfBoundsException", x)))
set_option maxHeartbeats 4000000 in
set_option maxRecDepth 20000 in
theorem c_X7_requireConflict (Θ : GC) (D : Nat → Nat → Prop) (z : Nat) (v0 : Nat) (v1 : Int) (x : Mm) (y) (h : F_X7_requireConflict z v0 v1 x = some y) : Cal Θ mX7_requireConflict 6 90 1 6 [vr 7 (v0 + 1), vi (v1)] (hq D x) (ThrU D y) := by
  refine Cal.of (by decide +kernel) rfl rfl (Nat.le_of_ble_eq_true rfl) ?_
  show Ev Θ mX7_requireConflict 6 90 1 6 0 [(0, vr 7 (v0 + 1)), (1, vi (v1))] [] (hq D x) (ThrU D y)
  unfold F_X7_requireConflict at h
  refine Ev.iload_n (q := 1) ⟨dX7_requireConflict_0, rfl⟩ rfl rfl ?_
  refine Ev.if_lt jX7_requireConflict_1 (fun hc => ?_) (fun hc => ?_)
  · replace h := (if_pos hc).symm.trans h; clear hc
    obtain rfl := Option.some.inj h
    exact Ev.throwSW eX7_IndexOutOfBoundsException tX7_354 rfl dX7_requireConflict_18 dX7_requireConflict_21 dX7_requireConflict_22 dX7_requireConflict_25 dX7_requireConflict_28 (by decide) (Nat.le_of_ble_eq_true rfl) (by decide) (by decide) ⟨rfl, rfl⟩
  · replace h := (if_neg hc).symm.trans h; clear hc
    refine Ev.iload_n (q := 1) ⟨dX7_requireConflict_4, rfl⟩ rfl rfl ?_
    refine Ev.aload_n (q := 0) ⟨dX7_requireConflict_5, rfl⟩ rfl rfl ?_
    refine Ev.getRk (C2 := 6) (r := 0) fX7_10 rfl (by decide) (by decide) ⟨dX7_requireConflict_6, rfl⟩ ?_
    refine Ev.getRk (C2 := 1) (r := 0) fX7_226 rfl (by decide) (by decide) ⟨dX7_requireConflict_9, rfl⟩ ?_
    refine Ev.getI fX7_250 (Or.inl rfl) ⟨dX7_requireConflict_12, rfl⟩ ?_
    refine Ev.icmp_lt jX7_requireConflict_15 (fun hc => ?_) (fun hc => ?_)
    · replace h := (if_pos hc).symm.trans h; clear hc
      obtain rfl := Option.some.inj h
      exact Ev.ret ⟨dX7_requireConflict_29, rfl⟩ rfl ⟨rfl, rfl⟩
    · replace h := (if_neg hc).symm.trans h; clear hc
      obtain rfl := Option.some.inj h
      exact Ev.throwSW eX7_IndexOutOfBoundsException tX7_354 rfl dX7_requireConflict_18 dX7_requireConflict_21 dX7_requireConflict_22 dX7_requireConflict_25 dX7_requireConflict_28 (by decide) (Nat.le_of_ble_eq_true rfl) (by decide) (by decide) ⟨rfl, rfl⟩

def F_X7_resolve_53 (z : Nat) (v0 : Nat) (v1 : Int) (x : Mm) : Option ((Int ⊕ String) × Mm) := (F_X1_drop z (0) (v1) x).bind fun r7 => some ((.inl (r7.1 1 0 0), r7))
set_option maxHeartbeats 4000000 in
set_option maxRecDepth 20000 in
theorem e_X7_resolve_53 (Θ : GC) (D : Nat → Nat → Prop) (z : Nat) (v0 : Nat) (v1 : Int) (x : Mm) (y) (h : F_X7_resolve_53 z v0 v1 x = some y) : Ev Θ mX7_resolve 7 111 1 6 53 [(0, vr 7 (v0 + 1)), (1, vi (v1))] [] (hq D x) (ThrI D y) := by
  unfold F_X7_resolve_53 at h
  refine Ev.aload_n (q := 0) ⟨dX7_resolve_53, rfl⟩ rfl rfl ?_
  refine Ev.getRk (C2 := 6) (r := 0) fX7_10 rfl (by decide) (by decide) ⟨dX7_resolve_54, rfl⟩ ?_
  refine Ev.getRk (C2 := 1) (r := 0) fX7_226 rfl (by decide) (by decide) ⟨dX7_resolve_57, rfl⟩ ?_
  refine Ev.iload_n (q := 1) ⟨dX7_resolve_60, rfl⟩ rfl rfl ?_
  obtain ⟨r7, hv6, h⟩ := bnd_s h
  refine Ev.callVN (mc1 := 1) (ms1 := 6) (h1 := hq D r7) vX7_247 (c_X1_drop Θ D z _ _ _ _ hv6) rfl rfl (by decide) rfl ⟨by decide, by decide, Nat.le_of_eq (Nat.zero_add _), Nat.le_of_eq (Nat.zero_add _), Nat.le_of_ble_eq_true rfl⟩ ⟨dX7_resolve_61, rfl⟩ ?_
  clear hv6
  refine Ev.aload_n (q := 0) ⟨dX7_resolve_64, rfl⟩ rfl rfl ?_
  refine Ev.getRk (C2 := 6) (r := 0) fX7_10 rfl (by decide) (by decide) ⟨dX7_resolve_65, rfl⟩ ?_
  refine Ev.getRk (C2 := 1) (r := 0) fX7_226 rfl (by decide) (by decide) ⟨dX7_resolve_68, rfl⟩ ?_
  refine Ev.getI fX7_250 (Or.inl rfl) ⟨dX7_resolve_71, rfl⟩ ?_
  obtain rfl := Option.some.inj h
  exact Ev.ireturn (ty := .int) ⟨dX7_resolve_74, rfl⟩ rfl rfl ⟨rfl, rfl⟩

def F_X7_resolve_30 (z : Nat) (v0 : Nat) (v1 : Int) (v2 : Int) (x : Mm) : Option ((Int ⊕ String) × Mm) := (F_X2_push z (0) (0) x).bind fun r5 => if v2 = 0 then (F_X7_resolve_53 z (v0) (v1) r5) else ((F_X6_accept z (0) (v1) r5).bind fun r9 => F_X7_resolve_53 z (v0) (v1) r9)
set_option maxHeartbeats 4000000 in
set_option maxRecDepth 20000 in
theorem e_X7_resolve_30 (Θ : GC) (D : Nat → Nat → Prop) (z : Nat) (v0 : Nat) (v1 : Int) (v2 : Int) (x : Mm) (y) (h : F_X7_resolve_30 z v0 v1 v2 x = some y) : Ev Θ mX7_resolve 7 111 1 6 30 [(0, vr 7 (v0 + 1)), (1, vi (v1)), (2, vi (v2))] [] (hq D x) (ThrI D y) := by
  unfold F_X7_resolve_30 at h
  refine Ev.aload_n (q := 0) ⟨dX7_resolve_30, rfl⟩ rfl rfl ?_
  refine Ev.getRk (C2 := 2) (r := 0) fX7_22 rfl (by decide) (by decide) ⟨dX7_resolve_31, rfl⟩ ?_
  refine Ev.aload_n (q := 0) ⟨dX7_resolve_34, rfl⟩ rfl rfl ?_
  refine Ev.getRk (C2 := 6) (r := 0) fX7_10 rfl (by decide) (by decide) ⟨dX7_resolve_35, rfl⟩ ?_
  obtain ⟨r5, hv4, h⟩ := bnd_s h
  refine Ev.callVN (mc1 := 1) (ms1 := 6) (h1 := hq D r5) vX7_141 (c_X2_push Θ D z _ _ _ _ hv4) rfl rfl (by decide) rfl ⟨by decide, by decide, Nat.le_of_eq (Nat.zero_add _), Nat.le_of_eq (Nat.zero_add _), Nat.le_of_ble_eq_true rfl⟩ ⟨dX7_resolve_38, rfl⟩ ?_
  clear hv4
  refine Ev.iload_n (q := 2) ⟨dX7_resolve_41, rfl⟩ rfl rfl ?_
  refine Ev.if_eq jX7_resolve_42 (fun hc => ?_) (fun hc => ?_)
  · replace h := (if_pos hc).symm.trans h; clear hc
    refine Ev.keep [0, 1] rfl ?_
    exact e_X7_resolve_53 Θ D z _ _ _ _ h
  · replace h := (if_neg hc).symm.trans h; clear hc
    refine Ev.aload_n (q := 0) ⟨dX7_resolve_45, rfl⟩ rfl rfl ?_
    refine Ev.getRk (C2 := 6) (r := 0) fX7_10 rfl (by decide) (by decide) ⟨dX7_resolve_46, rfl⟩ ?_
    refine Ev.iload_n (q := 1) ⟨dX7_resolve_49, rfl⟩ rfl rfl ?_
    obtain ⟨r9, hv8, h⟩ := bnd_s h
    refine Ev.callVN (mc1 := 1) (ms1 := 6) (h1 := hq D r9) vX7_244 (c_X6_accept Θ D z _ _ _ _ hv8) rfl rfl (by decide) rfl ⟨by decide, by decide, Nat.le_of_eq (Nat.zero_add _), Nat.le_of_eq (Nat.zero_add _), Nat.le_of_ble_eq_true rfl⟩ ⟨dX7_resolve_50, rfl⟩ ?_
    clear hv8
    refine Ev.keep [0, 1] rfl ?_
    exact e_X7_resolve_53 Θ D z _ _ _ _ h
def F_X7_resolve (z : Nat) (v0 : Nat) (v1 : Int) (v2 : Int) (x : Mm) : Option ((Int ⊕ String) × Mm) := bndX (F_X7_requireConflict z (v0) (v1) x) fun r2 x3 => if v2 = 0 then (F_X7_resolve_30 z (v0) (v1) (v2) x3) else ((F_X6_canAccept z (0) (v1) x3).bind fun r11 => if r11 = 0 then (some (.inr "java/lang/IllegalStateException", x3)) else (F_X7_resolve_30 z (v0) (v1) (v2) x3))
set_option maxHeartbeats 4000000 in
set_option maxRecDepth 20000 in
theorem c_X7_resolve (Θ : GC) (D : Nat → Nat → Prop) (z : Nat) (v0 : Nat) (v1 : Int) (v2 : Int) (x : Mm) (y) (h : F_X7_resolve z v0 v1 v2 x = some y) : Cal Θ mX7_resolve 7 111 2 12 [vr 7 (v0 + 1), vi (v1), vi (v2)] (hq D x) (ThrI D y) := by
  refine Cal.of (by decide +kernel) rfl rfl (Nat.le_of_ble_eq_true rfl) ?_
  show Ev Θ mX7_resolve 7 111 2 12 0 [(0, vr 7 (v0 + 1)), (1, vi (v1)), (2, vi (v2))] [] (hq D x) (ThrI D y)
  unfold F_X7_resolve at h
  refine Ev.aload_n (q := 0) ⟨dX7_resolve_0, rfl⟩ rfl rfl ?_
  refine Ev.iload_n (q := 1) ⟨dX7_resolve_1, rfl⟩ rfl rfl ?_
  rcases bndX_s h with ⟨r2, x3, hv1, h⟩ | ⟨E, x3, hv1, rfl⟩
  rotate_left
  · exact Ev.callVE (mc1 := 1) (ms1 := 6) (h1 := hq D x3) vX7_236 (c_X7_requireConflict Θ D z _ _ _ _ hv1) rfl rfl (by decide) rfl ⟨by decide, by decide, by decide, by decide, Nat.le_of_ble_eq_true rfl⟩ ⟨dX7_resolve_2, rfl⟩ rfl ⟨rfl, rfl⟩
  refine Ev.callVN (mc1 := 1) (ms1 := 6) (h1 := hq D x3) vX7_236 (c_X7_requireConflict Θ D z _ _ _ _ hv1) rfl rfl (by decide) rfl ⟨by decide, by decide, by decide, by decide, Nat.le_of_ble_eq_true rfl⟩ ⟨dX7_resolve_2, rfl⟩ ?_
  clear hv1
  refine Ev.iload_n (q := 2) ⟨dX7_resolve_5, rfl⟩ rfl rfl ?_
  refine Ev.if_eq jX7_resolve_6 (fun hc => ?_) (fun hc => ?_)
  · replace h := (if_pos hc).symm.trans h; clear hc
    exact e_X7_resolve_30 Θ D z _ _ _ _ _ h
  · replace h := (if_neg hc).symm.trans h; clear hc
    refine Ev.aload_n (q := 0) ⟨dX7_resolve_9, rfl⟩ rfl rfl ?_
    refine Ev.getRk (C2 := 6) (r := 0) fX7_10 rfl (by decide) (by decide) ⟨dX7_resolve_10, rfl⟩ ?_
    refine Ev.iload_n (q := 1) ⟨dX7_resolve_13, rfl⟩ rfl rfl ?_
    obtain ⟨r11, hv10, h⟩ := bnd_s h
    refine Ev.callV1 (mc1 := 1) (ms1 := 6) (v := vi r11) (h1 := hq D x3) vX7_239 (c_X6_canAccept Θ D z _ _ _ _ hv10) rfl rfl (by decide) rfl ⟨by decide, by decide, Nat.le_of_eq (Nat.zero_add _), Nat.le_of_eq (Nat.zero_add _), Nat.le_of_ble_eq_true rfl⟩ ⟨dX7_resolve_14, rfl⟩ ?_
    clear hv10
    refine Ev.if_ne jX7_resolve_17 (fun hc => ?_) (fun hc => ?_)
    · replace h := (if_neg hc).symm.trans h; clear hc
      exact e_X7_resolve_30 Θ D z _ _ _ _ _ h
    · replace h := (if_pos hc).symm.trans h; clear hc
      obtain rfl := Option.some.inj h
      exact Ev.throwS eX7_IllegalStateException tX7_242 rfl dX7_resolve_20 dX7_resolve_23 dX7_resolve_24 dX7_resolve_26 dX7_resolve_29 (by decide) (Nat.le_of_ble_eq_true rfl) (by decide) (by decide) ⟨rfl, rfl⟩

def F_X7_advance_52 (z : Nat) (v0 : Nat) (v1 : Int) : Nat → Int → Int → Mm → Option (Int × Mm)
  | 0, _, _, _ => none
  | k + 1, v2, v3, x => if v1 ≤ v3 then (some ((v2, x))) else ((F_X6_passTick z (0) x).bind fun r5 => ckR ((v2 + r5.1)) <| ckR ((v3 + 1)) <| F_X7_advance_52 z v0 v1 k ((v2 + r5.1)) ((v3 + 1)) r5.2)
set_option maxHeartbeats 4000000 in
set_option maxRecDepth 20000 in
theorem e_X7_advance_52 (Θ : GC) (D : Nat → Nat → Prop) (z : Nat) (v0 : Nat) (v1 : Int) (Q : Ro → Hp → Prop) (mc ms : Nat) : ∀ (k : Nat) (v2 : Int) (v3 : Int) (x : Mm) (y), F_X7_advance_52 z v0 v1 k v2 v3 x = some y → (Ev Θ mX7_advance 6 152 mc ms 73 [(0, vr 7 (v0 + 1)), (1, vi (v1)), (2, vi (y.1))] [] (hq D y.2) Q) → Ev Θ mX7_advance 6 152 mc ms 52 [(0, vr 7 (v0 + 1)), (1, vi (v1)), (2, vi (v2)), (3, vi (v3))] [] (hq D x) Q := by
  intro k
  induction k with
  | zero => intro v2 v3 x y h; exact absurd h (by unfold F_X7_advance_52; exact nofun)
  | succ k ih =>
    intro v2 v3 x y h k1
    unfold F_X7_advance_52 at h
    refine Ev.iload_n (q := 3) ⟨dX7_advance_52, rfl⟩ rfl rfl ?_
    refine Ev.iload_n (q := 1) ⟨dX7_advance_53, rfl⟩ rfl rfl ?_
    refine Ev.icmp_ge jX7_advance_54 (fun hc => ?_) (fun hc => ?_)
    · replace h := (if_pos hc).symm.trans h; clear hc
      refine Ev.keep [0, 1, 2] rfl ?_
      obtain rfl := Option.some.inj h
      exact k1
    · replace h := (if_neg hc).symm.trans h; clear hc
      refine Ev.iload_n (q := 2) ⟨dX7_advance_57, rfl⟩ rfl rfl ?_
      refine Ev.aload_n (q := 0) ⟨dX7_advance_58, rfl⟩ rfl rfl ?_
      refine Ev.getRk (C2 := 6) (r := 0) fX7_10 rfl (by decide) (by decide) ⟨dX7_advance_59, rfl⟩ ?_
      obtain ⟨r5, hv4, h⟩ := bnd_s h
      refine Ev.callV1 (mc1 := mc) (ms1 := ms) (v := vi r5.1) (h1 := hq D r5.2) vX7_253 (c_X6_passTick Θ D z _ _ _ hv4) rfl rfl (by decide) rfl ⟨by decide, by decide, Nat.le_of_eq (Nat.zero_add _), Nat.le_of_eq (Nat.zero_add _), Nat.le_of_ble_eq_true rfl⟩ ⟨dX7_advance_62, rfl⟩ ?_
      clear hv4
      obtain ⟨c6, h⟩ := ckR_s h
      refine Ev.iadd ⟨dX7_advance_65, rfl⟩ c6 ?_
      refine Ev.istore_n (i := 2) (ls' := [(0, _), (1, _), (2, _), (3, _)]) ⟨dX7_advance_66, rfl⟩ rfl (by decide) rfl ?_
      obtain ⟨c7, h⟩ := ckR_s h
      refine Ev.iinc (q := 3) (ls' := [(0, _), (1, _), (2, _), (3, _)]) ⟨dX7_advance_67, rfl⟩ rfl (by decide) c7 rfl ?_
      refine Ev.goto jX7_advance_70 ?_
      exact ih _ _ _ _ h k1
def F_X7_advance (z : Nat) (v0 : Nat) (v1 : Int) (x : Mm) : Option ((Int ⊕ String) × Mm) := if v1 < (1 : Int) then (some (.inr "java/lang/IllegalArgumentException", x)) else (if (200 : Int) < v1 then (some (.inr "java/lang/IllegalArgumentException", x)) else (ckR (((x.1 6 0 0) + v1)) <| if ((x.1 6 0 0) + v1) ≤ (9999 : Int) then ((F_X2_push z (0) (0) x).bind fun r3 => (F_X7_advance_52 z (v0) (v1) z ((0 : Int)) ((0 : Int)) r3).bind fun s8 => some ((.inl s8.1, s8.2))) else (some (.inr "java/lang/IllegalArgumentException", x))))
set_option maxHeartbeats 4000000 in
set_option maxRecDepth 20000 in
theorem c_X7_advance (Θ : GC) (D : Nat → Nat → Prop) (z : Nat) (v0 : Nat) (v1 : Int) (x : Mm) (y) (h : F_X7_advance z v0 v1 x = some y) : Cal Θ mX7_advance 6 152 1 6 [vr 7 (v0 + 1), vi (v1)] (hq D x) (ThrI D y) := by
  refine Cal.of (by decide +kernel) rfl rfl (Nat.le_of_ble_eq_true rfl) ?_
  show Ev Θ mX7_advance 6 152 1 6 0 [(0, vr 7 (v0 + 1)), (1, vi (v1))] [] (hq D x) (ThrI D y)
  unfold F_X7_advance at h
  refine Ev.iload_n (q := 1) ⟨dX7_advance_0, rfl⟩ rfl rfl ?_
  refine Ev.iconst ⟨dX7_advance_1, rfl⟩ (inRd rfl) ?_
  refine Ev.icmp_lt jX7_advance_2 (fun hc => ?_) (fun hc => ?_)
  · replace h := (if_pos hc).symm.trans h; clear hc
    obtain rfl := Option.some.inj h
    exact Ev.throwS eX7_IllegalArgumentException tX7_251 rfl dX7_advance_27 dX7_advance_30 dX7_advance_31 dX7_advance_33 dX7_advance_36 (by decide) (Nat.le_of_ble_eq_true rfl) (by decide) (by decide) ⟨rfl, rfl⟩
  · replace h := (if_neg hc).symm.trans h; clear hc
    refine Ev.iload_n (q := 1) ⟨dX7_advance_5, rfl⟩ rfl rfl ?_
    refine Ev.sipush ⟨dX7_advance_6, rfl⟩ (inRd rfl) (by decide) ?_
    refine Ev.icmp_gt jX7_advance_9 (fun hc => ?_) (fun hc => ?_)
    · replace h := (if_pos hc).symm.trans h; clear hc
      obtain rfl := Option.some.inj h
      exact Ev.throwS eX7_IllegalArgumentException tX7_251 rfl dX7_advance_27 dX7_advance_30 dX7_advance_31 dX7_advance_33 dX7_advance_36 (by decide) (Nat.le_of_ble_eq_true rfl) (by decide) (by decide) ⟨rfl, rfl⟩
    · replace h := (if_neg hc).symm.trans h; clear hc
      refine Ev.aload_n (q := 0) ⟨dX7_advance_12, rfl⟩ rfl rfl ?_
      refine Ev.getRk (C2 := 6) (r := 0) fX7_10 rfl (by decide) (by decide) ⟨dX7_advance_13, rfl⟩ ?_
      refine Ev.getI fX7_151 (Or.inl rfl) ⟨dX7_advance_16, rfl⟩ ?_
      refine Ev.iload_n (q := 1) ⟨dX7_advance_19, rfl⟩ rfl rfl ?_
      obtain ⟨c1, h⟩ := ckR_s h
      refine Ev.iadd ⟨dX7_advance_20, rfl⟩ c1 ?_
      refine Ev.sipush ⟨dX7_advance_21, rfl⟩ (inRd rfl) (by decide) ?_
      refine Ev.icmp_le jX7_advance_24 (fun hc => ?_) (fun hc => ?_)
      · replace h := (if_pos hc).symm.trans h; clear hc
        refine Ev.aload_n (q := 0) ⟨dX7_advance_37, rfl⟩ rfl rfl ?_
        refine Ev.getRk (C2 := 2) (r := 0) fX7_22 rfl (by decide) (by decide) ⟨dX7_advance_38, rfl⟩ ?_
        refine Ev.aload_n (q := 0) ⟨dX7_advance_41, rfl⟩ rfl rfl ?_
        refine Ev.getRk (C2 := 6) (r := 0) fX7_10 rfl (by decide) (by decide) ⟨dX7_advance_42, rfl⟩ ?_
        obtain ⟨r3, hv2, h⟩ := bnd_s h
        refine Ev.callVN (mc1 := 1) (ms1 := 6) (h1 := hq D r3) vX7_141 (c_X2_push Θ D z _ _ _ _ hv2) rfl rfl (by decide) rfl ⟨by decide, by decide, Nat.le_of_eq (Nat.zero_add _), Nat.le_of_eq (Nat.zero_add _), Nat.le_of_ble_eq_true rfl⟩ ⟨dX7_advance_45, rfl⟩ ?_
        clear hv2
        refine Ev.iconst ⟨dX7_advance_48, rfl⟩ (inRd rfl) ?_
        refine Ev.istore_n (i := 2) (ls' := [(0, _), (1, _), (2, _)]) ⟨dX7_advance_49, rfl⟩ rfl (by decide) rfl ?_
        refine Ev.iconst ⟨dX7_advance_50, rfl⟩ (inRd rfl) ?_
        refine Ev.istore_n (i := 3) (ls' := [(0, _), (1, _), (2, _), (3, _)]) ⟨dX7_advance_51, rfl⟩ rfl (by decide) rfl ?_
        obtain ⟨s8, hl, h⟩ := bnd_s h
        refine e_X7_advance_52 Θ D z _ _ _ _ _ _ _ _ _ _ hl ?_
        clear hl
        refine Ev.iload_n (q := 2) ⟨dX7_advance_73, rfl⟩ rfl rfl ?_
        obtain rfl := Option.some.inj h
        exact Ev.ireturn (ty := .int) ⟨dX7_advance_74, rfl⟩ rfl rfl ⟨rfl, rfl⟩
      · replace h := (if_neg hc).symm.trans h; clear hc
        obtain rfl := Option.some.inj h
        exact Ev.throwS eX7_IllegalArgumentException tX7_251 rfl dX7_advance_27 dX7_advance_30 dX7_advance_31 dX7_advance_33 dX7_advance_36 (by decide) (Nat.le_of_ble_eq_true rfl) (by decide) (by decide) ⟨rfl, rfl⟩

def F_X7_undo (z : Nat) (v0 : Nat) (x : Mm) : Option ((Int ⊕ String) × Mm) := if (x.1 2 0 0) = 0 then (some (.inr "java/lang/IllegalStateException", x)) else ((F_X2_popInto z (0) (0) x).bind fun r2 => some ((.inl (r2.1 2 0 0), r2)))
set_option maxHeartbeats 4000000 in
set_option maxRecDepth 20000 in
theorem c_X7_undo (Θ : GC) (D : Nat → Nat → Prop) (z : Nat) (v0 : Nat) (x : Mm) (y) (h : F_X7_undo z v0 x = some y) : Cal Θ mX7_undo 6 111 1 6 [vr 7 (v0 + 1)] (hq D x) (ThrI D y) := by
  refine Cal.of (by decide +kernel) rfl rfl (Nat.le_of_ble_eq_true rfl) ?_
  show Ev Θ mX7_undo 6 111 1 6 0 [(0, vr 7 (v0 + 1))] [] (hq D x) (ThrI D y)
  unfold F_X7_undo at h
  refine Ev.aload_n (q := 0) ⟨dX7_undo_0, rfl⟩ rfl rfl ?_
  refine Ev.getRk (C2 := 2) (r := 0) fX7_22 rfl (by decide) (by decide) ⟨dX7_undo_1, rfl⟩ ?_
  refine Ev.getI fX7_256 (Or.inl rfl) ⟨dX7_undo_4, rfl⟩ ?_
  refine Ev.if_ne jX7_undo_7 (fun hc => ?_) (fun hc => ?_)
  · replace h := (if_neg hc).symm.trans h; clear hc
    refine Ev.aload_n (q := 0) ⟨dX7_undo_21, rfl⟩ rfl rfl ?_
    refine Ev.getRk (C2 := 2) (r := 0) fX7_22 rfl (by decide) (by decide) ⟨dX7_undo_22, rfl⟩ ?_
    refine Ev.aload_n (q := 0) ⟨dX7_undo_25, rfl⟩ rfl rfl ?_
    refine Ev.getRk (C2 := 6) (r := 0) fX7_10 rfl (by decide) (by decide) ⟨dX7_undo_26, rfl⟩ ?_
    obtain ⟨r2, hv1, h⟩ := bnd_s h
    refine Ev.callVN (mc1 := 1) (ms1 := 6) (h1 := hq D r2) vX7_259 (c_X2_popInto Θ D z _ _ _ _ hv1) rfl rfl (by decide) rfl ⟨by decide, by decide, Nat.le_of_eq (Nat.zero_add _), Nat.le_of_eq (Nat.zero_add _), Nat.le_of_ble_eq_true rfl⟩ ⟨dX7_undo_29, rfl⟩ ?_
    clear hv1
    refine Ev.aload_n (q := 0) ⟨dX7_undo_32, rfl⟩ rfl rfl ?_
    refine Ev.getRk (C2 := 2) (r := 0) fX7_22 rfl (by decide) (by decide) ⟨dX7_undo_33, rfl⟩ ?_
    refine Ev.getI fX7_256 (Or.inl rfl) ⟨dX7_undo_36, rfl⟩ ?_
    obtain rfl := Option.some.inj h
    exact Ev.ireturn (ty := .int) ⟨dX7_undo_39, rfl⟩ rfl rfl ⟨rfl, rfl⟩
  · replace h := (if_pos hc).symm.trans h; clear hc
    obtain rfl := Option.some.inj h
    exact Ev.throwSW eX7_IllegalStateException tX7_257 rfl dX7_undo_10 dX7_undo_13 dX7_undo_14 dX7_undo_17 dX7_undo_20 (by decide) (Nat.le_of_ble_eq_true rfl) (by decide) (by decide) ⟨rfl, rfl⟩

def F_X7_undoCount (z : Nat) (v0 : Nat) (x : Mm) : Option (Int) := some ((x.1 2 0 0))
set_option maxHeartbeats 4000000 in
set_option maxRecDepth 20000 in
theorem c_X7_undoCount (Θ : GC) (D : Nat → Nat → Prop) (z : Nat) (v0 : Nat) (x : Mm) (y) (h : F_X7_undoCount z v0 x = some y) : Cal Θ mX7_undoCount 0 0 0 0 [vr 7 (v0 + 1)] (hq D x) (Ret (vi y) (hq D x)) := by
  refine Cal.of (by decide +kernel) rfl rfl (Nat.le_of_ble_eq_true rfl) ?_
  show Ev Θ mX7_undoCount 0 0 0 0 0 [(0, vr 7 (v0 + 1))] [] (hq D x) (Ret (vi y) (hq D x))
  unfold F_X7_undoCount at h
  refine Ev.aload_n (q := 0) ⟨dX7_undoCount_0, rfl⟩ rfl rfl ?_
  refine Ev.getRk (C2 := 2) (r := 0) fX7_22 rfl (by decide) (by decide) ⟨dX7_undoCount_1, rfl⟩ ?_
  refine Ev.getI fX7_256 (Or.inl rfl) ⟨dX7_undoCount_4, rfl⟩ ?_
  obtain rfl := Option.some.inj h
  exact Ev.ireturn (ty := .int) ⟨dX7_undoCount_7, rfl⟩ rfl rfl ⟨rfl, rfl⟩

def F_X7_save (z : Nat) (v0 : Nat) (x : Mm) : Option (Int × Mm) := (F_X6_copyFrom z (1) (0) x).bind fun r2 => (some (wI r2 7 v0 2 ((1 : Int)))).bind fun x3 => some (((x3.1 6 0 0), x3))
set_option maxHeartbeats 4000000 in
set_option maxRecDepth 20000 in
theorem c_X7_save (Θ : GC) (D : Nat → Nat → Prop) (z : Nat) (v0 : Nat) (x : Mm) (y) (h : F_X7_save z v0 x = some y) : Cal Θ mX7_save 4 90 0 0 [vr 7 (v0 + 1)] (hq D x) (Ret (vi y.1) (hq D y.2)) := by
  refine Cal.of (by decide +kernel) rfl rfl (Nat.le_of_ble_eq_true rfl) ?_
  show Ev Θ mX7_save 4 90 0 0 0 [(0, vr 7 (v0 + 1))] [] (hq D x) (Ret (vi y.1) (hq D y.2))
  unfold F_X7_save at h
  refine Ev.aload_n (q := 0) ⟨dX7_save_0, rfl⟩ rfl rfl ?_
  refine Ev.getRk (C2 := 6) (r := 1) fX7_16 rfl (by decide) (by decide) ⟨dX7_save_1, rfl⟩ ?_
  refine Ev.aload_n (q := 0) ⟨dX7_save_4, rfl⟩ rfl rfl ?_
  refine Ev.getRk (C2 := 6) (r := 0) fX7_10 rfl (by decide) (by decide) ⟨dX7_save_5, rfl⟩ ?_
  obtain ⟨r2, hv1, h⟩ := bnd_s h
  refine Ev.callVN (mc1 := 0) (ms1 := 0) (h1 := hq D r2) vX7_86 (c_X6_copyFrom Θ D z _ _ _ _ hv1) rfl rfl (by decide) rfl ⟨by decide, by decide, Nat.le_of_eq (Nat.zero_add _), Nat.le_of_eq (Nat.zero_add _), Nat.le_of_ble_eq_true rfl⟩ ⟨dX7_save_8, rfl⟩ ?_
  clear hv1
  refine Ev.aload_n (q := 0) ⟨dX7_save_11, rfl⟩ rfl rfl ?_
  refine Ev.iconst ⟨dX7_save_12, rfl⟩ (inRd rfl) ?_
  obtain ⟨x3, ex, h⟩ := bnd_s h
  refine Ev.putZ fX7_93 (by decide) ⟨dX7_save_13, rfl⟩ ?_
  refine Ev.cast ?_ rfl rfl (hqI ex)
  clear ex
  refine Ev.aload_n (q := 0) ⟨dX7_save_16, rfl⟩ rfl rfl ?_
  refine Ev.getRk (C2 := 6) (r := 0) fX7_10 rfl (by decide) (by decide) ⟨dX7_save_17, rfl⟩ ?_
  refine Ev.getI fX7_151 (Or.inl rfl) ⟨dX7_save_20, rfl⟩ ?_
  obtain rfl := Option.some.inj h
  exact Ev.ireturn (ty := .int) ⟨dX7_save_23, rfl⟩ rfl rfl ⟨rfl, rfl⟩

def F_X7_restore (z : Nat) (v0 : Nat) (x : Mm) : Option ((Int ⊕ String) × Mm) := if (x.1 7 v0 2) = 0 then (some (.inr "java/lang/IllegalStateException", x)) else ((F_X6_copyFrom z (0) (1) x).bind fun r2 => (F_X2_forget z (0) r2).bind fun r4 => some ((.inl (r4.1 6 0 0), r4)))
set_option maxHeartbeats 4000000 in
set_option maxRecDepth 20000 in
theorem c_X7_restore (Θ : GC) (D : Nat → Nat → Prop) (z : Nat) (v0 : Nat) (x : Mm) (y) (h : F_X7_restore z v0 x = some y) : Cal Θ mX7_restore 6 90 1 6 [vr 7 (v0 + 1)] (hq D x) (ThrI D y) := by
  refine Cal.of (by decide +kernel) rfl rfl (Nat.le_of_ble_eq_true rfl) ?_
  show Ev Θ mX7_restore 6 90 1 6 0 [(0, vr 7 (v0 + 1))] [] (hq D x) (ThrI D y)
  unfold F_X7_restore at h
  refine Ev.aload_n (q := 0) ⟨dX7_restore_0, rfl⟩ rfl rfl ?_
  refine Ev.getI fX7_93 (Or.inr rfl) ⟨dX7_restore_1, rfl⟩ ?_
  refine Ev.if_ne jX7_restore_4 (fun hc => ?_) (fun hc => ?_)
  · replace h := (if_neg hc).symm.trans h; clear hc
    refine Ev.aload_n (q := 0) ⟨dX7_restore_18, rfl⟩ rfl rfl ?_
    refine Ev.getRk (C2 := 6) (r := 0) fX7_10 rfl (by decide) (by decide) ⟨dX7_restore_19, rfl⟩ ?_
    refine Ev.aload_n (q := 0) ⟨dX7_restore_22, rfl⟩ rfl rfl ?_
    refine Ev.getRk (C2 := 6) (r := 1) fX7_16 rfl (by decide) (by decide) ⟨dX7_restore_23, rfl⟩ ?_
    obtain ⟨r2, hv1, h⟩ := bnd_s h
    refine Ev.callVN (mc1 := 1) (ms1 := 6) (h1 := hq D r2) vX7_86 (c_X6_copyFrom Θ D z _ _ _ _ hv1) rfl rfl (by decide) rfl ⟨by decide, by decide, Nat.le_of_eq (Nat.zero_add _), Nat.le_of_eq (Nat.zero_add _), Nat.le_of_ble_eq_true rfl⟩ ⟨dX7_restore_26, rfl⟩ ?_
    clear hv1
    refine Ev.aload_n (q := 0) ⟨dX7_restore_29, rfl⟩ rfl rfl ?_
    refine Ev.getRk (C2 := 2) (r := 0) fX7_22 rfl (by decide) (by decide) ⟨dX7_restore_30, rfl⟩ ?_
    obtain ⟨r4, hv3, h⟩ := bnd_s h
    refine Ev.callVN (mc1 := 1) (ms1 := 6) (h1 := hq D r4) vX7_90 (c_X2_forget Θ D z _ _ _ hv3) rfl rfl (by decide) rfl ⟨by decide, by decide, Nat.le_of_eq (Nat.zero_add _), Nat.le_of_eq (Nat.zero_add _), Nat.le_of_ble_eq_true rfl⟩ ⟨dX7_restore_33, rfl⟩ ?_
    clear hv3
    refine Ev.aload_n (q := 0) ⟨dX7_restore_36, rfl⟩ rfl rfl ?_
    refine Ev.getRk (C2 := 6) (r := 0) fX7_10 rfl (by decide) (by decide) ⟨dX7_restore_37, rfl⟩ ?_
    refine Ev.getI fX7_151 (Or.inl rfl) ⟨dX7_restore_40, rfl⟩ ?_
    obtain rfl := Option.some.inj h
    exact Ev.ireturn (ty := .int) ⟨dX7_restore_43, rfl⟩ rfl rfl ⟨rfl, rfl⟩
  · replace h := (if_pos hc).symm.trans h; clear hc
    obtain rfl := Option.some.inj h
    exact Ev.throwSW eX7_IllegalStateException tX7_262 rfl dX7_restore_7 dX7_restore_10 dX7_restore_11 dX7_restore_14 dX7_restore_17 (by decide) (Nat.le_of_ble_eq_true rfl) (by decide) (by decide) ⟨rfl, rfl⟩

def F_X7_tick (z : Nat) (v0 : Nat) (x : Mm) : Option (Int) := some ((x.1 6 0 0))
set_option maxHeartbeats 4000000 in
set_option maxRecDepth 20000 in
theorem c_X7_tick (Θ : GC) (D : Nat → Nat → Prop) (z : Nat) (v0 : Nat) (x : Mm) (y) (h : F_X7_tick z v0 x = some y) : Cal Θ mX7_tick 0 0 0 0 [vr 7 (v0 + 1)] (hq D x) (Ret (vi y) (hq D x)) := by
  refine Cal.of (by decide +kernel) rfl rfl (Nat.le_of_ble_eq_true rfl) ?_
  show Ev Θ mX7_tick 0 0 0 0 0 [(0, vr 7 (v0 + 1))] [] (hq D x) (Ret (vi y) (hq D x))
  unfold F_X7_tick at h
  refine Ev.aload_n (q := 0) ⟨dX7_tick_0, rfl⟩ rfl rfl ?_
  refine Ev.getRk (C2 := 6) (r := 0) fX7_10 rfl (by decide) (by decide) ⟨dX7_tick_1, rfl⟩ ?_
  refine Ev.getI fX7_151 (Or.inl rfl) ⟨dX7_tick_4, rfl⟩ ?_
  obtain rfl := Option.some.inj h
  exact Ev.ireturn (ty := .int) ⟨dX7_tick_7, rfl⟩ rfl rfl ⟨rfl, rfl⟩

def F_X7_setup (z : Nat) (v0 : Nat) (v1 : Int) (x : Mm) : Option ((Int ⊕ String) × Mm) := if v1 = 0 then (some ((.inl (x.1 6 0 1), x))) else if v1 = 1 then (some ((.inl (x.1 6 0 2), x))) else (some (.inr "java/lang/IllegalArgumentException", x))
set_option maxHeartbeats 4000000 in
set_option maxRecDepth 20000 in
theorem c_X7_setup (Θ : GC) (D : Nat → Nat → Prop) (z : Nat) (v0 : Nat) (v1 : Int) (x : Mm) (y) (h : F_X7_setup z v0 v1 x = some y) : Cal Θ mX7_setup 6 90 1 6 [vr 7 (v0 + 1), vi (v1)] (hq D x) (ThrI D y) := by
  refine Cal.of (by decide +kernel) rfl rfl (Nat.le_of_ble_eq_true rfl) ?_
  show Ev Θ mX7_setup 6 90 1 6 0 [(0, vr 7 (v0 + 1)), (1, vi (v1))] [] (hq D x) (ThrI D y)
  unfold F_X7_setup at h
  refine Ev.iload_n (q := 1) ⟨dX7_setup_0, rfl⟩ rfl rfl ?_
  show Ev _ _ _ _ _ _ _ _ (vi (v1) :: _) _ _
  by_cases hk : v1 = 0
  · replace h := (if_pos hk).symm.trans h
    refine Ev.lsw (tg := 28) (off := 27) dX7_setup_1 (by decide) (by rw [hk]; decide) (by decide) ?_
    clear hk
    refine Ev.aload_n (q := 0) ⟨dX7_setup_28, rfl⟩ rfl rfl ?_
    refine Ev.getRk (C2 := 6) (r := 0) fX7_10 rfl (by decide) (by decide) ⟨dX7_setup_29, rfl⟩ ?_
    refine Ev.getI fX7_264 (Or.inl rfl) ⟨dX7_setup_32, rfl⟩ ?_
    obtain rfl := Option.some.inj h
    exact Ev.ireturn (ty := .int) ⟨dX7_setup_35, rfl⟩ rfl rfl ⟨rfl, rfl⟩
  replace h := (if_neg hk).symm.trans h
  have hn0 := hk; clear hk
  by_cases hk : v1 = 1
  · replace h := (if_pos hk).symm.trans h
    refine Ev.lsw (tg := 36) (off := 35) dX7_setup_1 (by decide) (by rw [hk]; decide) (by decide) ?_
    clear hk
    refine Ev.aload_n (q := 0) ⟨dX7_setup_36, rfl⟩ rfl rfl ?_
    refine Ev.getRk (C2 := 6) (r := 0) fX7_10 rfl (by decide) (by decide) ⟨dX7_setup_37, rfl⟩ ?_
    refine Ev.getI fX7_267 (Or.inl rfl) ⟨dX7_setup_40, rfl⟩ ?_
    obtain rfl := Option.some.inj h
    exact Ev.ireturn (ty := .int) ⟨dX7_setup_43, rfl⟩ rfl rfl ⟨rfl, rfl⟩
  replace h := (if_neg hk).symm.trans h
  have hn1 := hk; clear hk
  refine Ev.lsw (tg := 44) dX7_setup_1 (by decide) (off := 43) (by simp [Op.lookupswitch.offset, hn0, (show ¬ (0 : Int) = v1 from fun e => hn0 e.symm), hn1, (show ¬ (1 : Int) = v1 from fun e => hn1 e.symm)]) (by decide) ?_
  clear hn0 hn1
  obtain rfl := Option.some.inj h
  exact Ev.throwSW eX7_IllegalArgumentException tX7_270 rfl dX7_setup_44 dX7_setup_47 dX7_setup_48 dX7_setup_51 dX7_setup_54 (by decide) (Nat.le_of_ble_eq_true rfl) (by decide) (by decide) ⟨rfl, rfl⟩

def F_X7_rule (z : Nat) (v0 : Nat) (v1 : Int) (x : Mm) : Option ((Int ⊕ String) × Mm) := bndX (F_X7_requireField z (v0) (v1) x) fun r2 x3 => ckI v1 6 <| some ((.inl (x3.1 20 0 (v1).toNat), x3))
set_option maxHeartbeats 4000000 in
set_option maxRecDepth 20000 in
theorem c_X7_rule (Θ : GC) (D : Nat → Nat → Prop) (z : Nat) (v0 : Nat) (v1 : Int) (x : Mm) (y) (h : F_X7_rule z v0 v1 x = some y) : Cal Θ mX7_rule 7 111 1 6 [vr 7 (v0 + 1), vi (v1)] (hq D x) (ThrI D y) := by
  refine Cal.of (by decide +kernel) rfl rfl (Nat.le_of_ble_eq_true rfl) ?_
  show Ev Θ mX7_rule 7 111 1 6 0 [(0, vr 7 (v0 + 1)), (1, vi (v1))] [] (hq D x) (ThrI D y)
  unfold F_X7_rule at h
  refine Ev.aload_n (q := 0) ⟨dX7_rule_0, rfl⟩ rfl rfl ?_
  refine Ev.iload_n (q := 1) ⟨dX7_rule_1, rfl⟩ rfl rfl ?_
  rcases bndX_s h with ⟨r2, x3, hv1, h⟩ | ⟨E, x3, hv1, rfl⟩
  rotate_left
  · exact Ev.callVE (mc1 := 0) (ms1 := 0) (h1 := hq D x3) vX7_159 (c_X7_requireField Θ D z _ _ _ _ hv1) rfl rfl (by decide) rfl ⟨by decide, by decide, by decide, by decide, Nat.le_of_ble_eq_true rfl⟩ ⟨dX7_rule_2, rfl⟩ rfl ⟨rfl, rfl⟩
  refine Ev.callVN (mc1 := 0) (ms1 := 0) (h1 := hq D x3) vX7_159 (c_X7_requireField Θ D z _ _ _ _ hv1) rfl rfl (by decide) rfl ⟨by decide, by decide, by decide, by decide, Nat.le_of_ble_eq_true rfl⟩ ⟨dX7_rule_2, rfl⟩ ?_
  clear hv1
  refine Ev.aload_n (q := 0) ⟨dX7_rule_5, rfl⟩ rfl rfl ?_
  refine Ev.getRk (C2 := 6) (r := 0) fX7_10 rfl (by decide) (by decide) ⟨dX7_rule_6, rfl⟩ ?_
  refine Ev.getRk (C2 := 20) (r := 0) fX7_272 rfl (by decide) (by decide) ⟨dX7_rule_9, rfl⟩ ?_
  refine Ev.iload_n (q := 1) ⟨dX7_rule_12, rfl⟩ rfl rfl ?_
  obtain ⟨c4, h⟩ := ckI_s h
  refine Ev.iaload (by decide) c4.1 c4.2 ⟨dX7_rule_13, rfl⟩ ?_
  obtain rfl := Option.some.inj h
  exact Ev.ireturn (ty := .int) ⟨dX7_rule_14, rfl⟩ rfl rfl ⟨rfl, rfl⟩

def F_X7_nodeCount (z : Nat) (v0 : Nat) (x : Mm) : Option (Int) := some ((x.1 4 0 0))
set_option maxHeartbeats 4000000 in
set_option maxRecDepth 20000 in
theorem c_X7_nodeCount (Θ : GC) (D : Nat → Nat → Prop) (z : Nat) (v0 : Nat) (x : Mm) (y) (h : F_X7_nodeCount z v0 x = some y) : Cal Θ mX7_nodeCount 0 0 0 0 [vr 7 (v0 + 1)] (hq D x) (Ret (vi y) (hq D x)) := by
  refine Cal.of (by decide +kernel) rfl rfl (Nat.le_of_ble_eq_true rfl) ?_
  show Ev Θ mX7_nodeCount 0 0 0 0 0 [(0, vr 7 (v0 + 1))] [] (hq D x) (Ret (vi y) (hq D x))
  unfold F_X7_nodeCount at h
  refine Ev.aload_n (q := 0) ⟨dX7_nodeCount_0, rfl⟩ rfl rfl ?_
  refine Ev.getRk (C2 := 6) (r := 0) fX7_10 rfl (by decide) (by decide) ⟨dX7_nodeCount_1, rfl⟩ ?_
  refine Ev.getRk (C2 := 4) (r := 0) fX7_97 rfl (by decide) (by decide) ⟨dX7_nodeCount_4, rfl⟩ ?_
  refine Ev.getI fX7_101 (Or.inl rfl) ⟨dX7_nodeCount_7, rfl⟩ ?_
  obtain rfl := Option.some.inj h
  exact Ev.ireturn (ty := .int) ⟨dX7_nodeCount_10, rfl⟩ rfl rfl ⟨rfl, rfl⟩

def F_X7_node (z : Nat) (v0 : Nat) (v1 : Int) (v2 : Int) (x : Mm) : Option ((Int ⊕ String) × Mm) := bndX (F_X7_requireNode z (v0) (v1) x) fun r2 x3 => if v2 = 0 then (ckI v1 60 <| some ((.inl (x3.1 21 0 (v1).toNat), x3))) else if v2 = 1 then (ckI v1 60 <| some ((.inl (x3.1 22 0 (v1).toNat), x3))) else if v2 = 2 then ((F_X7_contains z ((x3.2 4 0 1)) (v1) x3).bind fun r7 => if r7 = 0 then (some ((.inl (0 : Int), x3))) else (some ((.inl (1 : Int), x3)))) else if v2 = 3 then ((F_X0_has z ((3 * 0)) (v1) x3).bind fun r9 => if r9 = 0 then (some ((.inl (0 : Int), x3))) else (some ((.inl (1 : Int), x3)))) else if v2 = 4 then (ckI v1 60 <| ckR (((pcnt (x3.2 30 0 (v1).toNat)) - (1 : Int))) <| some ((.inl ((pcnt (x3.2 30 0 (v1).toNat)) - (1 : Int)), x3))) else (some (.inr "java/lang/IllegalArgumentException", x3))
set_option maxHeartbeats 4000000 in
set_option maxRecDepth 20000 in
theorem c_X7_node (Θ : GC) (D : Nat → Nat → Prop) (z : Nat) (v0 : Nat) (v1 : Int) (v2 : Int) (x : Mm) (y) (h : F_X7_node z v0 v1 v2 x = some y) : Cal Θ mX7_node 7 111 2 12 [vr 7 (v0 + 1), vi (v1), vi (v2)] (hq D x) (ThrI D y) := by
  refine Cal.of (by decide +kernel) rfl rfl (Nat.le_of_ble_eq_true rfl) ?_
  show Ev Θ mX7_node 7 111 2 12 0 [(0, vr 7 (v0 + 1)), (1, vi (v1)), (2, vi (v2))] [] (hq D x) (ThrI D y)
  unfold F_X7_node at h
  refine Ev.aload_n (q := 0) ⟨dX7_node_0, rfl⟩ rfl rfl ?_
  refine Ev.iload_n (q := 1) ⟨dX7_node_1, rfl⟩ rfl rfl ?_
  rcases bndX_s h with ⟨r2, x3, hv1, h⟩ | ⟨E, x3, hv1, rfl⟩
  rotate_left
  · exact Ev.callVE (mc1 := 1) (ms1 := 6) (h1 := hq D x3) vX7_109 (c_X7_requireNode Θ D z _ _ _ _ hv1) rfl rfl (by decide) rfl ⟨by decide, by decide, by decide, by decide, Nat.le_of_ble_eq_true rfl⟩ ⟨dX7_node_2, rfl⟩ rfl ⟨rfl, rfl⟩
  refine Ev.callVN (mc1 := 1) (ms1 := 6) (h1 := hq D x3) vX7_109 (c_X7_requireNode Θ D z _ _ _ _ hv1) rfl rfl (by decide) rfl ⟨by decide, by decide, by decide, by decide, Nat.le_of_ble_eq_true rfl⟩ ⟨dX7_node_2, rfl⟩ ?_
  clear hv1
  refine Ev.iload_n (q := 2) ⟨dX7_node_5, rfl⟩ rfl rfl ?_
  show Ev _ _ _ _ _ _ _ _ (vi (v2) :: _) _ _
  by_cases hk : v2 = 0
  · replace h := (if_pos hk).symm.trans h
    refine Ev.tswIn (tg := 40) (off := 34) dX7_node_6 (by omega) (by omega) (by rw [hk]; rfl) (by decide) ?_
    clear hk
    refine Ev.aload_n (q := 0) ⟨dX7_node_40, rfl⟩ rfl rfl ?_
    refine Ev.getRk (C2 := 6) (r := 0) fX7_10 rfl (by decide) (by decide) ⟨dX7_node_41, rfl⟩ ?_
    refine Ev.getRk (C2 := 4) (r := 0) fX7_97 rfl (by decide) (by decide) ⟨dX7_node_44, rfl⟩ ?_
    refine Ev.getRk (C2 := 21) (r := 0) fX7_276 rfl (by decide) (by decide) ⟨dX7_node_47, rfl⟩ ?_
    refine Ev.iload_n (q := 1) ⟨dX7_node_50, rfl⟩ rfl rfl ?_
    obtain ⟨c4, h⟩ := ckI_s h
    refine Ev.iaload (by decide) c4.1 c4.2 ⟨dX7_node_51, rfl⟩ ?_
    obtain rfl := Option.some.inj h
    exact Ev.ireturn (ty := .int) ⟨dX7_node_52, rfl⟩ rfl rfl ⟨rfl, rfl⟩
  replace h := (if_neg hk).symm.trans h
  have hn0 := hk; clear hk
  by_cases hk : v2 = 1
  · replace h := (if_pos hk).symm.trans h
    refine Ev.tswIn (tg := 53) (off := 47) dX7_node_6 (by omega) (by omega) (by rw [hk]; rfl) (by decide) ?_
    clear hk
    refine Ev.aload_n (q := 0) ⟨dX7_node_53, rfl⟩ rfl rfl ?_
    refine Ev.getRk (C2 := 6) (r := 0) fX7_10 rfl (by decide) (by decide) ⟨dX7_node_54, rfl⟩ ?_
    refine Ev.getRk (C2 := 4) (r := 0) fX7_97 rfl (by decide) (by decide) ⟨dX7_node_57, rfl⟩ ?_
    refine Ev.getRk (C2 := 22) (r := 0) fX7_279 rfl (by decide) (by decide) ⟨dX7_node_60, rfl⟩ ?_
    refine Ev.iload_n (q := 1) ⟨dX7_node_63, rfl⟩ rfl rfl ?_
    obtain ⟨c5, h⟩ := ckI_s h
    refine Ev.iaload (by decide) c5.1 c5.2 ⟨dX7_node_64, rfl⟩ ?_
    obtain rfl := Option.some.inj h
    exact Ev.ireturn (ty := .int) ⟨dX7_node_65, rfl⟩ rfl rfl ⟨rfl, rfl⟩
  replace h := (if_neg hk).symm.trans h
  have hn1 := hk; clear hk
  by_cases hk : v2 = 2
  · replace h := (if_pos hk).symm.trans h
    refine Ev.tswIn (tg := 66) (off := 60) dX7_node_6 (by omega) (by omega) (by rw [hk]; rfl) (by decide) ?_
    clear hk
    refine Ev.aload_n (q := 0) ⟨dX7_node_66, rfl⟩ rfl rfl ?_
    refine Ev.getRk (C2 := 6) (r := 0) fX7_10 rfl (by decide) (by decide) ⟨dX7_node_67, rfl⟩ ?_
    refine Ev.getRk (C2 := 4) (r := 0) fX7_97 rfl (by decide) (by decide) ⟨dX7_node_70, rfl⟩ ?_
    refine Ev.getL fX7_170 ⟨dX7_node_73, rfl⟩ ?_
    refine Ev.iload_n (q := 1) ⟨dX7_node_76, rfl⟩ rfl rfl ?_
    obtain ⟨r7, hv6, h⟩ := bnd_s h
    refine Ev.callS1 (mc1 := 1) (ms1 := 6) (v := vi r7) (h1 := hq D x3) sX7_174 (c_X7_contains Θ D z _ _ _ _ hv6) rfl rfl ⟨by decide, by decide, Nat.le_of_eq (Nat.zero_add _), Nat.le_of_eq (Nat.zero_add _), Nat.le_of_ble_eq_true rfl⟩ ⟨dX7_node_77, rfl⟩ ?_
    clear hv6
    refine Ev.if_eq jX7_node_80 (fun hc => ?_) (fun hc => ?_)
    · replace h := (if_pos hc).symm.trans h; clear hc
      refine Ev.iconst ⟨dX7_node_87, rfl⟩ (inRd rfl) ?_
      obtain rfl := Option.some.inj h
      exact Ev.ireturn (ty := .int) ⟨dX7_node_88, rfl⟩ rfl rfl ⟨rfl, rfl⟩
    · replace h := (if_neg hc).symm.trans h; clear hc
      refine Ev.iconst ⟨dX7_node_83, rfl⟩ (inRd rfl) ?_
      refine Ev.goto jX7_node_84 ?_
      obtain rfl := Option.some.inj h
      exact Ev.ireturn (ty := .int) ⟨dX7_node_88, rfl⟩ rfl rfl ⟨rfl, rfl⟩
  replace h := (if_neg hk).symm.trans h
  have hn2 := hk; clear hk
  by_cases hk : v2 = 3
  · replace h := (if_pos hk).symm.trans h
    refine Ev.tswIn (tg := 89) (off := 83) dX7_node_6 (by omega) (by omega) (by rw [hk]; rfl) (by decide) ?_
    clear hk
    refine Ev.aload_n (q := 0) ⟨dX7_node_89, rfl⟩ rfl rfl ?_
    refine Ev.getRk (C2 := 6) (r := 0) fX7_10 rfl (by decide) (by decide) ⟨dX7_node_90, rfl⟩ ?_
    refine Ev.getRk (C2 := 0) (r := (3 * 0)) fX7_126 rfl (by decide) (by decide) ⟨dX7_node_93, rfl⟩ ?_
    refine Ev.iload_n (q := 1) ⟨dX7_node_96, rfl⟩ rfl rfl ?_
    obtain ⟨r9, hv8, h⟩ := bnd_s h
    refine Ev.callV1 (mc1 := 1) (ms1 := 6) (v := vi r9) (h1 := hq D x3) vX7_129 (c_X0_has Θ D z _ _ _ _ hv8) rfl rfl (by decide) rfl ⟨by decide, by decide, Nat.le_of_eq (Nat.zero_add _), Nat.le_of_eq (Nat.zero_add _), Nat.le_of_ble_eq_true rfl⟩ ⟨dX7_node_97, rfl⟩ ?_
    clear hv8
    refine Ev.if_eq jX7_node_100 (fun hc => ?_) (fun hc => ?_)
    · replace h := (if_pos hc).symm.trans h; clear hc
      refine Ev.iconst ⟨dX7_node_107, rfl⟩ (inRd rfl) ?_
      obtain rfl := Option.some.inj h
      exact Ev.ireturn (ty := .int) ⟨dX7_node_108, rfl⟩ rfl rfl ⟨rfl, rfl⟩
    · replace h := (if_neg hc).symm.trans h; clear hc
      refine Ev.iconst ⟨dX7_node_103, rfl⟩ (inRd rfl) ?_
      refine Ev.goto jX7_node_104 ?_
      obtain rfl := Option.some.inj h
      exact Ev.ireturn (ty := .int) ⟨dX7_node_108, rfl⟩ rfl rfl ⟨rfl, rfl⟩
  replace h := (if_neg hk).symm.trans h
  have hn3 := hk; clear hk
  by_cases hk : v2 = 4
  · replace h := (if_pos hk).symm.trans h
    refine Ev.tswIn (tg := 109) (off := 103) dX7_node_6 (by omega) (by omega) (by rw [hk]; rfl) (by decide) ?_
    clear hk
    refine Ev.aload_n (q := 0) ⟨dX7_node_109, rfl⟩ rfl rfl ?_
    refine Ev.getRk (C2 := 6) (r := 0) fX7_10 rfl (by decide) (by decide) ⟨dX7_node_110, rfl⟩ ?_
    refine Ev.getRk (C2 := 4) (r := 0) fX7_97 rfl (by decide) (by decide) ⟨dX7_node_113, rfl⟩ ?_
    refine Ev.getRk (C2 := 30) (r := 0) fX7_282 rfl (by decide) (by decide) ⟨dX7_node_116, rfl⟩ ?_
    refine Ev.iload_n (q := 1) ⟨dX7_node_119, rfl⟩ rfl rfl ?_
    obtain ⟨c10, h⟩ := ckI_s h
    refine Ev.laload (by decide) c10.1 c10.2 ⟨dX7_node_120, rfl⟩ ?_
    refine Ev.callS1 (mc1 := 1) (ms1 := 6) (v := vi (pcnt (x3.2 30 0 (v1).toNat))) (h1 := hq D x3) sX7_220 (c_J13_bitCount_95d88 Θ _ _) rfl rfl ⟨by decide, by decide, Nat.le_of_eq (Nat.zero_add _), Nat.le_of_eq (Nat.zero_add _), Nat.le_of_ble_eq_true rfl⟩ ⟨dX7_node_121, rfl⟩ ?_
    refine Ev.iconst ⟨dX7_node_124, rfl⟩ (inRd rfl) ?_
    obtain ⟨c11, h⟩ := ckR_s h
    refine Ev.isub ⟨dX7_node_125, rfl⟩ c11 ?_
    obtain rfl := Option.some.inj h
    exact Ev.ireturn (ty := .int) ⟨dX7_node_126, rfl⟩ rfl rfl ⟨rfl, rfl⟩
  replace h := (if_neg hk).symm.trans h
  have hn4 := hk; clear hk
  refine Ev.tswOut (tg := 127) dX7_node_6 (by omega) (by decide) ?_
  clear hn0 hn1 hn2 hn3 hn4
  obtain rfl := Option.some.inj h
  exact Ev.throwSW eX7_IllegalArgumentException tX7_286 rfl dX7_node_127 dX7_node_130 dX7_node_131 dX7_node_134 dX7_node_137 (by decide) (Nat.le_of_ble_eq_true rfl) (by decide) (by decide) ⟨rfl, rfl⟩

def F_X7_field (z : Nat) (v0 : Nat) (v1 : Int) (v2 : Int) (x : Mm) : Option ((Int ⊕ String) × Mm) := bndX (F_X7_requireNode z (v0) (v1) x) fun r2 x3 => bndX (F_X7_requireField z (v0) (v2) x3) fun r5 x6 => (F_X0_valueOf z ((3 * 0)) (v1) (v2) x6).bind fun r8 => some ((.inl r8, x6))
set_option maxHeartbeats 4000000 in
set_option maxRecDepth 20000 in
theorem c_X7_field (Θ : GC) (D : Nat → Nat → Prop) (z : Nat) (v0 : Nat) (v1 : Int) (v2 : Int) (x : Mm) (y) (h : F_X7_field z v0 v1 v2 x = some y) : Cal Θ mX7_field 7 111 2 12 [vr 7 (v0 + 1), vi (v1), vi (v2)] (hq D x) (ThrI D y) := by
  refine Cal.of (by decide +kernel) rfl rfl (Nat.le_of_ble_eq_true rfl) ?_
  show Ev Θ mX7_field 7 111 2 12 0 [(0, vr 7 (v0 + 1)), (1, vi (v1)), (2, vi (v2))] [] (hq D x) (ThrI D y)
  unfold F_X7_field at h
  refine Ev.aload_n (q := 0) ⟨dX7_field_0, rfl⟩ rfl rfl ?_
  refine Ev.iload_n (q := 1) ⟨dX7_field_1, rfl⟩ rfl rfl ?_
  rcases bndX_s h with ⟨r2, x3, hv1, h⟩ | ⟨E, x3, hv1, rfl⟩
  rotate_left
  · exact Ev.callVE (mc1 := 1) (ms1 := 6) (h1 := hq D x3) vX7_109 (c_X7_requireNode Θ D z _ _ _ _ hv1) rfl rfl (by decide) rfl ⟨by decide, by decide, by decide, by decide, Nat.le_of_ble_eq_true rfl⟩ ⟨dX7_field_2, rfl⟩ rfl ⟨rfl, rfl⟩
  refine Ev.callVN (mc1 := 1) (ms1 := 6) (h1 := hq D x3) vX7_109 (c_X7_requireNode Θ D z _ _ _ _ hv1) rfl rfl (by decide) rfl ⟨by decide, by decide, by decide, by decide, Nat.le_of_ble_eq_true rfl⟩ ⟨dX7_field_2, rfl⟩ ?_
  clear hv1
  refine Ev.aload_n (q := 0) ⟨dX7_field_5, rfl⟩ rfl rfl ?_
  refine Ev.iload_n (q := 2) ⟨dX7_field_6, rfl⟩ rfl rfl ?_
  rcases bndX_s h with ⟨r5, x6, hv4, h⟩ | ⟨E, x6, hv4, rfl⟩
  rotate_left
  · exact Ev.callVE (mc1 := 0) (ms1 := 0) (h1 := hq D x6) vX7_159 (c_X7_requireField Θ D z _ _ _ _ hv4) rfl rfl (by decide) rfl ⟨by decide, by decide, by decide, by decide, Nat.le_of_ble_eq_true rfl⟩ ⟨dX7_field_7, rfl⟩ rfl ⟨rfl, rfl⟩
  refine Ev.callVN (mc1 := 0) (ms1 := 0) (h1 := hq D x6) vX7_159 (c_X7_requireField Θ D z _ _ _ _ hv4) rfl rfl (by decide) rfl ⟨by decide, by decide, by decide, by decide, Nat.le_of_ble_eq_true rfl⟩ ⟨dX7_field_7, rfl⟩ ?_
  clear hv4
  refine Ev.aload_n (q := 0) ⟨dX7_field_10, rfl⟩ rfl rfl ?_
  refine Ev.getRk (C2 := 6) (r := 0) fX7_10 rfl (by decide) (by decide) ⟨dX7_field_11, rfl⟩ ?_
  refine Ev.getRk (C2 := 0) (r := (3 * 0)) fX7_126 rfl (by decide) (by decide) ⟨dX7_field_14, rfl⟩ ?_
  refine Ev.iload_n (q := 1) ⟨dX7_field_17, rfl⟩ rfl rfl ?_
  refine Ev.iload_n (q := 2) ⟨dX7_field_18, rfl⟩ rfl rfl ?_
  obtain ⟨r8, hv7, h⟩ := bnd_s h
  refine Ev.callV1 (mc1 := 0) (ms1 := 0) (v := vi r8) (h1 := hq D x6) vX7_183 (c_X0_valueOf Θ D z _ _ _ _ _ hv7) rfl rfl (by decide) rfl ⟨by decide, by decide, Nat.le_of_eq (Nat.zero_add _), Nat.le_of_eq (Nat.zero_add _), Nat.le_of_ble_eq_true rfl⟩ ⟨dX7_field_19, rfl⟩ ?_
  clear hv7
  obtain rfl := Option.some.inj h
  exact Ev.ireturn (ty := .int) ⟨dX7_field_22, rfl⟩ rfl rfl ⟨rfl, rfl⟩

def F_X7_childCount (z : Nat) (v0 : Nat) (v1 : Int) (x : Mm) : Option ((Int ⊕ String) × Mm) := bndX (F_X7_requireNode z (v0) (v1) x) fun r2 x3 => (F_X4_countChildren z (0) ((x3.2 0 (3 * 0) 0)) (v1) x3).bind fun r5 => some ((.inl r5, x3))
set_option maxHeartbeats 4000000 in
set_option maxRecDepth 20000 in
theorem c_X7_childCount (Θ : GC) (D : Nat → Nat → Prop) (z : Nat) (v0 : Nat) (v1 : Int) (x : Mm) (y) (h : F_X7_childCount z v0 v1 x = some y) : Cal Θ mX7_childCount 7 111 1 6 [vr 7 (v0 + 1), vi (v1)] (hq D x) (ThrI D y) := by
  refine Cal.of (by decide +kernel) rfl rfl (Nat.le_of_ble_eq_true rfl) ?_
  show Ev Θ mX7_childCount 7 111 1 6 0 [(0, vr 7 (v0 + 1)), (1, vi (v1))] [] (hq D x) (ThrI D y)
  unfold F_X7_childCount at h
  refine Ev.aload_n (q := 0) ⟨dX7_childCount_0, rfl⟩ rfl rfl ?_
  refine Ev.iload_n (q := 1) ⟨dX7_childCount_1, rfl⟩ rfl rfl ?_
  rcases bndX_s h with ⟨r2, x3, hv1, h⟩ | ⟨E, x3, hv1, rfl⟩
  rotate_left
  · exact Ev.callVE (mc1 := 0) (ms1 := 0) (h1 := hq D x3) vX7_109 (c_X7_requireNode Θ D z _ _ _ _ hv1) rfl rfl (by decide) rfl ⟨by decide, by decide, by decide, by decide, Nat.le_of_ble_eq_true rfl⟩ ⟨dX7_childCount_2, rfl⟩ rfl ⟨rfl, rfl⟩
  refine Ev.callVN (mc1 := 0) (ms1 := 0) (h1 := hq D x3) vX7_109 (c_X7_requireNode Θ D z _ _ _ _ hv1) rfl rfl (by decide) rfl ⟨by decide, by decide, by decide, by decide, Nat.le_of_ble_eq_true rfl⟩ ⟨dX7_childCount_2, rfl⟩ ?_
  clear hv1
  refine Ev.aload_n (q := 0) ⟨dX7_childCount_5, rfl⟩ rfl rfl ?_
  refine Ev.getRk (C2 := 6) (r := 0) fX7_10 rfl (by decide) (by decide) ⟨dX7_childCount_6, rfl⟩ ?_
  refine Ev.getRk (C2 := 4) (r := 0) fX7_97 rfl (by decide) (by decide) ⟨dX7_childCount_9, rfl⟩ ?_
  refine Ev.aload_n (q := 0) ⟨dX7_childCount_12, rfl⟩ rfl rfl ?_
  refine Ev.getRk (C2 := 6) (r := 0) fX7_10 rfl (by decide) (by decide) ⟨dX7_childCount_13, rfl⟩ ?_
  refine Ev.getRk (C2 := 0) (r := (3 * 0)) fX7_126 rfl (by decide) (by decide) ⟨dX7_childCount_16, rfl⟩ ?_
  refine Ev.getL fX7_195 ⟨dX7_childCount_19, rfl⟩ ?_
  refine Ev.iload_n (q := 1) ⟨dX7_childCount_22, rfl⟩ rfl rfl ?_
  obtain ⟨r5, hv4, h⟩ := bnd_s h
  refine Ev.callV1 (mc1 := 0) (ms1 := 0) (v := vi r5) (h1 := hq D x3) vX7_288 (c_X4_countChildren Θ D z _ _ _ _ _ hv4) rfl rfl (by decide) rfl ⟨by decide, by decide, Nat.le_of_eq (Nat.zero_add _), Nat.le_of_eq (Nat.zero_add _), Nat.le_of_ble_eq_true rfl⟩ ⟨dX7_childCount_23, rfl⟩ ?_
  clear hv4
  obtain rfl := Option.some.inj h
  exact Ev.ireturn (ty := .int) ⟨dX7_childCount_26, rfl⟩ rfl rfl ⟨rfl, rfl⟩

def F_X7_child_71 (z : Nat) (v0 : Nat) (v1 : Int) (v2 : Int) (x : Mm) : Nat → Int → Int → Option (Int)
  | 0, _, _ => none
  | k + 1, v3, v4 => if v2 ≤ v4 then (some (v3)) else (if v3 = (-1 : Int) then (some (v3)) else (ckI v3 60 <| (F_X4_nextChild z (0) ((x.2 0 (3 * 0) 0)) (v1) ((x.1 22 0 (v3).toNat)) x).bind fun r10 => ckR ((v4 + 1)) <| F_X7_child_71 z v0 v1 v2 x k (r10) ((v4 + 1))))
set_option maxHeartbeats 4000000 in
set_option maxRecDepth 20000 in
theorem e_X7_child_71 (Θ : GC) (D : Nat → Nat → Prop) (z : Nat) (v0 : Nat) (v1 : Int) (v2 : Int) (x : Mm) (Q : Ro → Hp → Prop) (mc ms : Nat) : ∀ (k : Nat) (v3 : Int) (v4 : Int) (y), F_X7_child_71 z v0 v1 v2 x k v3 v4 = some y → (Ev Θ mX7_child 7 111 mc ms 122 [(0, vr 7 (v0 + 1)), (1, vi (v1)), (2, vi (v2)), (3, vi (y))] [] (hq D x) Q) → Ev Θ mX7_child 7 111 mc ms 71 [(0, vr 7 (v0 + 1)), (1, vi (v1)), (2, vi (v2)), (3, vi (v3)), (4, vi (v4))] [] (hq D x) Q := by
  intro k
  induction k with
  | zero => intro v3 v4 y h; exact absurd h (by unfold F_X7_child_71; exact nofun)
  | succ k ih =>
    intro v3 v4 y h k1
    unfold F_X7_child_71 at h
    refine Ev.iload (q := 4) ⟨dX7_child_71, rfl⟩ rfl ?_
    refine Ev.iload_n (q := 2) ⟨dX7_child_73, rfl⟩ rfl rfl ?_
    refine Ev.icmp_ge jX7_child_74 (fun hc => ?_) (fun hc => ?_)
    · replace h := (if_pos hc).symm.trans h; clear hc
      refine Ev.keep [0, 1, 2, 3] rfl ?_
      obtain rfl := Option.some.inj h
      exact k1
    · replace h := (if_neg hc).symm.trans h; clear hc
      refine Ev.iload_n (q := 3) ⟨dX7_child_77, rfl⟩ rfl rfl ?_
      refine Ev.iconst ⟨dX7_child_78, rfl⟩ (inRd rfl) ?_
      refine Ev.icmp_eq jX7_child_79 (fun hc => ?_) (fun hc => ?_)
      · replace h := (if_pos hc).symm.trans h; clear hc
        refine Ev.keep [0, 1, 2, 3] rfl ?_
        obtain rfl := Option.some.inj h
        exact k1
      · replace h := (if_neg hc).symm.trans h; clear hc
        refine Ev.aload_n (q := 0) ⟨dX7_child_82, rfl⟩ rfl rfl ?_
        refine Ev.getRk (C2 := 6) (r := 0) fX7_10 rfl (by decide) (by decide) ⟨dX7_child_83, rfl⟩ ?_
        refine Ev.getRk (C2 := 4) (r := 0) fX7_97 rfl (by decide) (by decide) ⟨dX7_child_86, rfl⟩ ?_
        refine Ev.aload_n (q := 0) ⟨dX7_child_89, rfl⟩ rfl rfl ?_
        refine Ev.getRk (C2 := 6) (r := 0) fX7_10 rfl (by decide) (by decide) ⟨dX7_child_90, rfl⟩ ?_
        refine Ev.getRk (C2 := 0) (r := (3 * 0)) fX7_126 rfl (by decide) (by decide) ⟨dX7_child_93, rfl⟩ ?_
        refine Ev.getL fX7_195 ⟨dX7_child_96, rfl⟩ ?_
        refine Ev.iload_n (q := 1) ⟨dX7_child_99, rfl⟩ rfl rfl ?_
        refine Ev.aload_n (q := 0) ⟨dX7_child_100, rfl⟩ rfl rfl ?_
        refine Ev.getRk (C2 := 6) (r := 0) fX7_10 rfl (by decide) (by decide) ⟨dX7_child_101, rfl⟩ ?_
        refine Ev.getRk (C2 := 4) (r := 0) fX7_97 rfl (by decide) (by decide) ⟨dX7_child_104, rfl⟩ ?_
        refine Ev.getRk (C2 := 22) (r := 0) fX7_279 rfl (by decide) (by decide) ⟨dX7_child_107, rfl⟩ ?_
        refine Ev.iload_n (q := 3) ⟨dX7_child_110, rfl⟩ rfl rfl ?_
        obtain ⟨c8, h⟩ := ckI_s h
        refine Ev.iaload (by decide) c8.1 c8.2 ⟨dX7_child_111, rfl⟩ ?_
        obtain ⟨r10, hv9, h⟩ := bnd_s h
        refine Ev.callV1 (mc1 := mc) (ms1 := ms) (v := vi r10) (h1 := hq D x) vX7_297 (c_X4_nextChild Θ D z _ _ _ _ _ _ hv9) rfl rfl (by decide) rfl ⟨by decide, by decide, Nat.le_of_eq (Nat.zero_add _), Nat.le_of_eq (Nat.zero_add _), Nat.le_of_ble_eq_true rfl⟩ ⟨dX7_child_112, rfl⟩ ?_
        clear hv9
        refine Ev.istore_n (i := 3) (ls' := [(0, _), (1, _), (2, _), (3, _), (4, _)]) ⟨dX7_child_115, rfl⟩ rfl (by decide) rfl ?_
        obtain ⟨c11, h⟩ := ckR_s h
        refine Ev.iinc (q := 4) (ls' := [(0, _), (1, _), (2, _), (3, _), (4, _)]) ⟨dX7_child_116, rfl⟩ rfl (by decide) c11 rfl ?_
        refine Ev.goto jX7_child_119 ?_
        exact ih _ _ _ h k1
def F_X7_child (z : Nat) (v0 : Nat) (v1 : Int) (v2 : Int) (x : Mm) : Option ((Int ⊕ String) × Mm) := bndX (F_X7_requireNode z (v0) (v1) x) fun r2 x3 => if v2 < 0 then (some (.inr "java/lang/IndexOutOfBoundsException", x3)) else ((F_X4_countChildren z (0) ((x3.2 0 (3 * 0) 0)) (v1) x3).bind fun r5 => if v2 < r5 then ((F_X4_nextChild z (0) ((x3.2 0 (3 * 0) 0)) (v1) ((-1 : Int)) x3).bind fun r7 => (F_X7_child_71 z (v0) (v1) (v2) x3 z (r7) ((0 : Int))).bind fun s12 => some ((.inl s12, x3))) else (some (.inr "java/lang/IndexOutOfBoundsException", x3)))
set_option maxHeartbeats 4000000 in
set_option maxRecDepth 20000 in
theorem c_X7_child (Θ : GC) (D : Nat → Nat → Prop) (z : Nat) (v0 : Nat) (v1 : Int) (v2 : Int) (x : Mm) (y) (h : F_X7_child z v0 v1 v2 x = some y) : Cal Θ mX7_child 7 111 2 12 [vr 7 (v0 + 1), vi (v1), vi (v2)] (hq D x) (ThrI D y) := by
  refine Cal.of (by decide +kernel) rfl rfl (Nat.le_of_ble_eq_true rfl) ?_
  show Ev Θ mX7_child 7 111 2 12 0 [(0, vr 7 (v0 + 1)), (1, vi (v1)), (2, vi (v2))] [] (hq D x) (ThrI D y)
  unfold F_X7_child at h
  refine Ev.aload_n (q := 0) ⟨dX7_child_0, rfl⟩ rfl rfl ?_
  refine Ev.iload_n (q := 1) ⟨dX7_child_1, rfl⟩ rfl rfl ?_
  rcases bndX_s h with ⟨r2, x3, hv1, h⟩ | ⟨E, x3, hv1, rfl⟩
  rotate_left
  · exact Ev.callVE (mc1 := 1) (ms1 := 6) (h1 := hq D x3) vX7_109 (c_X7_requireNode Θ D z _ _ _ _ hv1) rfl rfl (by decide) rfl ⟨by decide, by decide, by decide, by decide, Nat.le_of_ble_eq_true rfl⟩ ⟨dX7_child_2, rfl⟩ rfl ⟨rfl, rfl⟩
  refine Ev.callVN (mc1 := 1) (ms1 := 6) (h1 := hq D x3) vX7_109 (c_X7_requireNode Θ D z _ _ _ _ hv1) rfl rfl (by decide) rfl ⟨by decide, by decide, by decide, by decide, Nat.le_of_ble_eq_true rfl⟩ ⟨dX7_child_2, rfl⟩ ?_
  clear hv1
  refine Ev.iload_n (q := 2) ⟨dX7_child_5, rfl⟩ rfl rfl ?_
  refine Ev.if_lt jX7_child_6 (fun hc => ?_) (fun hc => ?_)
  · replace h := (if_pos hc).symm.trans h; clear hc
    obtain rfl := Option.some.inj h
    exact Ev.throwSW eX7_IndexOutOfBoundsException tX7_294 rfl dX7_child_34 dX7_child_37 dX7_child_38 dX7_child_41 dX7_child_44 (by decide) (Nat.le_of_ble_eq_true rfl) (by decide) (by decide) ⟨rfl, rfl⟩
  · replace h := (if_neg hc).symm.trans h; clear hc
    refine Ev.iload_n (q := 2) ⟨dX7_child_9, rfl⟩ rfl rfl ?_
    refine Ev.aload_n (q := 0) ⟨dX7_child_10, rfl⟩ rfl rfl ?_
    refine Ev.getRk (C2 := 6) (r := 0) fX7_10 rfl (by decide) (by decide) ⟨dX7_child_11, rfl⟩ ?_
    refine Ev.getRk (C2 := 4) (r := 0) fX7_97 rfl (by decide) (by decide) ⟨dX7_child_14, rfl⟩ ?_
    refine Ev.aload_n (q := 0) ⟨dX7_child_17, rfl⟩ rfl rfl ?_
    refine Ev.getRk (C2 := 6) (r := 0) fX7_10 rfl (by decide) (by decide) ⟨dX7_child_18, rfl⟩ ?_
    refine Ev.getRk (C2 := 0) (r := (3 * 0)) fX7_126 rfl (by decide) (by decide) ⟨dX7_child_21, rfl⟩ ?_
    refine Ev.getL fX7_195 ⟨dX7_child_24, rfl⟩ ?_
    refine Ev.iload_n (q := 1) ⟨dX7_child_27, rfl⟩ rfl rfl ?_
    obtain ⟨r5, hv4, h⟩ := bnd_s h
    refine Ev.callV1 (mc1 := 1) (ms1 := 6) (v := vi r5) (h1 := hq D x3) vX7_288 (c_X4_countChildren Θ D z _ _ _ _ _ hv4) rfl rfl (by decide) rfl ⟨by decide, by decide, Nat.le_of_eq (Nat.zero_add _), Nat.le_of_eq (Nat.zero_add _), Nat.le_of_ble_eq_true rfl⟩ ⟨dX7_child_28, rfl⟩ ?_
    clear hv4
    refine Ev.icmp_lt jX7_child_31 (fun hc => ?_) (fun hc => ?_)
    · replace h := (if_pos hc).symm.trans h; clear hc
      refine Ev.aload_n (q := 0) ⟨dX7_child_45, rfl⟩ rfl rfl ?_
      refine Ev.getRk (C2 := 6) (r := 0) fX7_10 rfl (by decide) (by decide) ⟨dX7_child_46, rfl⟩ ?_
      refine Ev.getRk (C2 := 4) (r := 0) fX7_97 rfl (by decide) (by decide) ⟨dX7_child_49, rfl⟩ ?_
      refine Ev.aload_n (q := 0) ⟨dX7_child_52, rfl⟩ rfl rfl ?_
      refine Ev.getRk (C2 := 6) (r := 0) fX7_10 rfl (by decide) (by decide) ⟨dX7_child_53, rfl⟩ ?_
      refine Ev.getRk (C2 := 0) (r := (3 * 0)) fX7_126 rfl (by decide) (by decide) ⟨dX7_child_56, rfl⟩ ?_
      refine Ev.getL fX7_195 ⟨dX7_child_59, rfl⟩ ?_
      refine Ev.iload_n (q := 1) ⟨dX7_child_62, rfl⟩ rfl rfl ?_
      refine Ev.iconst ⟨dX7_child_63, rfl⟩ (inRd rfl) ?_
      obtain ⟨r7, hv6, h⟩ := bnd_s h
      refine Ev.callV1 (mc1 := 1) (ms1 := 6) (v := vi r7) (h1 := hq D x3) vX7_297 (c_X4_nextChild Θ D z _ _ _ _ _ _ hv6) rfl rfl (by decide) rfl ⟨by decide, by decide, Nat.le_of_eq (Nat.zero_add _), Nat.le_of_eq (Nat.zero_add _), Nat.le_of_ble_eq_true rfl⟩ ⟨dX7_child_64, rfl⟩ ?_
      clear hv6
      refine Ev.istore_n (i := 3) (ls' := [(0, _), (1, _), (2, _), (3, _)]) ⟨dX7_child_67, rfl⟩ rfl (by decide) rfl ?_
      refine Ev.iconst ⟨dX7_child_68, rfl⟩ (inRd rfl) ?_
      refine Ev.istore (i := 4) (ls' := [(0, _), (1, _), (2, _), (3, _), (4, _)]) ⟨dX7_child_69, rfl⟩ (by decide) rfl ?_
      obtain ⟨s12, hl, h⟩ := bnd_s h
      refine e_X7_child_71 Θ D z _ _ _ _ _ _ _ _ _ _ _ hl ?_
      clear hl
      refine Ev.iload_n (q := 3) ⟨dX7_child_122, rfl⟩ rfl rfl ?_
      obtain rfl := Option.some.inj h
      exact Ev.ireturn (ty := .int) ⟨dX7_child_123, rfl⟩ rfl rfl ⟨rfl, rfl⟩
    · replace h := (if_neg hc).symm.trans h; clear hc
      obtain rfl := Option.some.inj h
      exact Ev.throwSW eX7_IndexOutOfBoundsException tX7_294 rfl dX7_child_34 dX7_child_37 dX7_child_38 dX7_child_41 dX7_child_44 (by decide) (Nat.le_of_ble_eq_true rfl) (by decide) (by decide) ⟨rfl, rfl⟩

def F_X7_find (z : Nat) (v0 : Nat) (v1 : Int) (v2 : Int) (x : Mm) : Option ((Int ⊕ String) × Mm) := bndX (F_X7_requireNode z (v0) (v1) x) fun r2 x3 => (F_X4_childWith z (0) ((x3.2 0 (3 * 0) 0)) (v1) (v2) x3).bind fun r5 => if r5 = (-1 : Int) then (some (.inr "java/util/NoSuchElementException", x3)) else (some ((.inl r5, x3)))
set_option maxHeartbeats 4000000 in
set_option maxRecDepth 20000 in
theorem c_X7_find (Θ : GC) (D : Nat → Nat → Prop) (z : Nat) (v0 : Nat) (v1 : Int) (v2 : Int) (x : Mm) (y) (h : F_X7_find z v0 v1 v2 x = some y) : Cal Θ mX7_find 7 111 2 12 [vr 7 (v0 + 1), vi (v1), vi (v2)] (hq D x) (ThrI D y) := by
  refine Cal.of (by decide +kernel) rfl rfl (Nat.le_of_ble_eq_true rfl) ?_
  show Ev Θ mX7_find 7 111 2 12 0 [(0, vr 7 (v0 + 1)), (1, vi (v1)), (2, vi (v2))] [] (hq D x) (ThrI D y)
  unfold F_X7_find at h
  refine Ev.aload_n (q := 0) ⟨dX7_find_0, rfl⟩ rfl rfl ?_
  refine Ev.iload_n (q := 1) ⟨dX7_find_1, rfl⟩ rfl rfl ?_
  rcases bndX_s h with ⟨r2, x3, hv1, h⟩ | ⟨E, x3, hv1, rfl⟩
  rotate_left
  · exact Ev.callVE (mc1 := 1) (ms1 := 6) (h1 := hq D x3) vX7_109 (c_X7_requireNode Θ D z _ _ _ _ hv1) rfl rfl (by decide) rfl ⟨by decide, by decide, by decide, by decide, Nat.le_of_ble_eq_true rfl⟩ ⟨dX7_find_2, rfl⟩ rfl ⟨rfl, rfl⟩
  refine Ev.callVN (mc1 := 1) (ms1 := 6) (h1 := hq D x3) vX7_109 (c_X7_requireNode Θ D z _ _ _ _ hv1) rfl rfl (by decide) rfl ⟨by decide, by decide, by decide, by decide, Nat.le_of_ble_eq_true rfl⟩ ⟨dX7_find_2, rfl⟩ ?_
  clear hv1
  refine Ev.aload_n (q := 0) ⟨dX7_find_5, rfl⟩ rfl rfl ?_
  refine Ev.getRk (C2 := 6) (r := 0) fX7_10 rfl (by decide) (by decide) ⟨dX7_find_6, rfl⟩ ?_
  refine Ev.getRk (C2 := 4) (r := 0) fX7_97 rfl (by decide) (by decide) ⟨dX7_find_9, rfl⟩ ?_
  refine Ev.aload_n (q := 0) ⟨dX7_find_12, rfl⟩ rfl rfl ?_
  refine Ev.getRk (C2 := 6) (r := 0) fX7_10 rfl (by decide) (by decide) ⟨dX7_find_13, rfl⟩ ?_
  refine Ev.getRk (C2 := 0) (r := (3 * 0)) fX7_126 rfl (by decide) (by decide) ⟨dX7_find_16, rfl⟩ ?_
  refine Ev.getL fX7_195 ⟨dX7_find_19, rfl⟩ ?_
  refine Ev.iload_n (q := 1) ⟨dX7_find_22, rfl⟩ rfl rfl ?_
  refine Ev.iload_n (q := 2) ⟨dX7_find_23, rfl⟩ rfl rfl ?_
  obtain ⟨r5, hv4, h⟩ := bnd_s h
  refine Ev.callV1 (mc1 := 1) (ms1 := 6) (v := vi r5) (h1 := hq D x3) vX7_198 (c_X4_childWith Θ D z _ _ _ _ _ _ hv4) rfl rfl (by decide) rfl ⟨by decide, by decide, Nat.le_of_eq (Nat.zero_add _), Nat.le_of_eq (Nat.zero_add _), Nat.le_of_ble_eq_true rfl⟩ ⟨dX7_find_24, rfl⟩ ?_
  clear hv4
  refine Ev.istore_n (i := 3) (ls' := [(0, _), (1, _), (2, _), (3, _)]) ⟨dX7_find_27, rfl⟩ rfl (by decide) rfl ?_
  refine Ev.iload_n (q := 3) ⟨dX7_find_28, rfl⟩ rfl rfl ?_
  refine Ev.iconst ⟨dX7_find_29, rfl⟩ (inRd rfl) ?_
  refine Ev.icmp_ne jX7_find_30 (fun hc => ?_) (fun hc => ?_)
  · replace h := (if_neg hc).symm.trans h; clear hc
    refine Ev.iload_n (q := 3) ⟨dX7_find_44, rfl⟩ rfl rfl ?_
    obtain rfl := Option.some.inj h
    exact Ev.ireturn (ty := .int) ⟨dX7_find_45, rfl⟩ rfl rfl ⟨rfl, rfl⟩
  · replace h := (if_pos hc).symm.trans h; clear hc
    obtain rfl := Option.some.inj h
    exact Ev.throwNS rfl tX7_294 rfl dX7_find_33 dX7_find_36 dX7_find_37 dX7_find_40 dX7_find_43 (by decide) (Nat.le_of_ble_eq_true rfl) (by decide) (by decide) ⟨rfl, rfl⟩

def F_X7_walk (z : Nat) (v0 : Nat) (v1 : Int) (v2 : Int) (x : Mm) : Option ((Int ⊕ String) × Mm) := bndX (F_X7_requireNode z (v0) (v1) x) fun r2 x3 => if v2 < 0 then (some (.inr "java/lang/IndexOutOfBoundsException", x3)) else ((F_X4_countBelow z (0) ((x3.2 0 (3 * 0) 0)) (v1) x3).bind fun r5 => if v2 < r5 then ((F_X4_walked z (0) ((x3.2 0 (3 * 0) 0)) (v1) (v2) x3).bind fun r7 => some ((.inl r7, x3))) else (some (.inr "java/lang/IndexOutOfBoundsException", x3)))
set_option maxHeartbeats 4000000 in
set_option maxRecDepth 20000 in
theorem c_X7_walk (Θ : GC) (D : Nat → Nat → Prop) (z : Nat) (v0 : Nat) (v1 : Int) (v2 : Int) (x : Mm) (y) (h : F_X7_walk z v0 v1 v2 x = some y) : Cal Θ mX7_walk 7 111 2 12 [vr 7 (v0 + 1), vi (v1), vi (v2)] (hq D x) (ThrI D y) := by
  refine Cal.of (by decide +kernel) rfl rfl (Nat.le_of_ble_eq_true rfl) ?_
  show Ev Θ mX7_walk 7 111 2 12 0 [(0, vr 7 (v0 + 1)), (1, vi (v1)), (2, vi (v2))] [] (hq D x) (ThrI D y)
  unfold F_X7_walk at h
  refine Ev.aload_n (q := 0) ⟨dX7_walk_0, rfl⟩ rfl rfl ?_
  refine Ev.iload_n (q := 1) ⟨dX7_walk_1, rfl⟩ rfl rfl ?_
  rcases bndX_s h with ⟨r2, x3, hv1, h⟩ | ⟨E, x3, hv1, rfl⟩
  rotate_left
  · exact Ev.callVE (mc1 := 1) (ms1 := 6) (h1 := hq D x3) vX7_109 (c_X7_requireNode Θ D z _ _ _ _ hv1) rfl rfl (by decide) rfl ⟨by decide, by decide, by decide, by decide, Nat.le_of_ble_eq_true rfl⟩ ⟨dX7_walk_2, rfl⟩ rfl ⟨rfl, rfl⟩
  refine Ev.callVN (mc1 := 1) (ms1 := 6) (h1 := hq D x3) vX7_109 (c_X7_requireNode Θ D z _ _ _ _ hv1) rfl rfl (by decide) rfl ⟨by decide, by decide, by decide, by decide, Nat.le_of_ble_eq_true rfl⟩ ⟨dX7_walk_2, rfl⟩ ?_
  clear hv1
  refine Ev.iload_n (q := 2) ⟨dX7_walk_5, rfl⟩ rfl rfl ?_
  refine Ev.if_lt jX7_walk_6 (fun hc => ?_) (fun hc => ?_)
  · replace h := (if_pos hc).symm.trans h; clear hc
    obtain rfl := Option.some.inj h
    exact Ev.throwSW eX7_IndexOutOfBoundsException tX7_306 rfl dX7_walk_34 dX7_walk_37 dX7_walk_38 dX7_walk_41 dX7_walk_44 (by decide) (Nat.le_of_ble_eq_true rfl) (by decide) (by decide) ⟨rfl, rfl⟩
  · replace h := (if_neg hc).symm.trans h; clear hc
    refine Ev.iload_n (q := 2) ⟨dX7_walk_9, rfl⟩ rfl rfl ?_
    refine Ev.aload_n (q := 0) ⟨dX7_walk_10, rfl⟩ rfl rfl ?_
    refine Ev.getRk (C2 := 6) (r := 0) fX7_10 rfl (by decide) (by decide) ⟨dX7_walk_11, rfl⟩ ?_
    refine Ev.getRk (C2 := 4) (r := 0) fX7_97 rfl (by decide) (by decide) ⟨dX7_walk_14, rfl⟩ ?_
    refine Ev.aload_n (q := 0) ⟨dX7_walk_17, rfl⟩ rfl rfl ?_
    refine Ev.getRk (C2 := 6) (r := 0) fX7_10 rfl (by decide) (by decide) ⟨dX7_walk_18, rfl⟩ ?_
    refine Ev.getRk (C2 := 0) (r := (3 * 0)) fX7_126 rfl (by decide) (by decide) ⟨dX7_walk_21, rfl⟩ ?_
    refine Ev.getL fX7_195 ⟨dX7_walk_24, rfl⟩ ?_
    refine Ev.iload_n (q := 1) ⟨dX7_walk_27, rfl⟩ rfl rfl ?_
    obtain ⟨r5, hv4, h⟩ := bnd_s h
    refine Ev.callV1 (mc1 := 1) (ms1 := 6) (v := vi r5) (h1 := hq D x3) vX7_303 (c_X4_countBelow Θ D z _ _ _ _ _ hv4) rfl rfl (by decide) rfl ⟨by decide, by decide, Nat.le_of_eq (Nat.zero_add _), Nat.le_of_eq (Nat.zero_add _), Nat.le_of_ble_eq_true rfl⟩ ⟨dX7_walk_28, rfl⟩ ?_
    clear hv4
    refine Ev.icmp_lt jX7_walk_31 (fun hc => ?_) (fun hc => ?_)
    · replace h := (if_pos hc).symm.trans h; clear hc
      refine Ev.aload_n (q := 0) ⟨dX7_walk_45, rfl⟩ rfl rfl ?_
      refine Ev.getRk (C2 := 6) (r := 0) fX7_10 rfl (by decide) (by decide) ⟨dX7_walk_46, rfl⟩ ?_
      refine Ev.getRk (C2 := 4) (r := 0) fX7_97 rfl (by decide) (by decide) ⟨dX7_walk_49, rfl⟩ ?_
      refine Ev.aload_n (q := 0) ⟨dX7_walk_52, rfl⟩ rfl rfl ?_
      refine Ev.getRk (C2 := 6) (r := 0) fX7_10 rfl (by decide) (by decide) ⟨dX7_walk_53, rfl⟩ ?_
      refine Ev.getRk (C2 := 0) (r := (3 * 0)) fX7_126 rfl (by decide) (by decide) ⟨dX7_walk_56, rfl⟩ ?_
      refine Ev.getL fX7_195 ⟨dX7_walk_59, rfl⟩ ?_
      refine Ev.iload_n (q := 1) ⟨dX7_walk_62, rfl⟩ rfl rfl ?_
      refine Ev.iload_n (q := 2) ⟨dX7_walk_63, rfl⟩ rfl rfl ?_
      obtain ⟨r7, hv6, h⟩ := bnd_s h
      refine Ev.callV1 (mc1 := 1) (ms1 := 6) (v := vi r7) (h1 := hq D x3) vX7_308 (c_X4_walked Θ D z _ _ _ _ _ _ hv6) rfl rfl (by decide) rfl ⟨by decide, by decide, Nat.le_of_eq (Nat.zero_add _), Nat.le_of_eq (Nat.zero_add _), Nat.le_of_ble_eq_true rfl⟩ ⟨dX7_walk_64, rfl⟩ ?_
      clear hv6
      obtain rfl := Option.some.inj h
      exact Ev.ireturn (ty := .int) ⟨dX7_walk_67, rfl⟩ rfl rfl ⟨rfl, rfl⟩
    · replace h := (if_neg hc).symm.trans h; clear hc
      obtain rfl := Option.some.inj h
      exact Ev.throwSW eX7_IndexOutOfBoundsException tX7_306 rfl dX7_walk_34 dX7_walk_37 dX7_walk_38 dX7_walk_41 dX7_walk_44 (by decide) (Nat.le_of_ble_eq_true rfl) (by decide) (by decide) ⟨rfl, rfl⟩

def F_X7_size (z : Nat) (v0 : Nat) (v1 : Int) (x : Mm) : Option ((Int ⊕ String) × Mm) := bndX (F_X7_requireNode z (v0) (v1) x) fun r2 x3 => (F_X4_countBelow z (0) ((x3.2 0 (3 * 0) 0)) (v1) x3).bind fun r5 => some ((.inl r5, x3))
set_option maxHeartbeats 4000000 in
set_option maxRecDepth 20000 in
theorem c_X7_size (Θ : GC) (D : Nat → Nat → Prop) (z : Nat) (v0 : Nat) (v1 : Int) (x : Mm) (y) (h : F_X7_size z v0 v1 x = some y) : Cal Θ mX7_size 7 111 1 6 [vr 7 (v0 + 1), vi (v1)] (hq D x) (ThrI D y) := by
  refine Cal.of (by decide +kernel) rfl rfl (Nat.le_of_ble_eq_true rfl) ?_
  show Ev Θ mX7_size 7 111 1 6 0 [(0, vr 7 (v0 + 1)), (1, vi (v1))] [] (hq D x) (ThrI D y)
  unfold F_X7_size at h
  refine Ev.aload_n (q := 0) ⟨dX7_size_0, rfl⟩ rfl rfl ?_
  refine Ev.iload_n (q := 1) ⟨dX7_size_1, rfl⟩ rfl rfl ?_
  rcases bndX_s h with ⟨r2, x3, hv1, h⟩ | ⟨E, x3, hv1, rfl⟩
  rotate_left
  · exact Ev.callVE (mc1 := 0) (ms1 := 0) (h1 := hq D x3) vX7_109 (c_X7_requireNode Θ D z _ _ _ _ hv1) rfl rfl (by decide) rfl ⟨by decide, by decide, by decide, by decide, Nat.le_of_ble_eq_true rfl⟩ ⟨dX7_size_2, rfl⟩ rfl ⟨rfl, rfl⟩
  refine Ev.callVN (mc1 := 0) (ms1 := 0) (h1 := hq D x3) vX7_109 (c_X7_requireNode Θ D z _ _ _ _ hv1) rfl rfl (by decide) rfl ⟨by decide, by decide, by decide, by decide, Nat.le_of_ble_eq_true rfl⟩ ⟨dX7_size_2, rfl⟩ ?_
  clear hv1
  refine Ev.aload_n (q := 0) ⟨dX7_size_5, rfl⟩ rfl rfl ?_
  refine Ev.getRk (C2 := 6) (r := 0) fX7_10 rfl (by decide) (by decide) ⟨dX7_size_6, rfl⟩ ?_
  refine Ev.getRk (C2 := 4) (r := 0) fX7_97 rfl (by decide) (by decide) ⟨dX7_size_9, rfl⟩ ?_
  refine Ev.aload_n (q := 0) ⟨dX7_size_12, rfl⟩ rfl rfl ?_
  refine Ev.getRk (C2 := 6) (r := 0) fX7_10 rfl (by decide) (by decide) ⟨dX7_size_13, rfl⟩ ?_
  refine Ev.getRk (C2 := 0) (r := (3 * 0)) fX7_126 rfl (by decide) (by decide) ⟨dX7_size_16, rfl⟩ ?_
  refine Ev.getL fX7_195 ⟨dX7_size_19, rfl⟩ ?_
  refine Ev.iload_n (q := 1) ⟨dX7_size_22, rfl⟩ rfl rfl ?_
  obtain ⟨r5, hv4, h⟩ := bnd_s h
  refine Ev.callV1 (mc1 := 0) (ms1 := 0) (v := vi r5) (h1 := hq D x3) vX7_303 (c_X4_countBelow Θ D z _ _ _ _ _ hv4) rfl rfl (by decide) rfl ⟨by decide, by decide, Nat.le_of_eq (Nat.zero_add _), Nat.le_of_eq (Nat.zero_add _), Nat.le_of_ble_eq_true rfl⟩ ⟨dX7_size_23, rfl⟩ ?_
  clear hv4
  obtain rfl := Option.some.inj h
  exact Ev.ireturn (ty := .int) ⟨dX7_size_26, rfl⟩ rfl rfl ⟨rfl, rfl⟩

def F_X7_total_25 (z : Nat) (v0 : Nat) (v1 : Int) (v2 : Int) (v3 : BitVec 64) (x : Mm) : Nat → BitVec 64 → Int → Option (BitVec 64)
  | 0, _, _ => none
  | k + 1, v5, v7 => if (x.1 4 0 0) ≤ v7 then (some (v5)) else ((F_X7_contains z (v3) (v7) x).bind fun r10 => if r10 = 0 then (ckR ((v7 + 1)) <| F_X7_total_25 z v0 v1 v2 v3 x k (v5) ((v7 + 1))) else ((F_X0_valueOf z ((3 * 0)) (v7) (v2) x).bind fun r13 => ckR ((v7 + 1)) <| F_X7_total_25 z v0 v1 v2 v3 x k ((v5 + (BitVec.ofInt 64 r13))) ((v7 + 1))))
set_option maxHeartbeats 4000000 in
set_option maxRecDepth 20000 in
theorem e_X7_total_25 (Θ : GC) (D : Nat → Nat → Prop) (z : Nat) (v0 : Nat) (v1 : Int) (v2 : Int) (v3 : BitVec 64) (x : Mm) (Q : Ro → Hp → Prop) (mc ms : Nat) : ∀ (k : Nat) (v5 : BitVec 64) (v7 : Int) (y), F_X7_total_25 z v0 v1 v2 v3 x k v5 v7 = some y → (Ev Θ mX7_total 7 111 mc ms 74 [(0, vr 7 (v0 + 1)), (1, vi (v1)), (2, vi (v2)), (3, vl (v3)), (5, vl (y))] [] (hq D x) Q) → Ev Θ mX7_total 7 111 mc ms 25 [(0, vr 7 (v0 + 1)), (1, vi (v1)), (2, vi (v2)), (3, vl (v3)), (5, vl (v5)), (7, vi (v7))] [] (hq D x) Q := by
  intro k
  induction k with
  | zero => intro v5 v7 y h; exact absurd h (by unfold F_X7_total_25; exact nofun)
  | succ k ih =>
    intro v5 v7 y h k1
    unfold F_X7_total_25 at h
    refine Ev.iload (q := 5) ⟨dX7_total_25, rfl⟩ rfl ?_
    refine Ev.aload_n (q := 0) ⟨dX7_total_27, rfl⟩ rfl rfl ?_
    refine Ev.getRk (C2 := 6) (r := 0) fX7_10 rfl (by decide) (by decide) ⟨dX7_total_28, rfl⟩ ?_
    refine Ev.getRk (C2 := 4) (r := 0) fX7_97 rfl (by decide) (by decide) ⟨dX7_total_31, rfl⟩ ?_
    refine Ev.getI fX7_101 (Or.inl rfl) ⟨dX7_total_34, rfl⟩ ?_
    refine Ev.icmp_ge jX7_total_37 (fun hc => ?_) (fun hc => ?_)
    · replace h := (if_pos hc).symm.trans h; clear hc
      refine Ev.keep [0, 1, 2, 3, 4] rfl ?_
      obtain rfl := Option.some.inj h
      exact k1
    · replace h := (if_neg hc).symm.trans h; clear hc
      refine Ev.lload_n (q := 3) ⟨dX7_total_40, rfl⟩ rfl rfl ?_
      refine Ev.iload (q := 5) ⟨dX7_total_41, rfl⟩ rfl ?_
      obtain ⟨r10, hv9, h⟩ := bnd_s h
      refine Ev.callS1 (mc1 := mc) (ms1 := ms) (v := vi r10) (h1 := hq D x) sX7_174 (c_X7_contains Θ D z _ _ _ _ hv9) rfl rfl ⟨by decide, by decide, Nat.le_of_eq (Nat.zero_add _), Nat.le_of_eq (Nat.zero_add _), Nat.le_of_ble_eq_true rfl⟩ ⟨dX7_total_43, rfl⟩ ?_
      clear hv9
      refine Ev.if_eq jX7_total_46 (fun hc => ?_) (fun hc => ?_)
      · replace h := (if_pos hc).symm.trans h; clear hc
        obtain ⟨c11, h⟩ := ckR_s h
        refine Ev.iinc (q := 5) (ls' := [(0, _), (1, _), (2, _), (3, _), (5, _), (7, _)]) ⟨dX7_total_68, rfl⟩ rfl (by decide) c11 rfl ?_
        refine Ev.goto jX7_total_71 ?_
        exact ih _ _ _ h k1
      · replace h := (if_neg hc).symm.trans h; clear hc
        refine Ev.lload (q := 4) ⟨dX7_total_49, rfl⟩ rfl ?_
        refine Ev.aload_n (q := 0) ⟨dX7_total_51, rfl⟩ rfl rfl ?_
        refine Ev.getRk (C2 := 6) (r := 0) fX7_10 rfl (by decide) (by decide) ⟨dX7_total_52, rfl⟩ ?_
        refine Ev.getRk (C2 := 0) (r := (3 * 0)) fX7_126 rfl (by decide) (by decide) ⟨dX7_total_55, rfl⟩ ?_
        refine Ev.iload (q := 5) ⟨dX7_total_58, rfl⟩ rfl ?_
        refine Ev.iload_n (q := 2) ⟨dX7_total_60, rfl⟩ rfl rfl ?_
        obtain ⟨r13, hv12, h⟩ := bnd_s h
        refine Ev.callV1 (mc1 := mc) (ms1 := ms) (v := vi r13) (h1 := hq D x) vX7_183 (c_X0_valueOf Θ D z _ _ _ _ _ hv12) rfl rfl (by decide) rfl ⟨by decide, by decide, Nat.le_of_eq (Nat.zero_add _), Nat.le_of_eq (Nat.zero_add _), Nat.le_of_ble_eq_true rfl⟩ ⟨dX7_total_61, rfl⟩ ?_
        clear hv12
        refine Ev.i2l ⟨dX7_total_64, rfl⟩ ?_
        refine Ev.ladd ⟨dX7_total_65, rfl⟩ ?_
        refine Ev.lstore (i := 5) (ls' := [(0, _), (1, _), (2, _), (3, _), (5, _), (7, _)]) ⟨dX7_total_66, rfl⟩ (by decide) rfl ?_
        obtain ⟨c14, h⟩ := ckR_s h
        refine Ev.iinc (q := 5) (ls' := [(0, _), (1, _), (2, _), (3, _), (5, _), (7, _)]) ⟨dX7_total_68, rfl⟩ rfl (by decide) c14 rfl ?_
        refine Ev.goto jX7_total_71 ?_
        exact ih _ _ _ h k1
def F_X7_total (z : Nat) (v0 : Nat) (v1 : Int) (v2 : Int) (x : Mm) : Option ((BitVec 64 ⊕ String) × Mm) := bndX (F_X7_requireNode z (v0) (v1) x) fun r2 x3 => bndX (F_X7_requireField z (v0) (v2) x3) fun r5 x6 => (F_X6_recordsBelow z (0) (v1) x6).bind fun r8 => (F_X7_total_25 z (v0) (v1) (v2) (r8) x6 z ((0#64)) ((0 : Int))).bind fun s15 => some ((.inl s15, x6))
set_option maxHeartbeats 4000000 in
set_option maxRecDepth 20000 in
theorem c_X7_total (Θ : GC) (D : Nat → Nat → Prop) (z : Nat) (v0 : Nat) (v1 : Int) (v2 : Int) (x : Mm) (y) (h : F_X7_total z v0 v1 v2 x = some y) : Cal Θ mX7_total 7 111 2 12 [vr 7 (v0 + 1), vi (v1), vi (v2)] (hq D x) (ThrL D y) := by
  refine Cal.of (by decide +kernel) rfl rfl (Nat.le_of_ble_eq_true rfl) ?_
  show Ev Θ mX7_total 7 111 2 12 0 [(0, vr 7 (v0 + 1)), (1, vi (v1)), (2, vi (v2))] [] (hq D x) (ThrL D y)
  unfold F_X7_total at h
  refine Ev.aload_n (q := 0) ⟨dX7_total_0, rfl⟩ rfl rfl ?_
  refine Ev.iload_n (q := 1) ⟨dX7_total_1, rfl⟩ rfl rfl ?_
  rcases bndX_s h with ⟨r2, x3, hv1, h⟩ | ⟨E, x3, hv1, rfl⟩
  rotate_left
  · exact Ev.callVE (mc1 := 1) (ms1 := 6) (h1 := hq D x3) vX7_109 (c_X7_requireNode Θ D z _ _ _ _ hv1) rfl rfl (by decide) rfl ⟨by decide, by decide, by decide, by decide, Nat.le_of_ble_eq_true rfl⟩ ⟨dX7_total_2, rfl⟩ rfl ⟨rfl, rfl⟩
  refine Ev.callVN (mc1 := 1) (ms1 := 6) (h1 := hq D x3) vX7_109 (c_X7_requireNode Θ D z _ _ _ _ hv1) rfl rfl (by decide) rfl ⟨by decide, by decide, by decide, by decide, Nat.le_of_ble_eq_true rfl⟩ ⟨dX7_total_2, rfl⟩ ?_
  clear hv1
  refine Ev.aload_n (q := 0) ⟨dX7_total_5, rfl⟩ rfl rfl ?_
  refine Ev.iload_n (q := 2) ⟨dX7_total_6, rfl⟩ rfl rfl ?_
  rcases bndX_s h with ⟨r5, x6, hv4, h⟩ | ⟨E, x6, hv4, rfl⟩
  rotate_left
  · exact Ev.callVE (mc1 := 0) (ms1 := 0) (h1 := hq D x6) vX7_159 (c_X7_requireField Θ D z _ _ _ _ hv4) rfl rfl (by decide) rfl ⟨by decide, by decide, by decide, by decide, Nat.le_of_ble_eq_true rfl⟩ ⟨dX7_total_7, rfl⟩ rfl ⟨rfl, rfl⟩
  refine Ev.callVN (mc1 := 0) (ms1 := 0) (h1 := hq D x6) vX7_159 (c_X7_requireField Θ D z _ _ _ _ hv4) rfl rfl (by decide) rfl ⟨by decide, by decide, by decide, by decide, Nat.le_of_ble_eq_true rfl⟩ ⟨dX7_total_7, rfl⟩ ?_
  clear hv4
  refine Ev.aload_n (q := 0) ⟨dX7_total_10, rfl⟩ rfl rfl ?_
  refine Ev.getRk (C2 := 6) (r := 0) fX7_10 rfl (by decide) (by decide) ⟨dX7_total_11, rfl⟩ ?_
  refine Ev.iload_n (q := 1) ⟨dX7_total_14, rfl⟩ rfl rfl ?_
  obtain ⟨r8, hv7, h⟩ := bnd_s h
  refine Ev.callV1 (mc1 := 0) (ms1 := 0) (v := vl r8) (h1 := hq D x6) vX7_311 (c_X6_recordsBelow Θ D z _ _ _ _ hv7) rfl rfl (by decide) rfl ⟨by decide, by decide, Nat.le_of_eq (Nat.zero_add _), Nat.le_of_eq (Nat.zero_add _), Nat.le_of_ble_eq_true rfl⟩ ⟨dX7_total_15, rfl⟩ ?_
  clear hv7
  refine Ev.lstore_n (i := 3) (ls' := [(0, _), (1, _), (2, _), (3, _)]) ⟨dX7_total_18, rfl⟩ rfl (by decide) rfl ?_
  refine Ev.lconst (b := BitVec.ofInt 64 0) ⟨dX7_total_19, rfl⟩ (by decide) ?_
  refine Ev.lstore (i := 5) (ls' := [(0, _), (1, _), (2, _), (3, _), (5, _)]) ⟨dX7_total_20, rfl⟩ (by decide) rfl ?_
  refine Ev.iconst ⟨dX7_total_22, rfl⟩ (inRd rfl) ?_
  refine Ev.istore (i := 7) (ls' := [(0, _), (1, _), (2, _), (3, _), (5, _), (7, _)]) ⟨dX7_total_23, rfl⟩ (by decide) rfl ?_
  obtain ⟨s15, hl, h⟩ := bnd_s h
  refine e_X7_total_25 Θ D z _ _ _ _ _ _ _ _ _ _ _ _ hl ?_
  clear hl
  refine Ev.lload (q := 4) ⟨dX7_total_74, rfl⟩ rfl ?_
  obtain rfl := Option.some.inj h
  exact Ev.lreturn ⟨dX7_total_76, rfl⟩ rfl ⟨rfl, rfl⟩

def F_X7_greatest_25 (z : Nat) (v0 : Nat) (v1 : Int) (v2 : Int) (v3 : BitVec 64) (x : Mm) : Nat → Int → Int → Option (Int)
  | 0, _, _ => none
  | k + 1, v5, v6 => if (x.1 4 0 0) ≤ v6 then (some (v5)) else ((F_X7_contains z (v3) (v6) x).bind fun r10 => if r10 = 0 then (ckR ((v6 + 1)) <| F_X7_greatest_25 z v0 v1 v2 v3 x k (v5) ((v6 + 1))) else (if v5 = (-1 : Int) then (ckR ((v6 + 1)) <| F_X7_greatest_25 z v0 v1 v2 v3 x k (v6) ((v6 + 1))) else ((F_X0_valueOf z ((3 * 0)) (v6) (v2) x).bind fun r14 => (F_X0_valueOf z ((3 * 0)) (v5) (v2) x).bind fun r16 => if r14 ≤ r16 then (ckR ((v6 + 1)) <| F_X7_greatest_25 z v0 v1 v2 v3 x k (v5) ((v6 + 1))) else (ckR ((v6 + 1)) <| F_X7_greatest_25 z v0 v1 v2 v3 x k (v6) ((v6 + 1))))))
set_option maxHeartbeats 4000000 in
set_option maxRecDepth 20000 in
theorem e_X7_greatest_25 (Θ : GC) (D : Nat → Nat → Prop) (z : Nat) (v0 : Nat) (v1 : Int) (v2 : Int) (v3 : BitVec 64) (x : Mm) (Q : Ro → Hp → Prop) (mc ms : Nat) : ∀ (k : Nat) (v5 : Int) (v6 : Int) (y), F_X7_greatest_25 z v0 v1 v2 v3 x k v5 v6 = some y → (Ev Θ mX7_greatest 7 111 mc ms 94 [(0, vr 7 (v0 + 1)), (1, vi (v1)), (2, vi (v2)), (3, vl (v3)), (5, vi (y))] [] (hq D x) Q) → Ev Θ mX7_greatest 7 111 mc ms 25 [(0, vr 7 (v0 + 1)), (1, vi (v1)), (2, vi (v2)), (3, vl (v3)), (5, vi (v5)), (6, vi (v6))] [] (hq D x) Q := by
  intro k
  induction k with
  | zero => intro v5 v6 y h; exact absurd h (by unfold F_X7_greatest_25; exact nofun)
  | succ k ih =>
    intro v5 v6 y h k1
    unfold F_X7_greatest_25 at h
    refine Ev.iload (q := 5) ⟨dX7_greatest_25, rfl⟩ rfl ?_
    refine Ev.aload_n (q := 0) ⟨dX7_greatest_27, rfl⟩ rfl rfl ?_
    refine Ev.getRk (C2 := 6) (r := 0) fX7_10 rfl (by decide) (by decide) ⟨dX7_greatest_28, rfl⟩ ?_
    refine Ev.getRk (C2 := 4) (r := 0) fX7_97 rfl (by decide) (by decide) ⟨dX7_greatest_31, rfl⟩ ?_
    refine Ev.getI fX7_101 (Or.inl rfl) ⟨dX7_greatest_34, rfl⟩ ?_
    refine Ev.icmp_ge jX7_greatest_37 (fun hc => ?_) (fun hc => ?_)
    · replace h := (if_pos hc).symm.trans h; clear hc
      refine Ev.keep [0, 1, 2, 3, 4] rfl ?_
      obtain rfl := Option.some.inj h
      exact k1
    · replace h := (if_neg hc).symm.trans h; clear hc
      refine Ev.lload_n (q := 3) ⟨dX7_greatest_40, rfl⟩ rfl rfl ?_
      refine Ev.iload (q := 5) ⟨dX7_greatest_41, rfl⟩ rfl ?_
      obtain ⟨r10, hv9, h⟩ := bnd_s h
      refine Ev.callS1 (mc1 := mc) (ms1 := ms) (v := vi r10) (h1 := hq D x) sX7_174 (c_X7_contains Θ D z _ _ _ _ hv9) rfl rfl ⟨by decide, by decide, Nat.le_of_eq (Nat.zero_add _), Nat.le_of_eq (Nat.zero_add _), Nat.le_of_ble_eq_true rfl⟩ ⟨dX7_greatest_43, rfl⟩ ?_
      clear hv9
      refine Ev.if_eq jX7_greatest_46 (fun hc => ?_) (fun hc => ?_)
      · replace h := (if_pos hc).symm.trans h; clear hc
        obtain ⟨c11, h⟩ := ckR_s h
        refine Ev.iinc (q := 5) (ls' := [(0, _), (1, _), (2, _), (3, _), (5, _), (6, _)]) ⟨dX7_greatest_88, rfl⟩ rfl (by decide) c11 rfl ?_
        refine Ev.goto jX7_greatest_91 ?_
        exact ih _ _ _ h k1
      · replace h := (if_neg hc).symm.trans h; clear hc
        refine Ev.iload (q := 4) ⟨dX7_greatest_49, rfl⟩ rfl ?_
        refine Ev.iconst ⟨dX7_greatest_51, rfl⟩ (inRd rfl) ?_
        refine Ev.icmp_eq jX7_greatest_52 (fun hc => ?_) (fun hc => ?_)
        · replace h := (if_pos hc).symm.trans h; clear hc
          refine Ev.iload (q := 5) ⟨dX7_greatest_84, rfl⟩ rfl ?_
          refine Ev.istore (i := 5) (ls' := [(0, _), (1, _), (2, _), (3, _), (5, _), (6, _)]) ⟨dX7_greatest_86, rfl⟩ (by decide) rfl ?_
          obtain ⟨c12, h⟩ := ckR_s h
          refine Ev.iinc (q := 5) (ls' := [(0, _), (1, _), (2, _), (3, _), (5, _), (6, _)]) ⟨dX7_greatest_88, rfl⟩ rfl (by decide) c12 rfl ?_
          refine Ev.goto jX7_greatest_91 ?_
          exact ih _ _ _ h k1
        · replace h := (if_neg hc).symm.trans h; clear hc
          refine Ev.aload_n (q := 0) ⟨dX7_greatest_55, rfl⟩ rfl rfl ?_
          refine Ev.getRk (C2 := 6) (r := 0) fX7_10 rfl (by decide) (by decide) ⟨dX7_greatest_56, rfl⟩ ?_
          refine Ev.getRk (C2 := 0) (r := (3 * 0)) fX7_126 rfl (by decide) (by decide) ⟨dX7_greatest_59, rfl⟩ ?_
          refine Ev.iload (q := 5) ⟨dX7_greatest_62, rfl⟩ rfl ?_
          refine Ev.iload_n (q := 2) ⟨dX7_greatest_64, rfl⟩ rfl rfl ?_
          obtain ⟨r14, hv13, h⟩ := bnd_s h
          refine Ev.callV1 (mc1 := mc) (ms1 := ms) (v := vi r14) (h1 := hq D x) vX7_183 (c_X0_valueOf Θ D z _ _ _ _ _ hv13) rfl rfl (by decide) rfl ⟨by decide, by decide, Nat.le_of_eq (Nat.zero_add _), Nat.le_of_eq (Nat.zero_add _), Nat.le_of_ble_eq_true rfl⟩ ⟨dX7_greatest_65, rfl⟩ ?_
          clear hv13
          refine Ev.aload_n (q := 0) ⟨dX7_greatest_68, rfl⟩ rfl rfl ?_
          refine Ev.getRk (C2 := 6) (r := 0) fX7_10 rfl (by decide) (by decide) ⟨dX7_greatest_69, rfl⟩ ?_
          refine Ev.getRk (C2 := 0) (r := (3 * 0)) fX7_126 rfl (by decide) (by decide) ⟨dX7_greatest_72, rfl⟩ ?_
          refine Ev.iload (q := 4) ⟨dX7_greatest_75, rfl⟩ rfl ?_
          refine Ev.iload_n (q := 2) ⟨dX7_greatest_77, rfl⟩ rfl rfl ?_
          obtain ⟨r16, hv15, h⟩ := bnd_s h
          refine Ev.callV1 (mc1 := mc) (ms1 := ms) (v := vi r16) (h1 := hq D x) vX7_183 (c_X0_valueOf Θ D z _ _ _ _ _ hv15) rfl rfl (by decide) rfl ⟨by decide, by decide, Nat.le_of_eq (Nat.zero_add _), Nat.le_of_eq (Nat.zero_add _), Nat.le_of_ble_eq_true rfl⟩ ⟨dX7_greatest_78, rfl⟩ ?_
          clear hv15
          refine Ev.icmp_le jX7_greatest_81 (fun hc => ?_) (fun hc => ?_)
          · replace h := (if_pos hc).symm.trans h; clear hc
            obtain ⟨c17, h⟩ := ckR_s h
            refine Ev.iinc (q := 5) (ls' := [(0, _), (1, _), (2, _), (3, _), (5, _), (6, _)]) ⟨dX7_greatest_88, rfl⟩ rfl (by decide) c17 rfl ?_
            refine Ev.goto jX7_greatest_91 ?_
            exact ih _ _ _ h k1
          · replace h := (if_neg hc).symm.trans h; clear hc
            refine Ev.iload (q := 5) ⟨dX7_greatest_84, rfl⟩ rfl ?_
            refine Ev.istore (i := 5) (ls' := [(0, _), (1, _), (2, _), (3, _), (5, _), (6, _)]) ⟨dX7_greatest_86, rfl⟩ (by decide) rfl ?_
            obtain ⟨c18, h⟩ := ckR_s h
            refine Ev.iinc (q := 5) (ls' := [(0, _), (1, _), (2, _), (3, _), (5, _), (6, _)]) ⟨dX7_greatest_88, rfl⟩ rfl (by decide) c18 rfl ?_
            refine Ev.goto jX7_greatest_91 ?_
            exact ih _ _ _ h k1
def F_X7_greatest (z : Nat) (v0 : Nat) (v1 : Int) (v2 : Int) (x : Mm) : Option ((Int ⊕ String) × Mm) := bndX (F_X7_requireNode z (v0) (v1) x) fun r2 x3 => bndX (F_X7_requireField z (v0) (v2) x3) fun r5 x6 => (F_X6_recordsBelow z (0) (v1) x6).bind fun r8 => (F_X7_greatest_25 z (v0) (v1) (v2) (r8) x6 z ((-1 : Int)) ((0 : Int))).bind fun s19 => if s19 = (-1 : Int) then (some (.inr "java/util/NoSuchElementException", x6)) else (some ((.inl s19, x6)))
set_option maxHeartbeats 4000000 in
set_option maxRecDepth 20000 in
theorem c_X7_greatest (Θ : GC) (D : Nat → Nat → Prop) (z : Nat) (v0 : Nat) (v1 : Int) (v2 : Int) (x : Mm) (y) (h : F_X7_greatest z v0 v1 v2 x = some y) : Cal Θ mX7_greatest 7 111 3 18 [vr 7 (v0 + 1), vi (v1), vi (v2)] (hq D x) (ThrI D y) := by
  refine Cal.of (by decide +kernel) rfl rfl (Nat.le_of_ble_eq_true rfl) ?_
  show Ev Θ mX7_greatest 7 111 3 18 0 [(0, vr 7 (v0 + 1)), (1, vi (v1)), (2, vi (v2))] [] (hq D x) (ThrI D y)
  unfold F_X7_greatest at h
  refine Ev.aload_n (q := 0) ⟨dX7_greatest_0, rfl⟩ rfl rfl ?_
  refine Ev.iload_n (q := 1) ⟨dX7_greatest_1, rfl⟩ rfl rfl ?_
  rcases bndX_s h with ⟨r2, x3, hv1, h⟩ | ⟨E, x3, hv1, rfl⟩
  rotate_left
  · exact Ev.callVE (mc1 := 2) (ms1 := 12) (h1 := hq D x3) vX7_109 (c_X7_requireNode Θ D z _ _ _ _ hv1) rfl rfl (by decide) rfl ⟨by decide, by decide, by decide, by decide, Nat.le_of_ble_eq_true rfl⟩ ⟨dX7_greatest_2, rfl⟩ rfl ⟨rfl, rfl⟩
  refine Ev.callVN (mc1 := 2) (ms1 := 12) (h1 := hq D x3) vX7_109 (c_X7_requireNode Θ D z _ _ _ _ hv1) rfl rfl (by decide) rfl ⟨by decide, by decide, by decide, by decide, Nat.le_of_ble_eq_true rfl⟩ ⟨dX7_greatest_2, rfl⟩ ?_
  clear hv1
  refine Ev.aload_n (q := 0) ⟨dX7_greatest_5, rfl⟩ rfl rfl ?_
  refine Ev.iload_n (q := 2) ⟨dX7_greatest_6, rfl⟩ rfl rfl ?_
  rcases bndX_s h with ⟨r5, x6, hv4, h⟩ | ⟨E, x6, hv4, rfl⟩
  rotate_left
  · exact Ev.callVE (mc1 := 1) (ms1 := 6) (h1 := hq D x6) vX7_159 (c_X7_requireField Θ D z _ _ _ _ hv4) rfl rfl (by decide) rfl ⟨by decide, by decide, by decide, by decide, Nat.le_of_ble_eq_true rfl⟩ ⟨dX7_greatest_7, rfl⟩ rfl ⟨rfl, rfl⟩
  refine Ev.callVN (mc1 := 1) (ms1 := 6) (h1 := hq D x6) vX7_159 (c_X7_requireField Θ D z _ _ _ _ hv4) rfl rfl (by decide) rfl ⟨by decide, by decide, by decide, by decide, Nat.le_of_ble_eq_true rfl⟩ ⟨dX7_greatest_7, rfl⟩ ?_
  clear hv4
  refine Ev.aload_n (q := 0) ⟨dX7_greatest_10, rfl⟩ rfl rfl ?_
  refine Ev.getRk (C2 := 6) (r := 0) fX7_10 rfl (by decide) (by decide) ⟨dX7_greatest_11, rfl⟩ ?_
  refine Ev.iload_n (q := 1) ⟨dX7_greatest_14, rfl⟩ rfl rfl ?_
  obtain ⟨r8, hv7, h⟩ := bnd_s h
  refine Ev.callV1 (mc1 := 1) (ms1 := 6) (v := vl r8) (h1 := hq D x6) vX7_311 (c_X6_recordsBelow Θ D z _ _ _ _ hv7) rfl rfl (by decide) rfl ⟨by decide, by decide, Nat.le_of_eq (Nat.zero_add _), Nat.le_of_eq (Nat.zero_add _), Nat.le_of_ble_eq_true rfl⟩ ⟨dX7_greatest_15, rfl⟩ ?_
  clear hv7
  refine Ev.lstore_n (i := 3) (ls' := [(0, _), (1, _), (2, _), (3, _)]) ⟨dX7_greatest_18, rfl⟩ rfl (by decide) rfl ?_
  refine Ev.iconst ⟨dX7_greatest_19, rfl⟩ (inRd rfl) ?_
  refine Ev.istore (i := 5) (ls' := [(0, _), (1, _), (2, _), (3, _), (5, _)]) ⟨dX7_greatest_20, rfl⟩ (by decide) rfl ?_
  refine Ev.iconst ⟨dX7_greatest_22, rfl⟩ (inRd rfl) ?_
  refine Ev.istore (i := 6) (ls' := [(0, _), (1, _), (2, _), (3, _), (5, _), (6, _)]) ⟨dX7_greatest_23, rfl⟩ (by decide) rfl ?_
  obtain ⟨s19, hl, h⟩ := bnd_s h
  refine e_X7_greatest_25 Θ D z _ _ _ _ _ _ _ _ _ _ _ _ hl ?_
  clear hl
  refine Ev.iload (q := 4) ⟨dX7_greatest_94, rfl⟩ rfl ?_
  refine Ev.iconst ⟨dX7_greatest_96, rfl⟩ (inRd rfl) ?_
  refine Ev.icmp_ne jX7_greatest_97 (fun hc => ?_) (fun hc => ?_)
  · replace h := (if_neg hc).symm.trans h; clear hc
    refine Ev.iload (q := 4) ⟨dX7_greatest_111, rfl⟩ rfl ?_
    obtain rfl := Option.some.inj h
    exact Ev.ireturn (ty := .int) ⟨dX7_greatest_113, rfl⟩ rfl rfl ⟨rfl, rfl⟩
  · replace h := (if_pos hc).symm.trans h; clear hc
    obtain rfl := Option.some.inj h
    exact Ev.throwNS rfl tX7_314 rfl dX7_greatest_100 dX7_greatest_103 dX7_greatest_104 dX7_greatest_107 dX7_greatest_110 (by decide) (Nat.le_of_ble_eq_true rfl) (by decide) (by decide) ⟨rfl, rfl⟩

def F_X7_leased (z : Nat) (v0 : Nat) (v1 : Int) (v2 : Int) (x : Mm) : Option ((Int ⊕ String) × Mm) := bndX (F_X7_requireClient z (v0) (v1) x) fun r2 x3 => if v2 < 0 then (some (.inr "java/lang/IllegalArgumentException", x3)) else (if v2 ≤ (2 : Int) then (ckI v1 5 <| if (x3.1 3 (5 * 0 + (v1).toNat) 0) = 0 then (some ((.inl (-1 : Int), x3))) else (if v2 = 0 then (some ((.inl (x3.1 3 (5 * 0 + (v1).toNat) 1), x3))) else (if v2 = (1 : Int) then (some ((.inl (x3.1 3 (5 * 0 + (v1).toNat) 2), x3))) else (if (x3.1 3 (5 * 0 + (v1).toNat) 3) = 0 then (some ((.inl (0 : Int), x3))) else (some ((.inl (1 : Int), x3))))))) else (some (.inr "java/lang/IllegalArgumentException", x3)))
set_option maxHeartbeats 4000000 in
set_option maxRecDepth 20000 in
theorem c_X7_leased (Θ : GC) (D : Nat → Nat → Prop) (z : Nat) (v0 : Nat) (v1 : Int) (v2 : Int) (x : Mm) (y) (h : F_X7_leased z v0 v1 v2 x = some y) : Cal Θ mX7_leased 7 111 2 12 [vr 7 (v0 + 1), vi (v1), vi (v2)] (hq D x) (ThrI D y) := by
  refine Cal.of (by decide +kernel) rfl rfl (Nat.le_of_ble_eq_true rfl) ?_
  show Ev Θ mX7_leased 7 111 2 12 0 [(0, vr 7 (v0 + 1)), (1, vi (v1)), (2, vi (v2))] [] (hq D x) (ThrI D y)
  unfold F_X7_leased at h
  refine Ev.aload_n (q := 0) ⟨dX7_leased_0, rfl⟩ rfl rfl ?_
  refine Ev.iload_n (q := 1) ⟨dX7_leased_1, rfl⟩ rfl rfl ?_
  rcases bndX_s h with ⟨r2, x3, hv1, h⟩ | ⟨E, x3, hv1, rfl⟩
  rotate_left
  · exact Ev.callVE (mc1 := 1) (ms1 := 6) (h1 := hq D x3) vX7_106 (c_X7_requireClient Θ D z _ _ _ _ hv1) rfl rfl (by decide) rfl ⟨by decide, by decide, by decide, by decide, Nat.le_of_ble_eq_true rfl⟩ ⟨dX7_leased_2, rfl⟩ rfl ⟨rfl, rfl⟩
  refine Ev.callVN (mc1 := 1) (ms1 := 6) (h1 := hq D x3) vX7_106 (c_X7_requireClient Θ D z _ _ _ _ hv1) rfl rfl (by decide) rfl ⟨by decide, by decide, by decide, by decide, Nat.le_of_ble_eq_true rfl⟩ ⟨dX7_leased_2, rfl⟩ ?_
  clear hv1
  refine Ev.iload_n (q := 2) ⟨dX7_leased_5, rfl⟩ rfl rfl ?_
  refine Ev.if_lt jX7_leased_6 (fun hc => ?_) (fun hc => ?_)
  · replace h := (if_pos hc).symm.trans h; clear hc
    obtain rfl := Option.some.inj h
    exact Ev.throwSW eX7_IllegalArgumentException tX7_316 rfl dX7_leased_14 dX7_leased_17 dX7_leased_18 dX7_leased_21 dX7_leased_24 (by decide) (Nat.le_of_ble_eq_true rfl) (by decide) (by decide) ⟨rfl, rfl⟩
  · replace h := (if_neg hc).symm.trans h; clear hc
    refine Ev.iload_n (q := 2) ⟨dX7_leased_9, rfl⟩ rfl rfl ?_
    refine Ev.iconst ⟨dX7_leased_10, rfl⟩ (inRd rfl) ?_
    refine Ev.icmp_le jX7_leased_11 (fun hc => ?_) (fun hc => ?_)
    · replace h := (if_pos hc).symm.trans h; clear hc
      refine Ev.aload_n (q := 0) ⟨dX7_leased_25, rfl⟩ rfl rfl ?_
      refine Ev.getRk (C2 := 6) (r := 0) fX7_10 rfl (by decide) (by decide) ⟨dX7_leased_26, rfl⟩ ?_
      refine Ev.getRk (C2 := 11) (r := 0) fX7_115 rfl (by decide) (by decide) ⟨dX7_leased_29, rfl⟩ ?_
      refine Ev.iload_n (q := 1) ⟨dX7_leased_32, rfl⟩ rfl rfl ?_
      obtain ⟨c4, h⟩ := ckI_s h
      refine Ev.aaloadk (C := 3) (r := (5 * 0 + (v1).toNat)) (by decide) c4.1 c4.2 (sr11 c4) ⟨dX7_leased_33, rfl⟩ ?_
      refine Ev.astore_n (i := 3) (ls' := [(0, _), (1, _), (2, _), (3, _)]) ⟨dX7_leased_34, rfl⟩ rfl (by decide) rfl ?_
      refine Ev.aload_n (q := 3) ⟨dX7_leased_35, rfl⟩ rfl rfl ?_
      refine Ev.getI fX7_119 (Or.inr rfl) ⟨dX7_leased_36, rfl⟩ ?_
      refine Ev.if_ne jX7_leased_39 (fun hc => ?_) (fun hc => ?_)
      · replace h := (if_neg hc).symm.trans h; clear hc
        refine Ev.iload_n (q := 2) ⟨dX7_leased_44, rfl⟩ rfl rfl ?_
        refine Ev.if_ne jX7_leased_45 (fun hc => ?_) (fun hc => ?_)
        · replace h := (if_neg hc).symm.trans h; clear hc
          refine Ev.iload_n (q := 2) ⟨dX7_leased_53, rfl⟩ rfl rfl ?_
          refine Ev.iconst ⟨dX7_leased_54, rfl⟩ (inRd rfl) ?_
          refine Ev.icmp_ne jX7_leased_55 (fun hc => ?_) (fun hc => ?_)
          · replace h := (if_neg hc).symm.trans h; clear hc
            refine Ev.aload_n (q := 3) ⟨dX7_leased_63, rfl⟩ rfl rfl ?_
            refine Ev.getI fX7_318 (Or.inr rfl) ⟨dX7_leased_64, rfl⟩ ?_
            refine Ev.if_eq jX7_leased_67 (fun hc => ?_) (fun hc => ?_)
            · replace h := (if_pos hc).symm.trans h; clear hc
              refine Ev.iconst ⟨dX7_leased_74, rfl⟩ (inRd rfl) ?_
              obtain rfl := Option.some.inj h
              exact Ev.ireturn (ty := .int) ⟨dX7_leased_75, rfl⟩ rfl rfl ⟨rfl, rfl⟩
            · replace h := (if_neg hc).symm.trans h; clear hc
              refine Ev.iconst ⟨dX7_leased_70, rfl⟩ (inRd rfl) ?_
              refine Ev.goto jX7_leased_71 ?_
              obtain rfl := Option.some.inj h
              exact Ev.ireturn (ty := .int) ⟨dX7_leased_75, rfl⟩ rfl rfl ⟨rfl, rfl⟩
          · replace h := (if_pos hc).symm.trans h; clear hc
            refine Ev.aload_n (q := 3) ⟨dX7_leased_58, rfl⟩ rfl rfl ?_
            refine Ev.getI fX7_154 (Or.inl rfl) ⟨dX7_leased_59, rfl⟩ ?_
            obtain rfl := Option.some.inj h
            exact Ev.ireturn (ty := .int) ⟨dX7_leased_62, rfl⟩ rfl rfl ⟨rfl, rfl⟩
        · replace h := (if_pos hc).symm.trans h; clear hc
          refine Ev.aload_n (q := 3) ⟨dX7_leased_48, rfl⟩ rfl rfl ?_
          refine Ev.getI fX7_209 (Or.inl rfl) ⟨dX7_leased_49, rfl⟩ ?_
          obtain rfl := Option.some.inj h
          exact Ev.ireturn (ty := .int) ⟨dX7_leased_52, rfl⟩ rfl rfl ⟨rfl, rfl⟩
      · replace h := (if_pos hc).symm.trans h; clear hc
        refine Ev.iconst ⟨dX7_leased_42, rfl⟩ (inRd rfl) ?_
        obtain rfl := Option.some.inj h
        exact Ev.ireturn (ty := .int) ⟨dX7_leased_43, rfl⟩ rfl rfl ⟨rfl, rfl⟩
    · replace h := (if_neg hc).symm.trans h; clear hc
      obtain rfl := Option.some.inj h
      exact Ev.throwSW eX7_IllegalArgumentException tX7_316 rfl dX7_leased_14 dX7_leased_17 dX7_leased_18 dX7_leased_21 dX7_leased_24 (by decide) (Nat.le_of_ble_eq_true rfl) (by decide) (by decide) ⟨rfl, rfl⟩

def F_X7_blockers (z : Nat) (v0 : Nat) (v1 : Int) (v2 : Int) (v3 : Int) (x : Mm) : Option ((Int ⊕ String) × Mm) := bndX (F_X7_requireClient z (v0) (v1) x) fun r2 x3 => bndX (F_X7_requireNode z (v0) (v2) x3) fun r5 x6 => (F_X6_blockersOf z (0) (v1) (v2) (v3) x6).bind fun r8 => some ((.inl r8, x6))
set_option maxHeartbeats 4000000 in
set_option maxRecDepth 20000 in
theorem c_X7_blockers (Θ : GC) (D : Nat → Nat → Prop) (z : Nat) (v0 : Nat) (v1 : Int) (v2 : Int) (v3 : Int) (x : Mm) (y) (h : F_X7_blockers z v0 v1 v2 v3 x = some y) : Cal Θ mX7_blockers 7 111 2 12 [vr 7 (v0 + 1), vi (v1), vi (v2), vi (v3)] (hq D x) (ThrI D y) := by
  refine Cal.of (by decide +kernel) rfl rfl (Nat.le_of_ble_eq_true rfl) ?_
  show Ev Θ mX7_blockers 7 111 2 12 0 [(0, vr 7 (v0 + 1)), (1, vi (v1)), (2, vi (v2)), (3, vi (v3))] [] (hq D x) (ThrI D y)
  unfold F_X7_blockers at h
  refine Ev.aload_n (q := 0) ⟨dX7_blockers_0, rfl⟩ rfl rfl ?_
  refine Ev.iload_n (q := 1) ⟨dX7_blockers_1, rfl⟩ rfl rfl ?_
  rcases bndX_s h with ⟨r2, x3, hv1, h⟩ | ⟨E, x3, hv1, rfl⟩
  rotate_left
  · exact Ev.callVE (mc1 := 1) (ms1 := 6) (h1 := hq D x3) vX7_106 (c_X7_requireClient Θ D z _ _ _ _ hv1) rfl rfl (by decide) rfl ⟨by decide, by decide, by decide, by decide, Nat.le_of_ble_eq_true rfl⟩ ⟨dX7_blockers_2, rfl⟩ rfl ⟨rfl, rfl⟩
  refine Ev.callVN (mc1 := 1) (ms1 := 6) (h1 := hq D x3) vX7_106 (c_X7_requireClient Θ D z _ _ _ _ hv1) rfl rfl (by decide) rfl ⟨by decide, by decide, by decide, by decide, Nat.le_of_ble_eq_true rfl⟩ ⟨dX7_blockers_2, rfl⟩ ?_
  clear hv1
  refine Ev.aload_n (q := 0) ⟨dX7_blockers_5, rfl⟩ rfl rfl ?_
  refine Ev.iload_n (q := 2) ⟨dX7_blockers_6, rfl⟩ rfl rfl ?_
  rcases bndX_s h with ⟨r5, x6, hv4, h⟩ | ⟨E, x6, hv4, rfl⟩
  rotate_left
  · exact Ev.callVE (mc1 := 0) (ms1 := 0) (h1 := hq D x6) vX7_109 (c_X7_requireNode Θ D z _ _ _ _ hv4) rfl rfl (by decide) rfl ⟨by decide, by decide, by decide, by decide, Nat.le_of_ble_eq_true rfl⟩ ⟨dX7_blockers_7, rfl⟩ rfl ⟨rfl, rfl⟩
  refine Ev.callVN (mc1 := 0) (ms1 := 0) (h1 := hq D x6) vX7_109 (c_X7_requireNode Θ D z _ _ _ _ hv4) rfl rfl (by decide) rfl ⟨by decide, by decide, by decide, by decide, Nat.le_of_ble_eq_true rfl⟩ ⟨dX7_blockers_7, rfl⟩ ?_
  clear hv4
  refine Ev.aload_n (q := 0) ⟨dX7_blockers_10, rfl⟩ rfl rfl ?_
  refine Ev.getRk (C2 := 6) (r := 0) fX7_10 rfl (by decide) (by decide) ⟨dX7_blockers_11, rfl⟩ ?_
  refine Ev.iload_n (q := 1) ⟨dX7_blockers_14, rfl⟩ rfl rfl ?_
  refine Ev.iload_n (q := 2) ⟨dX7_blockers_15, rfl⟩ rfl rfl ?_
  refine Ev.iload_n (q := 3) ⟨dX7_blockers_16, rfl⟩ rfl rfl ?_
  obtain ⟨r8, hv7, h⟩ := bnd_s h
  refine Ev.callV1 (mc1 := 0) (ms1 := 0) (v := vi r8) (h1 := hq D x6) vX7_135 (c_X6_blockersOf Θ D z _ _ _ _ _ _ hv7) rfl rfl (by decide) rfl ⟨by decide, by decide, Nat.le_of_eq (Nat.zero_add _), Nat.le_of_eq (Nat.zero_add _), Nat.le_of_ble_eq_true rfl⟩ ⟨dX7_blockers_17, rfl⟩ ?_
  clear hv7
  obtain rfl := Option.some.inj h
  exact Ev.ireturn (ty := .int) ⟨dX7_blockers_20, rfl⟩ rfl rfl ⟨rfl, rfl⟩

def F_X7_nextEnd_4 (z : Nat) (v0 : Nat) (x : Mm) : Nat → Int → Int → Option (Int)
  | 0, _, _ => none
  | k + 1, v1, v2 => if (x.1 6 0 2) ≤ v2 then (some (v1)) else (ckI v2 5 <| if (x.1 3 (5 * 0 + (v2).toNat) 0) = 0 then (ckR ((v2 + 1)) <| F_X7_nextEnd_4 z v0 x k (v1) ((v2 + 1))) else (if v1 = (-1 : Int) then (ckR ((v2 + 1)) <| F_X7_nextEnd_4 z v0 x k ((x.1 3 (5 * 0 + (v2).toNat) 2)) ((v2 + 1))) else (if v1 ≤ (x.1 3 (5 * 0 + (v2).toNat) 2) then (ckR ((v2 + 1)) <| F_X7_nextEnd_4 z v0 x k (v1) ((v2 + 1))) else (ckR ((v2 + 1)) <| F_X7_nextEnd_4 z v0 x k ((x.1 3 (5 * 0 + (v2).toNat) 2)) ((v2 + 1))))))
set_option maxHeartbeats 4000000 in
set_option maxRecDepth 20000 in
theorem e_X7_nextEnd_4 (Θ : GC) (D : Nat → Nat → Prop) (z : Nat) (v0 : Nat) (x : Mm) (Q : Ro → Hp → Prop) (mc ms : Nat) : ∀ (k : Nat) (v1 : Int) (v2 : Int) (y), F_X7_nextEnd_4 z v0 x k v1 v2 = some y → (Ev Θ mX7_nextEnd 6 90 mc ms 56 [(0, vr 7 (v0 + 1)), (1, vi (y))] [] (hq D x) Q) → Ev Θ mX7_nextEnd 6 90 mc ms 4 [(0, vr 7 (v0 + 1)), (1, vi (v1)), (2, vi (v2))] [] (hq D x) Q := by
  intro k
  induction k with
  | zero => intro v1 v2 y h; exact absurd h (by unfold F_X7_nextEnd_4; exact nofun)
  | succ k ih =>
    intro v1 v2 y h k1
    unfold F_X7_nextEnd_4 at h
    refine Ev.iload_n (q := 2) ⟨dX7_nextEnd_4, rfl⟩ rfl rfl ?_
    refine Ev.aload_n (q := 0) ⟨dX7_nextEnd_5, rfl⟩ rfl rfl ?_
    refine Ev.getRk (C2 := 6) (r := 0) fX7_10 rfl (by decide) (by decide) ⟨dX7_nextEnd_6, rfl⟩ ?_
    refine Ev.getI fX7_267 (Or.inl rfl) ⟨dX7_nextEnd_9, rfl⟩ ?_
    refine Ev.icmp_ge jX7_nextEnd_12 (fun hc => ?_) (fun hc => ?_)
    · replace h := (if_pos hc).symm.trans h; clear hc
      refine Ev.keep [0, 1] rfl ?_
      obtain rfl := Option.some.inj h
      exact k1
    · replace h := (if_neg hc).symm.trans h; clear hc
      refine Ev.aload_n (q := 0) ⟨dX7_nextEnd_15, rfl⟩ rfl rfl ?_
      refine Ev.getRk (C2 := 6) (r := 0) fX7_10 rfl (by decide) (by decide) ⟨dX7_nextEnd_16, rfl⟩ ?_
      refine Ev.getRk (C2 := 11) (r := 0) fX7_115 rfl (by decide) (by decide) ⟨dX7_nextEnd_19, rfl⟩ ?_
      refine Ev.iload_n (q := 2) ⟨dX7_nextEnd_22, rfl⟩ rfl rfl ?_
      obtain ⟨c1, h⟩ := ckI_s h
      refine Ev.aaloadk (C := 3) (r := (5 * 0 + (v2).toNat)) (by decide) c1.1 c1.2 (sr11 c1) ⟨dX7_nextEnd_23, rfl⟩ ?_
      refine Ev.astore_n (i := 3) (ls' := [(0, _), (1, _), (2, _), (3, _)]) ⟨dX7_nextEnd_24, rfl⟩ rfl (by decide) rfl ?_
      refine Ev.aload_n (q := 3) ⟨dX7_nextEnd_25, rfl⟩ rfl rfl ?_
      refine Ev.getI fX7_119 (Or.inr rfl) ⟨dX7_nextEnd_26, rfl⟩ ?_
      refine Ev.if_eq jX7_nextEnd_29 (fun hc => ?_) (fun hc => ?_)
      · replace h := (if_pos hc).symm.trans h; clear hc
        obtain ⟨c2, h⟩ := ckR_s h
        refine Ev.iinc (q := 2) (ls' := [(0, _), (1, _), (2, _), (3, _)]) ⟨dX7_nextEnd_50, rfl⟩ rfl (by decide) c2 rfl ?_
        refine Ev.goto jX7_nextEnd_53 ?_
        refine Ev.keep [0, 1, 2] rfl ?_
        exact ih _ _ _ h k1
      · replace h := (if_neg hc).symm.trans h; clear hc
        refine Ev.iload_n (q := 1) ⟨dX7_nextEnd_32, rfl⟩ rfl rfl ?_
        refine Ev.iconst ⟨dX7_nextEnd_33, rfl⟩ (inRd rfl) ?_
        refine Ev.icmp_eq jX7_nextEnd_34 (fun hc => ?_) (fun hc => ?_)
        · replace h := (if_pos hc).symm.trans h; clear hc
          refine Ev.aload_n (q := 3) ⟨dX7_nextEnd_45, rfl⟩ rfl rfl ?_
          refine Ev.getI fX7_154 (Or.inl rfl) ⟨dX7_nextEnd_46, rfl⟩ ?_
          refine Ev.istore_n (i := 1) (ls' := [(0, _), (1, _), (2, _), (3, _)]) ⟨dX7_nextEnd_49, rfl⟩ rfl (by decide) rfl ?_
          obtain ⟨c3, h⟩ := ckR_s h
          refine Ev.iinc (q := 2) (ls' := [(0, _), (1, _), (2, _), (3, _)]) ⟨dX7_nextEnd_50, rfl⟩ rfl (by decide) c3 rfl ?_
          refine Ev.goto jX7_nextEnd_53 ?_
          refine Ev.keep [0, 1, 2] rfl ?_
          exact ih _ _ _ h k1
        · replace h := (if_neg hc).symm.trans h; clear hc
          refine Ev.aload_n (q := 3) ⟨dX7_nextEnd_37, rfl⟩ rfl rfl ?_
          refine Ev.getI fX7_154 (Or.inl rfl) ⟨dX7_nextEnd_38, rfl⟩ ?_
          refine Ev.iload_n (q := 1) ⟨dX7_nextEnd_41, rfl⟩ rfl rfl ?_
          refine Ev.icmp_ge jX7_nextEnd_42 (fun hc => ?_) (fun hc => ?_)
          · replace h := (if_pos hc).symm.trans h; clear hc
            obtain ⟨c4, h⟩ := ckR_s h
            refine Ev.iinc (q := 2) (ls' := [(0, _), (1, _), (2, _), (3, _)]) ⟨dX7_nextEnd_50, rfl⟩ rfl (by decide) c4 rfl ?_
            refine Ev.goto jX7_nextEnd_53 ?_
            refine Ev.keep [0, 1, 2] rfl ?_
            exact ih _ _ _ h k1
          · replace h := (if_neg hc).symm.trans h; clear hc
            refine Ev.aload_n (q := 3) ⟨dX7_nextEnd_45, rfl⟩ rfl rfl ?_
            refine Ev.getI fX7_154 (Or.inl rfl) ⟨dX7_nextEnd_46, rfl⟩ ?_
            refine Ev.istore_n (i := 1) (ls' := [(0, _), (1, _), (2, _), (3, _)]) ⟨dX7_nextEnd_49, rfl⟩ rfl (by decide) rfl ?_
            obtain ⟨c5, h⟩ := ckR_s h
            refine Ev.iinc (q := 2) (ls' := [(0, _), (1, _), (2, _), (3, _)]) ⟨dX7_nextEnd_50, rfl⟩ rfl (by decide) c5 rfl ?_
            refine Ev.goto jX7_nextEnd_53 ?_
            refine Ev.keep [0, 1, 2] rfl ?_
            exact ih _ _ _ h k1
def F_X7_nextEnd (z : Nat) (v0 : Nat) (x : Mm) : Option ((Int ⊕ String) × Mm) := (F_X7_nextEnd_4 z (v0) x z ((-1 : Int)) ((0 : Int))).bind fun s6 => if s6 = (-1 : Int) then (some (.inr "java/util/NoSuchElementException", x)) else (some ((.inl s6, x)))
set_option maxHeartbeats 4000000 in
set_option maxRecDepth 20000 in
theorem c_X7_nextEnd (Θ : GC) (D : Nat → Nat → Prop) (z : Nat) (v0 : Nat) (x : Mm) (y) (h : F_X7_nextEnd z v0 x = some y) : Cal Θ mX7_nextEnd 6 90 1 6 [vr 7 (v0 + 1)] (hq D x) (ThrI D y) := by
  refine Cal.of (by decide +kernel) rfl rfl (Nat.le_of_ble_eq_true rfl) ?_
  show Ev Θ mX7_nextEnd 6 90 1 6 0 [(0, vr 7 (v0 + 1))] [] (hq D x) (ThrI D y)
  unfold F_X7_nextEnd at h
  refine Ev.iconst ⟨dX7_nextEnd_0, rfl⟩ (inRd rfl) ?_
  refine Ev.istore_n (i := 1) (ls' := [(0, _), (1, _)]) ⟨dX7_nextEnd_1, rfl⟩ rfl (by decide) rfl ?_
  refine Ev.iconst ⟨dX7_nextEnd_2, rfl⟩ (inRd rfl) ?_
  refine Ev.istore_n (i := 2) (ls' := [(0, _), (1, _), (2, _)]) ⟨dX7_nextEnd_3, rfl⟩ rfl (by decide) rfl ?_
  obtain ⟨s6, hl, h⟩ := bnd_s h
  refine e_X7_nextEnd_4 Θ D z _ _ _ _ _ _ _ _ _ hl ?_
  clear hl
  refine Ev.iload_n (q := 1) ⟨dX7_nextEnd_56, rfl⟩ rfl rfl ?_
  refine Ev.iconst ⟨dX7_nextEnd_57, rfl⟩ (inRd rfl) ?_
  refine Ev.icmp_ne jX7_nextEnd_58 (fun hc => ?_) (fun hc => ?_)
  · replace h := (if_neg hc).symm.trans h; clear hc
    refine Ev.iload_n (q := 1) ⟨dX7_nextEnd_72, rfl⟩ rfl rfl ?_
    obtain rfl := Option.some.inj h
    exact Ev.ireturn (ty := .int) ⟨dX7_nextEnd_73, rfl⟩ rfl rfl ⟨rfl, rfl⟩
  · replace h := (if_pos hc).symm.trans h; clear hc
    obtain rfl := Option.some.inj h
    exact Ev.throwNS rfl tX7_321 rfl dX7_nextEnd_61 dX7_nextEnd_64 dX7_nextEnd_65 dX7_nextEnd_68 dX7_nextEnd_71 (by decide) (Nat.le_of_ble_eq_true rfl) (by decide) (by decide) ⟨rfl, rfl⟩

def F_X7_isInCopy (z : Nat) (v0 : Nat) (v1 : Int) (v2 : Int) (x : Mm) : Option ((Int ⊕ String) × Mm) := bndX (F_X7_requireClient z (v0) (v1) x) fun r2 x3 => bndX (F_X7_requireNode z (v0) (v2) x3) fun r5 x6 => bndX (F_X7_requireLease z (v0) (v1) x6) fun r8 x9 => ckI v1 5 <| (F_X0_has z ((3 * (5 * 0 + (v1).toNat) + 2)) (v2) x9).bind fun r12 => ckZ (r12) <| some ((.inl r12, x9))
set_option maxHeartbeats 4000000 in
set_option maxRecDepth 20000 in
theorem c_X7_isInCopy (Θ : GC) (D : Nat → Nat → Prop) (z : Nat) (v0 : Nat) (v1 : Int) (v2 : Int) (x : Mm) (y) (h : F_X7_isInCopy z v0 v1 v2 x = some y) : Cal Θ mX7_isInCopy 7 111 3 18 [vr 7 (v0 + 1), vi (v1), vi (v2)] (hq D x) (ThrI D y) := by
  refine Cal.of (by decide +kernel) rfl rfl (Nat.le_of_ble_eq_true rfl) ?_
  show Ev Θ mX7_isInCopy 7 111 3 18 0 [(0, vr 7 (v0 + 1)), (1, vi (v1)), (2, vi (v2))] [] (hq D x) (ThrI D y)
  unfold F_X7_isInCopy at h
  refine Ev.aload_n (q := 0) ⟨dX7_isInCopy_0, rfl⟩ rfl rfl ?_
  refine Ev.iload_n (q := 1) ⟨dX7_isInCopy_1, rfl⟩ rfl rfl ?_
  rcases bndX_s h with ⟨r2, x3, hv1, h⟩ | ⟨E, x3, hv1, rfl⟩
  rotate_left
  · exact Ev.callVE (mc1 := 2) (ms1 := 12) (h1 := hq D x3) vX7_106 (c_X7_requireClient Θ D z _ _ _ _ hv1) rfl rfl (by decide) rfl ⟨by decide, by decide, by decide, by decide, Nat.le_of_ble_eq_true rfl⟩ ⟨dX7_isInCopy_2, rfl⟩ rfl ⟨rfl, rfl⟩
  refine Ev.callVN (mc1 := 2) (ms1 := 12) (h1 := hq D x3) vX7_106 (c_X7_requireClient Θ D z _ _ _ _ hv1) rfl rfl (by decide) rfl ⟨by decide, by decide, by decide, by decide, Nat.le_of_ble_eq_true rfl⟩ ⟨dX7_isInCopy_2, rfl⟩ ?_
  clear hv1
  refine Ev.aload_n (q := 0) ⟨dX7_isInCopy_5, rfl⟩ rfl rfl ?_
  refine Ev.iload_n (q := 2) ⟨dX7_isInCopy_6, rfl⟩ rfl rfl ?_
  rcases bndX_s h with ⟨r5, x6, hv4, h⟩ | ⟨E, x6, hv4, rfl⟩
  rotate_left
  · exact Ev.callVE (mc1 := 1) (ms1 := 6) (h1 := hq D x6) vX7_109 (c_X7_requireNode Θ D z _ _ _ _ hv4) rfl rfl (by decide) rfl ⟨by decide, by decide, by decide, by decide, Nat.le_of_ble_eq_true rfl⟩ ⟨dX7_isInCopy_7, rfl⟩ rfl ⟨rfl, rfl⟩
  refine Ev.callVN (mc1 := 1) (ms1 := 6) (h1 := hq D x6) vX7_109 (c_X7_requireNode Θ D z _ _ _ _ hv4) rfl rfl (by decide) rfl ⟨by decide, by decide, by decide, by decide, Nat.le_of_ble_eq_true rfl⟩ ⟨dX7_isInCopy_7, rfl⟩ ?_
  clear hv4
  refine Ev.aload_n (q := 0) ⟨dX7_isInCopy_10, rfl⟩ rfl rfl ?_
  refine Ev.iload_n (q := 1) ⟨dX7_isInCopy_11, rfl⟩ rfl rfl ?_
  rcases bndX_s h with ⟨r8, x9, hv7, h⟩ | ⟨E, x9, hv7, rfl⟩
  rotate_left
  · exact Ev.callVE (mc1 := 0) (ms1 := 0) (h1 := hq D x9) vX7_148 (c_X7_requireLease Θ D z _ _ _ _ hv7) rfl rfl (by decide) rfl ⟨by decide, by decide, by decide, by decide, Nat.le_of_ble_eq_true rfl⟩ ⟨dX7_isInCopy_12, rfl⟩ rfl ⟨rfl, rfl⟩
  refine Ev.callVN (mc1 := 0) (ms1 := 0) (h1 := hq D x9) vX7_148 (c_X7_requireLease Θ D z _ _ _ _ hv7) rfl rfl (by decide) rfl ⟨by decide, by decide, by decide, by decide, Nat.le_of_ble_eq_true rfl⟩ ⟨dX7_isInCopy_12, rfl⟩ ?_
  clear hv7
  refine Ev.aload_n (q := 0) ⟨dX7_isInCopy_15, rfl⟩ rfl rfl ?_
  refine Ev.getRk (C2 := 6) (r := 0) fX7_10 rfl (by decide) (by decide) ⟨dX7_isInCopy_16, rfl⟩ ?_
  refine Ev.getRk (C2 := 11) (r := 0) fX7_115 rfl (by decide) (by decide) ⟨dX7_isInCopy_19, rfl⟩ ?_
  refine Ev.iload_n (q := 1) ⟨dX7_isInCopy_22, rfl⟩ rfl rfl ?_
  obtain ⟨c10, h⟩ := ckI_s h
  refine Ev.aaloadk (C := 3) (r := (5 * 0 + (v1).toNat)) (by decide) c10.1 c10.2 (sr11 c10) ⟨dX7_isInCopy_23, rfl⟩ ?_
  refine Ev.getRk (C2 := 0) (r := (3 * (5 * 0 + (v1).toNat) + 2)) fX7_180 rfl (by decide) (by decide) ⟨dX7_isInCopy_24, rfl⟩ ?_
  refine Ev.iload_n (q := 2) ⟨dX7_isInCopy_27, rfl⟩ rfl rfl ?_
  obtain ⟨r12, hv11, h⟩ := bnd_s h
  refine Ev.callV1 (mc1 := 0) (ms1 := 0) (v := vi r12) (h1 := hq D x9) vX7_129 (c_X0_has Θ D z _ _ _ _ hv11) rfl rfl (by decide) rfl ⟨by decide, by decide, Nat.le_of_eq (Nat.zero_add _), Nat.le_of_eq (Nat.zero_add _), Nat.le_of_ble_eq_true rfl⟩ ⟨dX7_isInCopy_28, rfl⟩ ?_
  clear hv11
  obtain ⟨c13, h⟩ := ckZ_s h
  obtain rfl := Option.some.inj h
  exact Ev.ireturn (ty := .boolean) ⟨dX7_isInCopy_31, rfl⟩ rfl (nz c13) ⟨rfl, rfl⟩

def F_X7_copyField (z : Nat) (v0 : Nat) (v1 : Int) (v2 : Int) (v3 : Int) (x : Mm) : Option ((Int ⊕ String) × Mm) := bndX (F_X7_requireClient z (v0) (v1) x) fun r2 x3 => bndX (F_X7_requireNode z (v0) (v2) x3) fun r5 x6 => bndX (F_X7_requireField z (v0) (v3) x6) fun r8 x9 => bndX (F_X7_requireLease z (v0) (v1) x9) fun r11 x12 => bndX (F_X7_requireInCopy z (v0) (v1) (v2) x12) fun r14 x15 => ckI v1 5 <| (F_X0_valueOf z ((3 * (5 * 0 + (v1).toNat) + 2)) (v2) (v3) x15).bind fun r18 => some ((.inl r18, x15))
set_option maxHeartbeats 4000000 in
set_option maxRecDepth 20000 in
theorem c_X7_copyField (Θ : GC) (D : Nat → Nat → Prop) (z : Nat) (v0 : Nat) (v1 : Int) (v2 : Int) (v3 : Int) (x : Mm) (y) (h : F_X7_copyField z v0 v1 v2 v3 x = some y) : Cal Θ mX7_copyField 7 112 5 30 [vr 7 (v0 + 1), vi (v1), vi (v2), vi (v3)] (hq D x) (ThrI D y) := by
  refine Cal.of (by decide +kernel) rfl rfl (Nat.le_of_ble_eq_true rfl) ?_
  show Ev Θ mX7_copyField 7 112 5 30 0 [(0, vr 7 (v0 + 1)), (1, vi (v1)), (2, vi (v2)), (3, vi (v3))] [] (hq D x) (ThrI D y)
  unfold F_X7_copyField at h
  refine Ev.aload_n (q := 0) ⟨dX7_copyField_0, rfl⟩ rfl rfl ?_
  refine Ev.iload_n (q := 1) ⟨dX7_copyField_1, rfl⟩ rfl rfl ?_
  rcases bndX_s h with ⟨r2, x3, hv1, h⟩ | ⟨E, x3, hv1, rfl⟩
  rotate_left
  · exact Ev.callVE (mc1 := 4) (ms1 := 24) (h1 := hq D x3) vX7_106 (c_X7_requireClient Θ D z _ _ _ _ hv1) rfl rfl (by decide) rfl ⟨by decide, by decide, by decide, by decide, Nat.le_of_ble_eq_true rfl⟩ ⟨dX7_copyField_2, rfl⟩ rfl ⟨rfl, rfl⟩
  refine Ev.callVN (mc1 := 4) (ms1 := 24) (h1 := hq D x3) vX7_106 (c_X7_requireClient Θ D z _ _ _ _ hv1) rfl rfl (by decide) rfl ⟨by decide, by decide, by decide, by decide, Nat.le_of_ble_eq_true rfl⟩ ⟨dX7_copyField_2, rfl⟩ ?_
  clear hv1
  refine Ev.aload_n (q := 0) ⟨dX7_copyField_5, rfl⟩ rfl rfl ?_
  refine Ev.iload_n (q := 2) ⟨dX7_copyField_6, rfl⟩ rfl rfl ?_
  rcases bndX_s h with ⟨r5, x6, hv4, h⟩ | ⟨E, x6, hv4, rfl⟩
  rotate_left
  · exact Ev.callVE (mc1 := 3) (ms1 := 18) (h1 := hq D x6) vX7_109 (c_X7_requireNode Θ D z _ _ _ _ hv4) rfl rfl (by decide) rfl ⟨by decide, by decide, by decide, by decide, Nat.le_of_ble_eq_true rfl⟩ ⟨dX7_copyField_7, rfl⟩ rfl ⟨rfl, rfl⟩
  refine Ev.callVN (mc1 := 3) (ms1 := 18) (h1 := hq D x6) vX7_109 (c_X7_requireNode Θ D z _ _ _ _ hv4) rfl rfl (by decide) rfl ⟨by decide, by decide, by decide, by decide, Nat.le_of_ble_eq_true rfl⟩ ⟨dX7_copyField_7, rfl⟩ ?_
  clear hv4
  refine Ev.aload_n (q := 0) ⟨dX7_copyField_10, rfl⟩ rfl rfl ?_
  refine Ev.iload_n (q := 3) ⟨dX7_copyField_11, rfl⟩ rfl rfl ?_
  rcases bndX_s h with ⟨r8, x9, hv7, h⟩ | ⟨E, x9, hv7, rfl⟩
  rotate_left
  · exact Ev.callVE (mc1 := 2) (ms1 := 12) (h1 := hq D x9) vX7_159 (c_X7_requireField Θ D z _ _ _ _ hv7) rfl rfl (by decide) rfl ⟨by decide, by decide, by decide, by decide, Nat.le_of_ble_eq_true rfl⟩ ⟨dX7_copyField_12, rfl⟩ rfl ⟨rfl, rfl⟩
  refine Ev.callVN (mc1 := 2) (ms1 := 12) (h1 := hq D x9) vX7_159 (c_X7_requireField Θ D z _ _ _ _ hv7) rfl rfl (by decide) rfl ⟨by decide, by decide, by decide, by decide, Nat.le_of_ble_eq_true rfl⟩ ⟨dX7_copyField_12, rfl⟩ ?_
  clear hv7
  refine Ev.aload_n (q := 0) ⟨dX7_copyField_15, rfl⟩ rfl rfl ?_
  refine Ev.iload_n (q := 1) ⟨dX7_copyField_16, rfl⟩ rfl rfl ?_
  rcases bndX_s h with ⟨r11, x12, hv10, h⟩ | ⟨E, x12, hv10, rfl⟩
  rotate_left
  · exact Ev.callVE (mc1 := 1) (ms1 := 6) (h1 := hq D x12) vX7_148 (c_X7_requireLease Θ D z _ _ _ _ hv10) rfl rfl (by decide) rfl ⟨by decide, by decide, by decide, by decide, Nat.le_of_ble_eq_true rfl⟩ ⟨dX7_copyField_17, rfl⟩ rfl ⟨rfl, rfl⟩
  refine Ev.callVN (mc1 := 1) (ms1 := 6) (h1 := hq D x12) vX7_148 (c_X7_requireLease Θ D z _ _ _ _ hv10) rfl rfl (by decide) rfl ⟨by decide, by decide, by decide, by decide, Nat.le_of_ble_eq_true rfl⟩ ⟨dX7_copyField_17, rfl⟩ ?_
  clear hv10
  refine Ev.aload_n (q := 0) ⟨dX7_copyField_20, rfl⟩ rfl rfl ?_
  refine Ev.iload_n (q := 1) ⟨dX7_copyField_21, rfl⟩ rfl rfl ?_
  refine Ev.iload_n (q := 2) ⟨dX7_copyField_22, rfl⟩ rfl rfl ?_
  rcases bndX_s h with ⟨r14, x15, hv13, h⟩ | ⟨E, x15, hv13, rfl⟩
  rotate_left
  · exact Ev.callVE (mc1 := 0) (ms1 := 0) (h1 := hq D x15) vX7_166 (c_X7_requireInCopy Θ D z _ _ _ _ _ hv13) rfl rfl (by decide) rfl ⟨by decide, by decide, by decide, by decide, Nat.le_of_ble_eq_true rfl⟩ ⟨dX7_copyField_23, rfl⟩ rfl ⟨rfl, rfl⟩
  refine Ev.callVN (mc1 := 0) (ms1 := 0) (h1 := hq D x15) vX7_166 (c_X7_requireInCopy Θ D z _ _ _ _ _ hv13) rfl rfl (by decide) rfl ⟨by decide, by decide, by decide, by decide, Nat.le_of_ble_eq_true rfl⟩ ⟨dX7_copyField_23, rfl⟩ ?_
  clear hv13
  refine Ev.aload_n (q := 0) ⟨dX7_copyField_26, rfl⟩ rfl rfl ?_
  refine Ev.getRk (C2 := 6) (r := 0) fX7_10 rfl (by decide) (by decide) ⟨dX7_copyField_27, rfl⟩ ?_
  refine Ev.getRk (C2 := 11) (r := 0) fX7_115 rfl (by decide) (by decide) ⟨dX7_copyField_30, rfl⟩ ?_
  refine Ev.iload_n (q := 1) ⟨dX7_copyField_33, rfl⟩ rfl rfl ?_
  obtain ⟨c16, h⟩ := ckI_s h
  refine Ev.aaloadk (C := 3) (r := (5 * 0 + (v1).toNat)) (by decide) c16.1 c16.2 (sr11 c16) ⟨dX7_copyField_34, rfl⟩ ?_
  refine Ev.getRk (C2 := 0) (r := (3 * (5 * 0 + (v1).toNat) + 2)) fX7_180 rfl (by decide) (by decide) ⟨dX7_copyField_35, rfl⟩ ?_
  refine Ev.iload_n (q := 2) ⟨dX7_copyField_38, rfl⟩ rfl rfl ?_
  refine Ev.iload_n (q := 3) ⟨dX7_copyField_39, rfl⟩ rfl rfl ?_
  obtain ⟨r18, hv17, h⟩ := bnd_s h
  refine Ev.callV1 (mc1 := 0) (ms1 := 0) (v := vi r18) (h1 := hq D x15) vX7_183 (c_X0_valueOf Θ D z _ _ _ _ _ hv17) rfl rfl (by decide) rfl ⟨by decide, by decide, Nat.le_of_eq (Nat.zero_add _), Nat.le_of_eq (Nat.zero_add _), Nat.le_of_ble_eq_true rfl⟩ ⟨dX7_copyField_40, rfl⟩ ?_
  clear hv17
  obtain rfl := Option.some.inj h
  exact Ev.ireturn (ty := .int) ⟨dX7_copyField_43, rfl⟩ rfl rfl ⟨rfl, rfl⟩

def F_X7_changedCount (z : Nat) (v0 : Nat) (v1 : Int) (x : Mm) : Option ((Int ⊕ String) × Mm) := bndX (F_X7_requireClient z (v0) (v1) x) fun r2 x3 => bndX (F_X7_requireLease z (v0) (v1) x3) fun r5 x6 => (F_X6_changedIn z (0) (v1) x6).bind fun r8 => some ((.inl r8, x6))
set_option maxHeartbeats 4000000 in
set_option maxRecDepth 20000 in
theorem c_X7_changedCount (Θ : GC) (D : Nat → Nat → Prop) (z : Nat) (v0 : Nat) (v1 : Int) (x : Mm) (y) (h : F_X7_changedCount z v0 v1 x = some y) : Cal Θ mX7_changedCount 7 111 2 12 [vr 7 (v0 + 1), vi (v1)] (hq D x) (ThrI D y) := by
  refine Cal.of (by decide +kernel) rfl rfl (Nat.le_of_ble_eq_true rfl) ?_
  show Ev Θ mX7_changedCount 7 111 2 12 0 [(0, vr 7 (v0 + 1)), (1, vi (v1))] [] (hq D x) (ThrI D y)
  unfold F_X7_changedCount at h
  refine Ev.aload_n (q := 0) ⟨dX7_changedCount_0, rfl⟩ rfl rfl ?_
  refine Ev.iload_n (q := 1) ⟨dX7_changedCount_1, rfl⟩ rfl rfl ?_
  rcases bndX_s h with ⟨r2, x3, hv1, h⟩ | ⟨E, x3, hv1, rfl⟩
  rotate_left
  · exact Ev.callVE (mc1 := 1) (ms1 := 6) (h1 := hq D x3) vX7_106 (c_X7_requireClient Θ D z _ _ _ _ hv1) rfl rfl (by decide) rfl ⟨by decide, by decide, by decide, by decide, Nat.le_of_ble_eq_true rfl⟩ ⟨dX7_changedCount_2, rfl⟩ rfl ⟨rfl, rfl⟩
  refine Ev.callVN (mc1 := 1) (ms1 := 6) (h1 := hq D x3) vX7_106 (c_X7_requireClient Θ D z _ _ _ _ hv1) rfl rfl (by decide) rfl ⟨by decide, by decide, by decide, by decide, Nat.le_of_ble_eq_true rfl⟩ ⟨dX7_changedCount_2, rfl⟩ ?_
  clear hv1
  refine Ev.aload_n (q := 0) ⟨dX7_changedCount_5, rfl⟩ rfl rfl ?_
  refine Ev.iload_n (q := 1) ⟨dX7_changedCount_6, rfl⟩ rfl rfl ?_
  rcases bndX_s h with ⟨r5, x6, hv4, h⟩ | ⟨E, x6, hv4, rfl⟩
  rotate_left
  · exact Ev.callVE (mc1 := 0) (ms1 := 0) (h1 := hq D x6) vX7_148 (c_X7_requireLease Θ D z _ _ _ _ hv4) rfl rfl (by decide) rfl ⟨by decide, by decide, by decide, by decide, Nat.le_of_ble_eq_true rfl⟩ ⟨dX7_changedCount_7, rfl⟩ rfl ⟨rfl, rfl⟩
  refine Ev.callVN (mc1 := 0) (ms1 := 0) (h1 := hq D x6) vX7_148 (c_X7_requireLease Θ D z _ _ _ _ hv4) rfl rfl (by decide) rfl ⟨by decide, by decide, by decide, by decide, Nat.le_of_ble_eq_true rfl⟩ ⟨dX7_changedCount_7, rfl⟩ ?_
  clear hv4
  refine Ev.aload_n (q := 0) ⟨dX7_changedCount_10, rfl⟩ rfl rfl ?_
  refine Ev.getRk (C2 := 6) (r := 0) fX7_10 rfl (by decide) (by decide) ⟨dX7_changedCount_11, rfl⟩ ?_
  refine Ev.iload_n (q := 1) ⟨dX7_changedCount_14, rfl⟩ rfl rfl ?_
  obtain ⟨r8, hv7, h⟩ := bnd_s h
  refine Ev.callV1 (mc1 := 0) (ms1 := 0) (v := vi r8) (h1 := hq D x6) vX7_233 (c_X6_changedIn Θ D z _ _ _ _ hv7) rfl rfl (by decide) rfl ⟨by decide, by decide, Nat.le_of_eq (Nat.zero_add _), Nat.le_of_eq (Nat.zero_add _), Nat.le_of_ble_eq_true rfl⟩ ⟨dX7_changedCount_15, rfl⟩ ?_
  clear hv7
  obtain rfl := Option.some.inj h
  exact Ev.ireturn (ty := .int) ⟨dX7_changedCount_18, rfl⟩ rfl rfl ⟨rfl, rfl⟩

def F_X7_preview (z : Nat) (v0 : Nat) (v1 : Int) (x : Mm) : Option ((Int ⊕ String) × Mm) := bndX (F_X7_requireClient z (v0) (v1) x) fun r2 x3 => bndX (F_X7_requireLease z (v0) (v1) x3) fun r5 x6 => (F_X0_copyFrom z (33) ((3 * 0)) x6).bind fun r8 => (F_X6_merge z (0) (v1) (33) (11) r8).bind fun r10 => some ((.inl r10.1, r10.2))
set_option maxHeartbeats 4000000 in
set_option maxRecDepth 20000 in
theorem c_X7_preview (Θ : GC) (D : Nat → Nat → Prop) (z : Nat) (v0 : Nat) (v1 : Int) (x : Mm) (y) (h : F_X7_preview z v0 v1 x = some y) : Cal Θ mX7_preview 7 130 2 12 [vr 7 (v0 + 1), vi (v1)] (hq D x) (ThrI D y) := by
  refine Cal.of (by decide +kernel) rfl rfl (Nat.le_of_ble_eq_true rfl) ?_
  show Ev Θ mX7_preview 7 130 2 12 0 [(0, vr 7 (v0 + 1)), (1, vi (v1))] [] (hq D x) (ThrI D y)
  unfold F_X7_preview at h
  refine Ev.aload_n (q := 0) ⟨dX7_preview_0, rfl⟩ rfl rfl ?_
  refine Ev.iload_n (q := 1) ⟨dX7_preview_1, rfl⟩ rfl rfl ?_
  rcases bndX_s h with ⟨r2, x3, hv1, h⟩ | ⟨E, x3, hv1, rfl⟩
  rotate_left
  · exact Ev.callVE (mc1 := 1) (ms1 := 6) (h1 := hq D x3) vX7_106 (c_X7_requireClient Θ D z _ _ _ _ hv1) rfl rfl (by decide) rfl ⟨by decide, by decide, by decide, by decide, Nat.le_of_ble_eq_true rfl⟩ ⟨dX7_preview_2, rfl⟩ rfl ⟨rfl, rfl⟩
  refine Ev.callVN (mc1 := 1) (ms1 := 6) (h1 := hq D x3) vX7_106 (c_X7_requireClient Θ D z _ _ _ _ hv1) rfl rfl (by decide) rfl ⟨by decide, by decide, by decide, by decide, Nat.le_of_ble_eq_true rfl⟩ ⟨dX7_preview_2, rfl⟩ ?_
  clear hv1
  refine Ev.aload_n (q := 0) ⟨dX7_preview_5, rfl⟩ rfl rfl ?_
  refine Ev.iload_n (q := 1) ⟨dX7_preview_6, rfl⟩ rfl rfl ?_
  rcases bndX_s h with ⟨r5, x6, hv4, h⟩ | ⟨E, x6, hv4, rfl⟩
  rotate_left
  · exact Ev.callVE (mc1 := 0) (ms1 := 0) (h1 := hq D x6) vX7_148 (c_X7_requireLease Θ D z _ _ _ _ hv4) rfl rfl (by decide) rfl ⟨by decide, by decide, by decide, by decide, Nat.le_of_ble_eq_true rfl⟩ ⟨dX7_preview_7, rfl⟩ rfl ⟨rfl, rfl⟩
  refine Ev.callVN (mc1 := 0) (ms1 := 0) (h1 := hq D x6) vX7_148 (c_X7_requireLease Θ D z _ _ _ _ hv4) rfl rfl (by decide) rfl ⟨by decide, by decide, by decide, by decide, Nat.le_of_ble_eq_true rfl⟩ ⟨dX7_preview_7, rfl⟩ ?_
  clear hv4
  refine Ev.aload_n (q := 0) ⟨dX7_preview_10, rfl⟩ rfl rfl ?_
  refine Ev.getRk (C2 := 0) (r := 33) fX7_36 rfl (by decide) (by decide) ⟨dX7_preview_11, rfl⟩ ?_
  refine Ev.aload_n (q := 0) ⟨dX7_preview_14, rfl⟩ rfl rfl ?_
  refine Ev.getRk (C2 := 6) (r := 0) fX7_10 rfl (by decide) (by decide) ⟨dX7_preview_15, rfl⟩ ?_
  refine Ev.getRk (C2 := 0) (r := (3 * 0)) fX7_126 rfl (by decide) (by decide) ⟨dX7_preview_18, rfl⟩ ?_
  obtain ⟨r8, hv7, h⟩ := bnd_s h
  refine Ev.callVN (mc1 := 0) (ms1 := 0) (h1 := hq D r8) vX7_323 (c_X0_copyFrom Θ D z _ _ _ _ hv7) rfl rfl (by decide) rfl ⟨by decide, by decide, Nat.le_of_eq (Nat.zero_add _), Nat.le_of_eq (Nat.zero_add _), Nat.le_of_ble_eq_true rfl⟩ ⟨dX7_preview_21, rfl⟩ ?_
  clear hv7
  refine Ev.aload_n (q := 0) ⟨dX7_preview_24, rfl⟩ rfl rfl ?_
  refine Ev.getRk (C2 := 6) (r := 0) fX7_10 rfl (by decide) (by decide) ⟨dX7_preview_25, rfl⟩ ?_
  refine Ev.iload_n (q := 1) ⟨dX7_preview_28, rfl⟩ rfl rfl ?_
  refine Ev.aload_n (q := 0) ⟨dX7_preview_29, rfl⟩ rfl rfl ?_
  refine Ev.getRk (C2 := 0) (r := 33) fX7_36 rfl (by decide) (by decide) ⟨dX7_preview_30, rfl⟩ ?_
  refine Ev.aload_n (q := 0) ⟨dX7_preview_33, rfl⟩ rfl rfl ?_
  refine Ev.getRk (C2 := 1) (r := 11) fX7_46 rfl (by decide) (by decide) ⟨dX7_preview_34, rfl⟩ ?_
  obtain ⟨r10, hv9, h⟩ := bnd_s h
  refine Ev.callV1 (mc1 := 0) (ms1 := 0) (v := vi r10.1) (h1 := hq D r10.2) vX7_229 (c_X6_merge Θ D z _ _ _ _ _ _ hv9) rfl rfl (by decide) rfl ⟨by decide, by decide, Nat.le_of_eq (Nat.zero_add _), Nat.le_of_eq (Nat.zero_add _), Nat.le_of_ble_eq_true rfl⟩ ⟨dX7_preview_37, rfl⟩ ?_
  clear hv9
  obtain rfl := Option.some.inj h
  exact Ev.ireturn (ty := .int) ⟨dX7_preview_40, rfl⟩ rfl rfl ⟨rfl, rfl⟩

def F_X7_wouldBe (z : Nat) (v0 : Nat) (v1 : Int) (v2 : Int) (v3 : Int) (x : Mm) : Option ((Int ⊕ String) × Mm) := bndX (F_X7_requireClient z (v0) (v1) x) fun r2 x3 => bndX (F_X7_requireNode z (v0) (v2) x3) fun r5 x6 => bndX (F_X7_requireField z (v0) (v3) x6) fun r8 x9 => bndX (F_X7_requireLease z (v0) (v1) x9) fun r11 x12 => (F_X0_copyFrom z (33) ((3 * 0)) x12).bind fun r14 => (F_X6_merge z (0) (v1) (33) (11) r14).bind fun r16 => (F_X0_has z (33) (v2) r16.2).bind fun r18 => if r18 = 0 then (some (.inr "java/util/NoSuchElementException", r16.2)) else ((F_X0_valueOf z (33) (v2) (v3) r16.2).bind fun r20 => some ((.inl r20, r16.2)))
set_option maxHeartbeats 4000000 in
set_option maxRecDepth 20000 in
theorem c_X7_wouldBe (Θ : GC) (D : Nat → Nat → Prop) (z : Nat) (v0 : Nat) (v1 : Int) (v2 : Int) (v3 : Int) (x : Mm) (y) (h : F_X7_wouldBe z v0 v1 v2 v3 x = some y) : Cal Θ mX7_wouldBe 7 130 5 30 [vr 7 (v0 + 1), vi (v1), vi (v2), vi (v3)] (hq D x) (ThrI D y) := by
  refine Cal.of (by decide +kernel) rfl rfl (Nat.le_of_ble_eq_true rfl) ?_
  show Ev Θ mX7_wouldBe 7 130 5 30 0 [(0, vr 7 (v0 + 1)), (1, vi (v1)), (2, vi (v2)), (3, vi (v3))] [] (hq D x) (ThrI D y)
  unfold F_X7_wouldBe at h
  refine Ev.aload_n (q := 0) ⟨dX7_wouldBe_0, rfl⟩ rfl rfl ?_
  refine Ev.iload_n (q := 1) ⟨dX7_wouldBe_1, rfl⟩ rfl rfl ?_
  rcases bndX_s h with ⟨r2, x3, hv1, h⟩ | ⟨E, x3, hv1, rfl⟩
  rotate_left
  · exact Ev.callVE (mc1 := 4) (ms1 := 24) (h1 := hq D x3) vX7_106 (c_X7_requireClient Θ D z _ _ _ _ hv1) rfl rfl (by decide) rfl ⟨by decide, by decide, by decide, by decide, Nat.le_of_ble_eq_true rfl⟩ ⟨dX7_wouldBe_2, rfl⟩ rfl ⟨rfl, rfl⟩
  refine Ev.callVN (mc1 := 4) (ms1 := 24) (h1 := hq D x3) vX7_106 (c_X7_requireClient Θ D z _ _ _ _ hv1) rfl rfl (by decide) rfl ⟨by decide, by decide, by decide, by decide, Nat.le_of_ble_eq_true rfl⟩ ⟨dX7_wouldBe_2, rfl⟩ ?_
  clear hv1
  refine Ev.aload_n (q := 0) ⟨dX7_wouldBe_5, rfl⟩ rfl rfl ?_
  refine Ev.iload_n (q := 2) ⟨dX7_wouldBe_6, rfl⟩ rfl rfl ?_
  rcases bndX_s h with ⟨r5, x6, hv4, h⟩ | ⟨E, x6, hv4, rfl⟩
  rotate_left
  · exact Ev.callVE (mc1 := 3) (ms1 := 18) (h1 := hq D x6) vX7_109 (c_X7_requireNode Θ D z _ _ _ _ hv4) rfl rfl (by decide) rfl ⟨by decide, by decide, by decide, by decide, Nat.le_of_ble_eq_true rfl⟩ ⟨dX7_wouldBe_7, rfl⟩ rfl ⟨rfl, rfl⟩
  refine Ev.callVN (mc1 := 3) (ms1 := 18) (h1 := hq D x6) vX7_109 (c_X7_requireNode Θ D z _ _ _ _ hv4) rfl rfl (by decide) rfl ⟨by decide, by decide, by decide, by decide, Nat.le_of_ble_eq_true rfl⟩ ⟨dX7_wouldBe_7, rfl⟩ ?_
  clear hv4
  refine Ev.aload_n (q := 0) ⟨dX7_wouldBe_10, rfl⟩ rfl rfl ?_
  refine Ev.iload_n (q := 3) ⟨dX7_wouldBe_11, rfl⟩ rfl rfl ?_
  rcases bndX_s h with ⟨r8, x9, hv7, h⟩ | ⟨E, x9, hv7, rfl⟩
  rotate_left
  · exact Ev.callVE (mc1 := 2) (ms1 := 12) (h1 := hq D x9) vX7_159 (c_X7_requireField Θ D z _ _ _ _ hv7) rfl rfl (by decide) rfl ⟨by decide, by decide, by decide, by decide, Nat.le_of_ble_eq_true rfl⟩ ⟨dX7_wouldBe_12, rfl⟩ rfl ⟨rfl, rfl⟩
  refine Ev.callVN (mc1 := 2) (ms1 := 12) (h1 := hq D x9) vX7_159 (c_X7_requireField Θ D z _ _ _ _ hv7) rfl rfl (by decide) rfl ⟨by decide, by decide, by decide, by decide, Nat.le_of_ble_eq_true rfl⟩ ⟨dX7_wouldBe_12, rfl⟩ ?_
  clear hv7
  refine Ev.aload_n (q := 0) ⟨dX7_wouldBe_15, rfl⟩ rfl rfl ?_
  refine Ev.iload_n (q := 1) ⟨dX7_wouldBe_16, rfl⟩ rfl rfl ?_
  rcases bndX_s h with ⟨r11, x12, hv10, h⟩ | ⟨E, x12, hv10, rfl⟩
  rotate_left
  · exact Ev.callVE (mc1 := 1) (ms1 := 6) (h1 := hq D x12) vX7_148 (c_X7_requireLease Θ D z _ _ _ _ hv10) rfl rfl (by decide) rfl ⟨by decide, by decide, by decide, by decide, Nat.le_of_ble_eq_true rfl⟩ ⟨dX7_wouldBe_17, rfl⟩ rfl ⟨rfl, rfl⟩
  refine Ev.callVN (mc1 := 1) (ms1 := 6) (h1 := hq D x12) vX7_148 (c_X7_requireLease Θ D z _ _ _ _ hv10) rfl rfl (by decide) rfl ⟨by decide, by decide, by decide, by decide, Nat.le_of_ble_eq_true rfl⟩ ⟨dX7_wouldBe_17, rfl⟩ ?_
  clear hv10
  refine Ev.aload_n (q := 0) ⟨dX7_wouldBe_20, rfl⟩ rfl rfl ?_
  refine Ev.getRk (C2 := 0) (r := 33) fX7_36 rfl (by decide) (by decide) ⟨dX7_wouldBe_21, rfl⟩ ?_
  refine Ev.aload_n (q := 0) ⟨dX7_wouldBe_24, rfl⟩ rfl rfl ?_
  refine Ev.getRk (C2 := 6) (r := 0) fX7_10 rfl (by decide) (by decide) ⟨dX7_wouldBe_25, rfl⟩ ?_
  refine Ev.getRk (C2 := 0) (r := (3 * 0)) fX7_126 rfl (by decide) (by decide) ⟨dX7_wouldBe_28, rfl⟩ ?_
  obtain ⟨r14, hv13, h⟩ := bnd_s h
  refine Ev.callVN (mc1 := 1) (ms1 := 6) (h1 := hq D r14) vX7_323 (c_X0_copyFrom Θ D z _ _ _ _ hv13) rfl rfl (by decide) rfl ⟨by decide, by decide, Nat.le_of_eq (Nat.zero_add _), Nat.le_of_eq (Nat.zero_add _), Nat.le_of_ble_eq_true rfl⟩ ⟨dX7_wouldBe_31, rfl⟩ ?_
  clear hv13
  refine Ev.aload_n (q := 0) ⟨dX7_wouldBe_34, rfl⟩ rfl rfl ?_
  refine Ev.getRk (C2 := 6) (r := 0) fX7_10 rfl (by decide) (by decide) ⟨dX7_wouldBe_35, rfl⟩ ?_
  refine Ev.iload_n (q := 1) ⟨dX7_wouldBe_38, rfl⟩ rfl rfl ?_
  refine Ev.aload_n (q := 0) ⟨dX7_wouldBe_39, rfl⟩ rfl rfl ?_
  refine Ev.getRk (C2 := 0) (r := 33) fX7_36 rfl (by decide) (by decide) ⟨dX7_wouldBe_40, rfl⟩ ?_
  refine Ev.aload_n (q := 0) ⟨dX7_wouldBe_43, rfl⟩ rfl rfl ?_
  refine Ev.getRk (C2 := 1) (r := 11) fX7_46 rfl (by decide) (by decide) ⟨dX7_wouldBe_44, rfl⟩ ?_
  obtain ⟨r16, hv15, h⟩ := bnd_s h
  refine Ev.callV1 (mc1 := 1) (ms1 := 6) (v := vi r16.1) (h1 := hq D r16.2) vX7_229 (c_X6_merge Θ D z _ _ _ _ _ _ hv15) rfl rfl (by decide) rfl ⟨by decide, by decide, Nat.le_of_eq (Nat.zero_add _), Nat.le_of_eq (Nat.zero_add _), Nat.le_of_ble_eq_true rfl⟩ ⟨dX7_wouldBe_47, rfl⟩ ?_
  clear hv15
  refine Ev.pop ⟨dX7_wouldBe_50, rfl⟩ rfl ?_
  refine Ev.aload_n (q := 0) ⟨dX7_wouldBe_51, rfl⟩ rfl rfl ?_
  refine Ev.getRk (C2 := 0) (r := 33) fX7_36 rfl (by decide) (by decide) ⟨dX7_wouldBe_52, rfl⟩ ?_
  refine Ev.iload_n (q := 2) ⟨dX7_wouldBe_55, rfl⟩ rfl rfl ?_
  obtain ⟨r18, hv17, h⟩ := bnd_s h
  refine Ev.callV1 (mc1 := 1) (ms1 := 6) (v := vi r18) (h1 := hq D r16.2) vX7_129 (c_X0_has Θ D z _ _ _ _ hv17) rfl rfl (by decide) rfl ⟨by decide, by decide, Nat.le_of_eq (Nat.zero_add _), Nat.le_of_eq (Nat.zero_add _), Nat.le_of_ble_eq_true rfl⟩ ⟨dX7_wouldBe_56, rfl⟩ ?_
  clear hv17
  refine Ev.if_ne jX7_wouldBe_59 (fun hc => ?_) (fun hc => ?_)
  · replace h := (if_neg hc).symm.trans h; clear hc
    refine Ev.aload_n (q := 0) ⟨dX7_wouldBe_73, rfl⟩ rfl rfl ?_
    refine Ev.getRk (C2 := 0) (r := 33) fX7_36 rfl (by decide) (by decide) ⟨dX7_wouldBe_74, rfl⟩ ?_
    refine Ev.iload_n (q := 2) ⟨dX7_wouldBe_77, rfl⟩ rfl rfl ?_
    refine Ev.iload_n (q := 3) ⟨dX7_wouldBe_78, rfl⟩ rfl rfl ?_
    obtain ⟨r20, hv19, h⟩ := bnd_s h
    refine Ev.callV1 (mc1 := 1) (ms1 := 6) (v := vi r20) (h1 := hq D r16.2) vX7_183 (c_X0_valueOf Θ D z _ _ _ _ _ hv19) rfl rfl (by decide) rfl ⟨by decide, by decide, Nat.le_of_eq (Nat.zero_add _), Nat.le_of_eq (Nat.zero_add _), Nat.le_of_ble_eq_true rfl⟩ ⟨dX7_wouldBe_79, rfl⟩ ?_
    clear hv19
    obtain rfl := Option.some.inj h
    exact Ev.ireturn (ty := .int) ⟨dX7_wouldBe_82, rfl⟩ rfl rfl ⟨rfl, rfl⟩
  · replace h := (if_pos hc).symm.trans h; clear hc
    obtain rfl := Option.some.inj h
    exact Ev.throwNS rfl tX7_326 rfl dX7_wouldBe_62 dX7_wouldBe_65 dX7_wouldBe_66 dX7_wouldBe_69 dX7_wouldBe_72 (by decide) (Nat.le_of_ble_eq_true rfl) (by decide) (by decide) ⟨rfl, rfl⟩

def F_X7_mergeBoth (z : Nat) (v0 : Nat) (v1 : Int) (v2 : Int) (v3 : Nat) (x : Mm) : Option (Int × Mm) := (F_X0_copyFrom z (v3) ((3 * 0)) x).bind fun r2 => (F_X6_merge z (0) (v1) (v3) (11) r2).bind fun r4 => (F_X6_merge z (0) (v2) (v3) (11) r4.2).bind fun r6 => ckR ((r4.1 + r6.1)) <| some (((r4.1 + r6.1), r6.2))
set_option maxHeartbeats 4000000 in
set_option maxRecDepth 20000 in
theorem c_X7_mergeBoth (Θ : GC) (D : Nat → Nat → Prop) (z : Nat) (v0 : Nat) (v1 : Int) (v2 : Int) (v3 : Nat) (x : Mm) (y) (h : F_X7_mergeBoth z v0 v1 v2 v3 x = some y) : Cal Θ mX7_mergeBoth 5 130 0 0 [vr 7 (v0 + 1), vi (v1), vi (v2), vr 0 (v3 + 1)] (hq D x) (Ret (vi y.1) (hq D y.2)) := by
  refine Cal.of (by decide +kernel) rfl rfl (Nat.le_of_ble_eq_true rfl) ?_
  show Ev Θ mX7_mergeBoth 5 130 0 0 0 [(0, vr 7 (v0 + 1)), (1, vi (v1)), (2, vi (v2)), (3, vr 0 (v3 + 1))] [] (hq D x) (Ret (vi y.1) (hq D y.2))
  unfold F_X7_mergeBoth at h
  refine Ev.aload_n (q := 3) ⟨dX7_mergeBoth_0, rfl⟩ rfl rfl ?_
  refine Ev.aload_n (q := 0) ⟨dX7_mergeBoth_1, rfl⟩ rfl rfl ?_
  refine Ev.getRk (C2 := 6) (r := 0) fX7_10 rfl (by decide) (by decide) ⟨dX7_mergeBoth_2, rfl⟩ ?_
  refine Ev.getRk (C2 := 0) (r := (3 * 0)) fX7_126 rfl (by decide) (by decide) ⟨dX7_mergeBoth_5, rfl⟩ ?_
  obtain ⟨r2, hv1, h⟩ := bnd_s h
  refine Ev.callVN (mc1 := 0) (ms1 := 0) (h1 := hq D r2) vX7_323 (c_X0_copyFrom Θ D z _ _ _ _ hv1) rfl rfl (by decide) rfl ⟨by decide, by decide, Nat.le_of_eq (Nat.zero_add _), Nat.le_of_eq (Nat.zero_add _), Nat.le_of_ble_eq_true rfl⟩ ⟨dX7_mergeBoth_8, rfl⟩ ?_
  clear hv1
  refine Ev.aload_n (q := 0) ⟨dX7_mergeBoth_11, rfl⟩ rfl rfl ?_
  refine Ev.getRk (C2 := 6) (r := 0) fX7_10 rfl (by decide) (by decide) ⟨dX7_mergeBoth_12, rfl⟩ ?_
  refine Ev.iload_n (q := 1) ⟨dX7_mergeBoth_15, rfl⟩ rfl rfl ?_
  refine Ev.aload_n (q := 3) ⟨dX7_mergeBoth_16, rfl⟩ rfl rfl ?_
  refine Ev.aload_n (q := 0) ⟨dX7_mergeBoth_17, rfl⟩ rfl rfl ?_
  refine Ev.getRk (C2 := 1) (r := 11) fX7_46 rfl (by decide) (by decide) ⟨dX7_mergeBoth_18, rfl⟩ ?_
  obtain ⟨r4, hv3, h⟩ := bnd_s h
  refine Ev.callV1 (mc1 := 0) (ms1 := 0) (v := vi r4.1) (h1 := hq D r4.2) vX7_229 (c_X6_merge Θ D z _ _ _ _ _ _ hv3) rfl rfl (by decide) rfl ⟨by decide, by decide, Nat.le_of_eq (Nat.zero_add _), Nat.le_of_eq (Nat.zero_add _), Nat.le_of_ble_eq_true rfl⟩ ⟨dX7_mergeBoth_21, rfl⟩ ?_
  clear hv3
  refine Ev.aload_n (q := 0) ⟨dX7_mergeBoth_24, rfl⟩ rfl rfl ?_
  refine Ev.getRk (C2 := 6) (r := 0) fX7_10 rfl (by decide) (by decide) ⟨dX7_mergeBoth_25, rfl⟩ ?_
  refine Ev.iload_n (q := 2) ⟨dX7_mergeBoth_28, rfl⟩ rfl rfl ?_
  refine Ev.aload_n (q := 3) ⟨dX7_mergeBoth_29, rfl⟩ rfl rfl ?_
  refine Ev.aload_n (q := 0) ⟨dX7_mergeBoth_30, rfl⟩ rfl rfl ?_
  refine Ev.getRk (C2 := 1) (r := 11) fX7_46 rfl (by decide) (by decide) ⟨dX7_mergeBoth_31, rfl⟩ ?_
  obtain ⟨r6, hv5, h⟩ := bnd_s h
  refine Ev.callV1 (mc1 := 0) (ms1 := 0) (v := vi r6.1) (h1 := hq D r6.2) vX7_229 (c_X6_merge Θ D z _ _ _ _ _ _ hv5) rfl rfl (by decide) rfl ⟨by decide, by decide, Nat.le_of_eq (Nat.zero_add _), Nat.le_of_eq (Nat.zero_add _), Nat.le_of_ble_eq_true rfl⟩ ⟨dX7_mergeBoth_34, rfl⟩ ?_
  clear hv5
  obtain ⟨c7, h⟩ := ckR_s h
  refine Ev.iadd ⟨dX7_mergeBoth_37, rfl⟩ c7 ?_
  obtain rfl := Option.some.inj h
  exact Ev.ireturn (ty := .int) ⟨dX7_mergeBoth_38, rfl⟩ rfl rfl ⟨rfl, rfl⟩

def F_X7_isFree (z : Nat) (v0 : Nat) (v1 : Int) (v2 : Int) (x : Mm) : Option ((Int ⊕ String) × Mm) := bndX (F_X7_requireClient z (v0) (v1) x) fun r2 x3 => bndX (F_X7_requireClient z (v0) (v2) x3) fun r5 x6 => if v1 = v2 then (some (.inr "java/lang/IllegalArgumentException", x6)) else (bndX (F_X7_requireLease z (v0) (v1) x6) fun r8 x9 => bndX (F_X7_requireLease z (v0) (v2) x9) fun r11 x12 => (F_X7_mergeBoth z (v0) (v1) (v2) (33) x12).bind fun r14 => (F_X7_mergeBoth z (v0) (v2) (v1) (36) r14.2).bind fun r16 => if r14.1 = r16.1 then ((F_X0_sameAs z (33) (36) r16.2).bind fun r18 => if r18 = 0 then (some ((.inl (0 : Int), r16.2))) else (some ((.inl (1 : Int), r16.2)))) else (some ((.inl (0 : Int), r16.2))))
set_option maxHeartbeats 4000000 in
set_option maxRecDepth 20000 in
theorem c_X7_isFree (Θ : GC) (D : Nat → Nat → Prop) (z : Nat) (v0 : Nat) (v1 : Int) (v2 : Int) (x : Mm) (y) (h : F_X7_isFree z v0 v1 v2 x = some y) : Cal Θ mX7_isFree 7 153 4 24 [vr 7 (v0 + 1), vi (v1), vi (v2)] (hq D x) (ThrI D y) := by
  refine Cal.of (by decide +kernel) rfl rfl (Nat.le_of_ble_eq_true rfl) ?_
  show Ev Θ mX7_isFree 7 153 4 24 0 [(0, vr 7 (v0 + 1)), (1, vi (v1)), (2, vi (v2))] [] (hq D x) (ThrI D y)
  unfold F_X7_isFree at h
  refine Ev.aload_n (q := 0) ⟨dX7_isFree_0, rfl⟩ rfl rfl ?_
  refine Ev.iload_n (q := 1) ⟨dX7_isFree_1, rfl⟩ rfl rfl ?_
  rcases bndX_s h with ⟨r2, x3, hv1, h⟩ | ⟨E, x3, hv1, rfl⟩
  rotate_left
  · exact Ev.callVE (mc1 := 3) (ms1 := 18) (h1 := hq D x3) vX7_106 (c_X7_requireClient Θ D z _ _ _ _ hv1) rfl rfl (by decide) rfl ⟨by decide, by decide, by decide, by decide, Nat.le_of_ble_eq_true rfl⟩ ⟨dX7_isFree_2, rfl⟩ rfl ⟨rfl, rfl⟩
  refine Ev.callVN (mc1 := 3) (ms1 := 18) (h1 := hq D x3) vX7_106 (c_X7_requireClient Θ D z _ _ _ _ hv1) rfl rfl (by decide) rfl ⟨by decide, by decide, by decide, by decide, Nat.le_of_ble_eq_true rfl⟩ ⟨dX7_isFree_2, rfl⟩ ?_
  clear hv1
  refine Ev.aload_n (q := 0) ⟨dX7_isFree_5, rfl⟩ rfl rfl ?_
  refine Ev.iload_n (q := 2) ⟨dX7_isFree_6, rfl⟩ rfl rfl ?_
  rcases bndX_s h with ⟨r5, x6, hv4, h⟩ | ⟨E, x6, hv4, rfl⟩
  rotate_left
  · exact Ev.callVE (mc1 := 2) (ms1 := 12) (h1 := hq D x6) vX7_106 (c_X7_requireClient Θ D z _ _ _ _ hv4) rfl rfl (by decide) rfl ⟨by decide, by decide, by decide, by decide, Nat.le_of_ble_eq_true rfl⟩ ⟨dX7_isFree_7, rfl⟩ rfl ⟨rfl, rfl⟩
  refine Ev.callVN (mc1 := 2) (ms1 := 12) (h1 := hq D x6) vX7_106 (c_X7_requireClient Θ D z _ _ _ _ hv4) rfl rfl (by decide) rfl ⟨by decide, by decide, by decide, by decide, Nat.le_of_ble_eq_true rfl⟩ ⟨dX7_isFree_7, rfl⟩ ?_
  clear hv4
  refine Ev.iload_n (q := 1) ⟨dX7_isFree_10, rfl⟩ rfl rfl ?_
  refine Ev.iload_n (q := 2) ⟨dX7_isFree_11, rfl⟩ rfl rfl ?_
  refine Ev.icmp_ne jX7_isFree_12 (fun hc => ?_) (fun hc => ?_)
  · replace h := (if_neg hc).symm.trans h; clear hc
    refine Ev.aload_n (q := 0) ⟨dX7_isFree_26, rfl⟩ rfl rfl ?_
    refine Ev.iload_n (q := 1) ⟨dX7_isFree_27, rfl⟩ rfl rfl ?_
    rcases bndX_s h with ⟨r8, x9, hv7, h⟩ | ⟨E, x9, hv7, rfl⟩
    rotate_left
    · exact Ev.callVE (mc1 := 1) (ms1 := 6) (h1 := hq D x9) vX7_148 (c_X7_requireLease Θ D z _ _ _ _ hv7) rfl rfl (by decide) rfl ⟨by decide, by decide, by decide, by decide, Nat.le_of_ble_eq_true rfl⟩ ⟨dX7_isFree_28, rfl⟩ rfl ⟨rfl, rfl⟩
    refine Ev.callVN (mc1 := 1) (ms1 := 6) (h1 := hq D x9) vX7_148 (c_X7_requireLease Θ D z _ _ _ _ hv7) rfl rfl (by decide) rfl ⟨by decide, by decide, by decide, by decide, Nat.le_of_ble_eq_true rfl⟩ ⟨dX7_isFree_28, rfl⟩ ?_
    clear hv7
    refine Ev.aload_n (q := 0) ⟨dX7_isFree_31, rfl⟩ rfl rfl ?_
    refine Ev.iload_n (q := 2) ⟨dX7_isFree_32, rfl⟩ rfl rfl ?_
    rcases bndX_s h with ⟨r11, x12, hv10, h⟩ | ⟨E, x12, hv10, rfl⟩
    rotate_left
    · exact Ev.callVE (mc1 := 0) (ms1 := 0) (h1 := hq D x12) vX7_148 (c_X7_requireLease Θ D z _ _ _ _ hv10) rfl rfl (by decide) rfl ⟨by decide, by decide, by decide, by decide, Nat.le_of_ble_eq_true rfl⟩ ⟨dX7_isFree_33, rfl⟩ rfl ⟨rfl, rfl⟩
    refine Ev.callVN (mc1 := 0) (ms1 := 0) (h1 := hq D x12) vX7_148 (c_X7_requireLease Θ D z _ _ _ _ hv10) rfl rfl (by decide) rfl ⟨by decide, by decide, by decide, by decide, Nat.le_of_ble_eq_true rfl⟩ ⟨dX7_isFree_33, rfl⟩ ?_
    clear hv10
    refine Ev.aload_n (q := 0) ⟨dX7_isFree_36, rfl⟩ rfl rfl ?_
    refine Ev.iload_n (q := 1) ⟨dX7_isFree_37, rfl⟩ rfl rfl ?_
    refine Ev.iload_n (q := 2) ⟨dX7_isFree_38, rfl⟩ rfl rfl ?_
    refine Ev.aload_n (q := 0) ⟨dX7_isFree_39, rfl⟩ rfl rfl ?_
    refine Ev.getRk (C2 := 0) (r := 33) fX7_36 rfl (by decide) (by decide) ⟨dX7_isFree_40, rfl⟩ ?_
    obtain ⟨r14, hv13, h⟩ := bnd_s h
    refine Ev.callV1 (mc1 := 0) (ms1 := 0) (v := vi r14.1) (h1 := hq D r14.2) vX7_330 (c_X7_mergeBoth Θ D z _ _ _ _ _ _ hv13) rfl rfl (by decide) rfl ⟨by decide, by decide, Nat.le_of_eq (Nat.zero_add _), Nat.le_of_eq (Nat.zero_add _), Nat.le_of_ble_eq_true rfl⟩ ⟨dX7_isFree_43, rfl⟩ ?_
    clear hv13
    refine Ev.aload_n (q := 0) ⟨dX7_isFree_46, rfl⟩ rfl rfl ?_
    refine Ev.iload_n (q := 2) ⟨dX7_isFree_47, rfl⟩ rfl rfl ?_
    refine Ev.iload_n (q := 1) ⟨dX7_isFree_48, rfl⟩ rfl rfl ?_
    refine Ev.aload_n (q := 0) ⟨dX7_isFree_49, rfl⟩ rfl rfl ?_
    refine Ev.getRk (C2 := 0) (r := 36) fX7_40 rfl (by decide) (by decide) ⟨dX7_isFree_50, rfl⟩ ?_
    obtain ⟨r16, hv15, h⟩ := bnd_s h
    refine Ev.callV1 (mc1 := 0) (ms1 := 0) (v := vi r16.1) (h1 := hq D r16.2) vX7_330 (c_X7_mergeBoth Θ D z _ _ _ _ _ _ hv15) rfl rfl (by decide) rfl ⟨by decide, by decide, Nat.le_of_eq (Nat.zero_add _), Nat.le_of_eq (Nat.zero_add _), Nat.le_of_ble_eq_true rfl⟩ ⟨dX7_isFree_53, rfl⟩ ?_
    clear hv15
    refine Ev.icmp_ne jX7_isFree_56 (fun hc => ?_) (fun hc => ?_)
    · replace h := (if_neg hc).symm.trans h; clear hc
      refine Ev.iconst ⟨dX7_isFree_77, rfl⟩ (inRd rfl) ?_
      obtain rfl := Option.some.inj h
      exact Ev.ireturn (ty := .boolean) ⟨dX7_isFree_78, rfl⟩ rfl rfl ⟨rfl, rfl⟩
    · replace h := (if_pos hc).symm.trans h; clear hc
      refine Ev.aload_n (q := 0) ⟨dX7_isFree_59, rfl⟩ rfl rfl ?_
      refine Ev.getRk (C2 := 0) (r := 33) fX7_36 rfl (by decide) (by decide) ⟨dX7_isFree_60, rfl⟩ ?_
      refine Ev.aload_n (q := 0) ⟨dX7_isFree_63, rfl⟩ rfl rfl ?_
      refine Ev.getRk (C2 := 0) (r := 36) fX7_40 rfl (by decide) (by decide) ⟨dX7_isFree_64, rfl⟩ ?_
      obtain ⟨r18, hv17, h⟩ := bnd_s h
      refine Ev.callV1 (mc1 := 0) (ms1 := 0) (v := vi r18) (h1 := hq D r16.2) vX7_334 (c_X0_sameAs Θ D z _ _ _ _ hv17) rfl rfl (by decide) rfl ⟨by decide, by decide, Nat.le_of_eq (Nat.zero_add _), Nat.le_of_eq (Nat.zero_add _), Nat.le_of_ble_eq_true rfl⟩ ⟨dX7_isFree_67, rfl⟩ ?_
      clear hv17
      refine Ev.if_eq jX7_isFree_70 (fun hc => ?_) (fun hc => ?_)
      · replace h := (if_pos hc).symm.trans h; clear hc
        refine Ev.iconst ⟨dX7_isFree_77, rfl⟩ (inRd rfl) ?_
        obtain rfl := Option.some.inj h
        exact Ev.ireturn (ty := .boolean) ⟨dX7_isFree_78, rfl⟩ rfl rfl ⟨rfl, rfl⟩
      · replace h := (if_neg hc).symm.trans h; clear hc
        refine Ev.iconst ⟨dX7_isFree_73, rfl⟩ (inRd rfl) ?_
        refine Ev.goto jX7_isFree_74 ?_
        obtain rfl := Option.some.inj h
        exact Ev.ireturn (ty := .boolean) ⟨dX7_isFree_78, rfl⟩ rfl rfl ⟨rfl, rfl⟩
  · replace h := (if_pos hc).symm.trans h; clear hc
    obtain rfl := Option.some.inj h
    exact Ev.throwSW eX7_IllegalArgumentException tX7_328 rfl dX7_isFree_15 dX7_isFree_18 dX7_isFree_19 dX7_isFree_22 dX7_isFree_25 (by decide) (Nat.le_of_ble_eq_true rfl) (by decide) (by decide) ⟨rfl, rfl⟩

def F_X7_conflictCount (z : Nat) (v0 : Nat) (x : Mm) : Option (Int) := some ((x.1 1 0 0))
set_option maxHeartbeats 4000000 in
set_option maxRecDepth 20000 in
theorem c_X7_conflictCount (Θ : GC) (D : Nat → Nat → Prop) (z : Nat) (v0 : Nat) (x : Mm) (y) (h : F_X7_conflictCount z v0 x = some y) : Cal Θ mX7_conflictCount 0 0 0 0 [vr 7 (v0 + 1)] (hq D x) (Ret (vi y) (hq D x)) := by
  refine Cal.of (by decide +kernel) rfl rfl (Nat.le_of_ble_eq_true rfl) ?_
  show Ev Θ mX7_conflictCount 0 0 0 0 0 [(0, vr 7 (v0 + 1))] [] (hq D x) (Ret (vi y) (hq D x))
  unfold F_X7_conflictCount at h
  refine Ev.aload_n (q := 0) ⟨dX7_conflictCount_0, rfl⟩ rfl rfl ?_
  refine Ev.getRk (C2 := 6) (r := 0) fX7_10 rfl (by decide) (by decide) ⟨dX7_conflictCount_1, rfl⟩ ?_
  refine Ev.getRk (C2 := 1) (r := 0) fX7_226 rfl (by decide) (by decide) ⟨dX7_conflictCount_4, rfl⟩ ?_
  refine Ev.getI fX7_250 (Or.inl rfl) ⟨dX7_conflictCount_7, rfl⟩ ?_
  obtain rfl := Option.some.inj h
  exact Ev.ireturn (ty := .int) ⟨dX7_conflictCount_10, rfl⟩ rfl rfl ⟨rfl, rfl⟩

def F_X7_conflict (z : Nat) (v0 : Nat) (v1 : Int) (v2 : Int) (x : Mm) : Option ((Int ⊕ String) × Mm) := bndX (F_X7_requireConflict z (v0) (v1) x) fun r2 x3 => if v2 < 0 then (some (.inr "java/lang/IllegalArgumentException", x3)) else (if v2 < (6 : Int) then ((F_X1_part z (0) (v1) (v2) x3).bind fun r5 => some ((.inl r5, x3))) else (some (.inr "java/lang/IllegalArgumentException", x3)))
set_option maxHeartbeats 4000000 in
set_option maxRecDepth 20000 in
theorem c_X7_conflict (Θ : GC) (D : Nat → Nat → Prop) (z : Nat) (v0 : Nat) (v1 : Int) (v2 : Int) (x : Mm) (y) (h : F_X7_conflict z v0 v1 v2 x = some y) : Cal Θ mX7_conflict 7 111 2 12 [vr 7 (v0 + 1), vi (v1), vi (v2)] (hq D x) (ThrI D y) := by
  refine Cal.of (by decide +kernel) rfl rfl (Nat.le_of_ble_eq_true rfl) ?_
  show Ev Θ mX7_conflict 7 111 2 12 0 [(0, vr 7 (v0 + 1)), (1, vi (v1)), (2, vi (v2))] [] (hq D x) (ThrI D y)
  unfold F_X7_conflict at h
  refine Ev.aload_n (q := 0) ⟨dX7_conflict_0, rfl⟩ rfl rfl ?_
  refine Ev.iload_n (q := 1) ⟨dX7_conflict_1, rfl⟩ rfl rfl ?_
  rcases bndX_s h with ⟨r2, x3, hv1, h⟩ | ⟨E, x3, hv1, rfl⟩
  rotate_left
  · exact Ev.callVE (mc1 := 1) (ms1 := 6) (h1 := hq D x3) vX7_236 (c_X7_requireConflict Θ D z _ _ _ _ hv1) rfl rfl (by decide) rfl ⟨by decide, by decide, by decide, by decide, Nat.le_of_ble_eq_true rfl⟩ ⟨dX7_conflict_2, rfl⟩ rfl ⟨rfl, rfl⟩
  refine Ev.callVN (mc1 := 1) (ms1 := 6) (h1 := hq D x3) vX7_236 (c_X7_requireConflict Θ D z _ _ _ _ hv1) rfl rfl (by decide) rfl ⟨by decide, by decide, by decide, by decide, Nat.le_of_ble_eq_true rfl⟩ ⟨dX7_conflict_2, rfl⟩ ?_
  clear hv1
  refine Ev.iload_n (q := 2) ⟨dX7_conflict_5, rfl⟩ rfl rfl ?_
  refine Ev.if_lt jX7_conflict_6 (fun hc => ?_) (fun hc => ?_)
  · replace h := (if_pos hc).symm.trans h; clear hc
    obtain rfl := Option.some.inj h
    exact Ev.throwSW eX7_IllegalArgumentException tX7_338 rfl dX7_conflict_15 dX7_conflict_18 dX7_conflict_19 dX7_conflict_22 dX7_conflict_25 (by decide) (Nat.le_of_ble_eq_true rfl) (by decide) (by decide) ⟨rfl, rfl⟩
  · replace h := (if_neg hc).symm.trans h; clear hc
    refine Ev.iload_n (q := 2) ⟨dX7_conflict_9, rfl⟩ rfl rfl ?_
    refine Ev.bipush ⟨dX7_conflict_10, rfl⟩ (inRd rfl) (by decide) ?_
    refine Ev.icmp_lt jX7_conflict_12 (fun hc => ?_) (fun hc => ?_)
    · replace h := (if_pos hc).symm.trans h; clear hc
      refine Ev.aload_n (q := 0) ⟨dX7_conflict_26, rfl⟩ rfl rfl ?_
      refine Ev.getRk (C2 := 6) (r := 0) fX7_10 rfl (by decide) (by decide) ⟨dX7_conflict_27, rfl⟩ ?_
      refine Ev.getRk (C2 := 1) (r := 0) fX7_226 rfl (by decide) (by decide) ⟨dX7_conflict_30, rfl⟩ ?_
      refine Ev.iload_n (q := 1) ⟨dX7_conflict_33, rfl⟩ rfl rfl ?_
      refine Ev.iload_n (q := 2) ⟨dX7_conflict_34, rfl⟩ rfl rfl ?_
      obtain ⟨r5, hv4, h⟩ := bnd_s h
      refine Ev.callV1 (mc1 := 1) (ms1 := 6) (v := vi r5) (h1 := hq D x3) vX7_340 (c_X1_part Θ D z _ _ _ _ _ hv4) rfl rfl (by decide) rfl ⟨by decide, by decide, Nat.le_of_eq (Nat.zero_add _), Nat.le_of_eq (Nat.zero_add _), Nat.le_of_ble_eq_true rfl⟩ ⟨dX7_conflict_35, rfl⟩ ?_
      clear hv4
      obtain rfl := Option.some.inj h
      exact Ev.ireturn (ty := .int) ⟨dX7_conflict_38, rfl⟩ rfl rfl ⟨rfl, rfl⟩
    · replace h := (if_neg hc).symm.trans h; clear hc
      obtain rfl := Option.some.inj h
      exact Ev.throwSW eX7_IllegalArgumentException tX7_338 rfl dX7_conflict_15 dX7_conflict_18 dX7_conflict_19 dX7_conflict_22 dX7_conflict_25 (by decide) (Nat.le_of_ble_eq_true rfl) (by decide) (by decide) ⟨rfl, rfl⟩

def F_X7_conflictsOf (z : Nat) (v0 : Nat) (v1 : Int) (x : Mm) : Option ((Int ⊕ String) × Mm) := if v1 < 0 then (some (.inr "java/lang/IllegalArgumentException", x)) else (if v1 < (5 : Int) then ((F_X1_countOf z (0) (v1) x).bind fun r2 => some ((.inl r2, x))) else (some (.inr "java/lang/IllegalArgumentException", x)))
set_option maxHeartbeats 4000000 in
set_option maxRecDepth 20000 in
theorem c_X7_conflictsOf (Θ : GC) (D : Nat → Nat → Prop) (z : Nat) (v0 : Nat) (v1 : Int) (x : Mm) (y) (h : F_X7_conflictsOf z v0 v1 x = some y) : Cal Θ mX7_conflictsOf 6 90 1 6 [vr 7 (v0 + 1), vi (v1)] (hq D x) (ThrI D y) := by
  refine Cal.of (by decide +kernel) rfl rfl (Nat.le_of_ble_eq_true rfl) ?_
  show Ev Θ mX7_conflictsOf 6 90 1 6 0 [(0, vr 7 (v0 + 1)), (1, vi (v1))] [] (hq D x) (ThrI D y)
  unfold F_X7_conflictsOf at h
  refine Ev.iload_n (q := 1) ⟨dX7_conflictsOf_0, rfl⟩ rfl rfl ?_
  refine Ev.if_lt jX7_conflictsOf_1 (fun hc => ?_) (fun hc => ?_)
  · replace h := (if_pos hc).symm.trans h; clear hc
    obtain rfl := Option.some.inj h
    exact Ev.throwSW eX7_IllegalArgumentException tX7_343 rfl dX7_conflictsOf_9 dX7_conflictsOf_12 dX7_conflictsOf_13 dX7_conflictsOf_16 dX7_conflictsOf_19 (by decide) (Nat.le_of_ble_eq_true rfl) (by decide) (by decide) ⟨rfl, rfl⟩
  · replace h := (if_neg hc).symm.trans h; clear hc
    refine Ev.iload_n (q := 1) ⟨dX7_conflictsOf_4, rfl⟩ rfl rfl ?_
    refine Ev.iconst ⟨dX7_conflictsOf_5, rfl⟩ (inRd rfl) ?_
    refine Ev.icmp_lt jX7_conflictsOf_6 (fun hc => ?_) (fun hc => ?_)
    · replace h := (if_pos hc).symm.trans h; clear hc
      refine Ev.aload_n (q := 0) ⟨dX7_conflictsOf_20, rfl⟩ rfl rfl ?_
      refine Ev.getRk (C2 := 6) (r := 0) fX7_10 rfl (by decide) (by decide) ⟨dX7_conflictsOf_21, rfl⟩ ?_
      refine Ev.getRk (C2 := 1) (r := 0) fX7_226 rfl (by decide) (by decide) ⟨dX7_conflictsOf_24, rfl⟩ ?_
      refine Ev.iload_n (q := 1) ⟨dX7_conflictsOf_27, rfl⟩ rfl rfl ?_
      obtain ⟨r2, hv1, h⟩ := bnd_s h
      refine Ev.callV1 (mc1 := 1) (ms1 := 6) (v := vi r2) (h1 := hq D x) vX7_345 (c_X1_countOf Θ D z _ _ _ _ hv1) rfl rfl (by decide) rfl ⟨by decide, by decide, Nat.le_of_eq (Nat.zero_add _), Nat.le_of_eq (Nat.zero_add _), Nat.le_of_ble_eq_true rfl⟩ ⟨dX7_conflictsOf_28, rfl⟩ ?_
      clear hv1
      obtain rfl := Option.some.inj h
      exact Ev.ireturn (ty := .int) ⟨dX7_conflictsOf_31, rfl⟩ rfl rfl ⟨rfl, rfl⟩
    · replace h := (if_neg hc).symm.trans h; clear hc
      obtain rfl := Option.some.inj h
      exact Ev.throwSW eX7_IllegalArgumentException tX7_343 rfl dX7_conflictsOf_9 dX7_conflictsOf_12 dX7_conflictsOf_13 dX7_conflictsOf_16 dX7_conflictsOf_19 (by decide) (Nat.le_of_ble_eq_true rfl) (by decide) (by decide) ⟨rfl, rfl⟩
