def F_X8_thrown (z : Nat) (v0 : Nat) (x : Mm) : Option (Int) := some ((x.1 8 v0 0))
set_option maxHeartbeats 4000000 in
set_option maxRecDepth 20000 in
theorem c_X8_thrown (Θ : GC) (D : Nat → Nat → Prop) (z : Nat) (v0 : Nat) (x : Mm) (y) (h : F_X8_thrown z v0 x = some y) : Cal Θ mX8_thrown 0 0 0 0 [vr 8 (v0 + 1)] (hq D x) (Ret (vi y) (hq D x)) := by
  refine Cal.of (by decide +kernel) rfl rfl (Nat.le_of_ble_eq_true rfl) ?_
  show Ev Θ mX8_thrown 0 0 0 0 0 [(0, vr 8 (v0 + 1))] [] (hq D x) (Ret (vi y) (hq D x))
  unfold F_X8_thrown at h
  refine Ev.aload_n (q := 0) ⟨dX8_thrown_0, rfl⟩ rfl rfl ?_
  refine Ev.getI fX8_38 (Or.inl rfl) ⟨dX8_thrown_1, rfl⟩ ?_
  obtain rfl := Option.some.inj h
  exact Ev.ireturn (ty := .int) ⟨dX8_thrown_4, rfl⟩ rfl rfl ⟨rfl, rfl⟩

def F_X8_in (z : Nat) (v0 : Int) (v1 : Int) (v2 : Int) (x : Mm) : Option (Int) := if v0 < v1 then (some ((0 : Int))) else (if v2 < v0 then (some ((0 : Int))) else (some ((1 : Int))))
set_option maxHeartbeats 4000000 in
set_option maxRecDepth 20000 in
theorem c_X8_in (Θ : GC) (D : Nat → Nat → Prop) (z : Nat) (v0 : Int) (v1 : Int) (v2 : Int) (x : Mm) (y) (h : F_X8_in z v0 v1 v2 x = some y) : Cal Θ mX8_in 0 0 0 0 [vi (v0), vi (v1), vi (v2)] (hq D x) (Ret (vi y) (hq D x)) := by
  refine Cal.of (by decide +kernel) rfl rfl (Nat.le_of_ble_eq_true rfl) ?_
  show Ev Θ mX8_in 0 0 0 0 0 [(0, vi (v0)), (1, vi (v1)), (2, vi (v2))] [] (hq D x) (Ret (vi y) (hq D x))
  unfold F_X8_in at h
  refine Ev.iload_n (q := 0) ⟨dX8_in_0, rfl⟩ rfl rfl ?_
  refine Ev.iload_n (q := 1) ⟨dX8_in_1, rfl⟩ rfl rfl ?_
  refine Ev.icmp_lt jX8_in_2 (fun hc => ?_) (fun hc => ?_)
  · replace h := (if_pos hc).symm.trans h; clear hc
    refine Ev.iconst ⟨dX8_in_14, rfl⟩ (inRd rfl) ?_
    obtain rfl := Option.some.inj h
    exact Ev.ireturn (ty := .boolean) ⟨dX8_in_15, rfl⟩ rfl rfl ⟨rfl, rfl⟩
  · replace h := (if_neg hc).symm.trans h; clear hc
    refine Ev.iload_n (q := 0) ⟨dX8_in_5, rfl⟩ rfl rfl ?_
    refine Ev.iload_n (q := 2) ⟨dX8_in_6, rfl⟩ rfl rfl ?_
    refine Ev.icmp_gt jX8_in_7 (fun hc => ?_) (fun hc => ?_)
    · replace h := (if_pos hc).symm.trans h; clear hc
      refine Ev.iconst ⟨dX8_in_14, rfl⟩ (inRd rfl) ?_
      obtain rfl := Option.some.inj h
      exact Ev.ireturn (ty := .boolean) ⟨dX8_in_15, rfl⟩ rfl rfl ⟨rfl, rfl⟩
    · replace h := (if_neg hc).symm.trans h; clear hc
      refine Ev.iconst ⟨dX8_in_10, rfl⟩ (inRd rfl) ?_
      refine Ev.goto jX8_in_11 ?_
      obtain rfl := Option.some.inj h
      exact Ev.ireturn (ty := .boolean) ⟨dX8_in_15, rfl⟩ rfl rfl ⟨rfl, rfl⟩

def F_X8_fails (z : Nat) (v0 : Nat) (v1 : Int) (v2 : Int) (x : Mm) : Option (Int × Mm) := if v1 = 0 then ((some (wI x 8 v0 0 (v2))).bind fun x1 => if v1 = 0 then (some (((1 : Int), x1))) else (some (((0 : Int), x1)))) else (if v1 = 0 then (some (((1 : Int), x))) else (some (((0 : Int), x))))
set_option maxHeartbeats 4000000 in
set_option maxRecDepth 20000 in
theorem c_X8_fails (Θ : GC) (D : Nat → Nat → Prop) (z : Nat) (v0 : Nat) (v1 : Int) (v2 : Int) (x : Mm) (y) (h : F_X8_fails z v0 v1 v2 x = some y) : Cal Θ mX8_fails 0 0 0 0 [vr 8 (v0 + 1), vi (v1), vi (v2)] (hq D x) (Ret (vi y.1) (hq D y.2)) := by
  refine Cal.of (by decide +kernel) rfl rfl (Nat.le_of_ble_eq_true rfl) ?_
  show Ev Θ mX8_fails 0 0 0 0 0 [(0, vr 8 (v0 + 1)), (1, vi (v1)), (2, vi (v2))] [] (hq D x) (Ret (vi y.1) (hq D y.2))
  unfold F_X8_fails at h
  refine Ev.iload_n (q := 1) ⟨dX8_fails_0, rfl⟩ rfl rfl ?_
  refine Ev.if_ne jX8_fails_1 (fun hc => ?_) (fun hc => ?_)
  · replace h := (if_neg hc).symm.trans h; clear hc
    refine Ev.iload_n (q := 1) ⟨dX8_fails_9, rfl⟩ rfl rfl ?_
    refine Ev.if_ne jX8_fails_10 (fun hc => ?_) (fun hc => ?_)
    · replace h := (if_neg hc).symm.trans h; clear hc
      refine Ev.iconst ⟨dX8_fails_17, rfl⟩ (inRd rfl) ?_
      obtain rfl := Option.some.inj h
      exact Ev.ireturn (ty := .boolean) ⟨dX8_fails_18, rfl⟩ rfl rfl ⟨rfl, rfl⟩
    · replace h := (if_pos hc).symm.trans h; clear hc
      refine Ev.iconst ⟨dX8_fails_13, rfl⟩ (inRd rfl) ?_
      refine Ev.goto jX8_fails_14 ?_
      obtain rfl := Option.some.inj h
      exact Ev.ireturn (ty := .boolean) ⟨dX8_fails_18, rfl⟩ rfl rfl ⟨rfl, rfl⟩
  · replace h := (if_pos hc).symm.trans h; clear hc
    refine Ev.aload_n (q := 0) ⟨dX8_fails_4, rfl⟩ rfl rfl ?_
    refine Ev.iload_n (q := 2) ⟨dX8_fails_5, rfl⟩ rfl rfl ?_
    obtain ⟨x1, ex, h⟩ := bnd_s h
    refine Ev.putI fX8_38 ⟨dX8_fails_6, rfl⟩ ?_
    refine Ev.cast ?_ rfl rfl (hqI ex)
    clear ex
    refine Ev.iload_n (q := 1) ⟨dX8_fails_9, rfl⟩ rfl rfl ?_
    refine Ev.if_ne jX8_fails_10 (fun hc => ?_) (fun hc => ?_)
    · replace h := (if_neg hc).symm.trans h; clear hc
      refine Ev.iconst ⟨dX8_fails_17, rfl⟩ (inRd rfl) ?_
      obtain rfl := Option.some.inj h
      exact Ev.ireturn (ty := .boolean) ⟨dX8_fails_18, rfl⟩ rfl rfl ⟨rfl, rfl⟩
    · replace h := (if_pos hc).symm.trans h; clear hc
      refine Ev.iconst ⟨dX8_fails_13, rfl⟩ (inRd rfl) ?_
      refine Ev.goto jX8_fails_14 ?_
      obtain rfl := Option.some.inj h
      exact Ev.ireturn (ty := .boolean) ⟨dX8_fails_18, rfl⟩ rfl rfl ⟨rfl, rfl⟩

def F_X8_byteOf_45 (z : Nat) (v5 : Int) (u0 : Int) (x : Mm) : Option (Int) := ckM v5 (4 : Int) <| ckR (((8 : Int) * (v5 % (4 : Int)))) <| ckR (((24 : Int) - ((8 : Int) * (v5 % (4 : Int))))) <| ckI ((24 : Int) - ((8 : Int) * (v5 % (4 : Int)))) 32 <| some ((biand (u0 / 2 ^ (((24 : Int) - ((8 : Int) * (v5 % (4 : Int))))).toNat) (255 : Int)))
set_option maxHeartbeats 4000000 in
set_option maxRecDepth 20000 in
theorem e_X8_byteOf_45 (Θ : GC) (D : Nat → Nat → Prop) (z : Nat) (v5 : Int) (u0 : Int) (x : Mm) (y) (h : F_X8_byteOf_45 z v5 u0 x = some y) : Ev Θ mX8_byteOf 0 0 0 0 45 [(5, vi (v5))] [vi (u0)] (hq D x) (Ret (vi y) (hq D x)) := by
  unfold F_X8_byteOf_45 at h
  refine Ev.istore (i := 6) (ls' := [(5, _), (6, _)]) ⟨dX8_byteOf_45, rfl⟩ (by decide) rfl ?_
  refine Ev.iload (q := 1) ⟨dX8_byteOf_47, rfl⟩ rfl ?_
  refine Ev.bipush ⟨dX8_byteOf_49, rfl⟩ (inRd rfl) (by decide) ?_
  refine Ev.bipush ⟨dX8_byteOf_51, rfl⟩ (inRd rfl) (by decide) ?_
  refine Ev.iload (q := 0) ⟨dX8_byteOf_53, rfl⟩ rfl ?_
  refine Ev.iconst ⟨dX8_byteOf_55, rfl⟩ (inRd rfl) ?_
  obtain ⟨c1, h⟩ := ckM_s h
  refine Ev.irem ⟨dX8_byteOf_56, rfl⟩ c1.1 c1.2 ?_
  obtain ⟨c2, h⟩ := ckR_s h
  refine Ev.imul ⟨dX8_byteOf_57, rfl⟩ c2 ?_
  obtain ⟨c3, h⟩ := ckR_s h
  refine Ev.isub ⟨dX8_byteOf_58, rfl⟩ c3 ?_
  obtain ⟨c4, h⟩ := ckI_s h
  refine Ev.ishr ⟨dX8_byteOf_59, rfl⟩ c4.1 c4.2 ?_
  refine Ev.sipush ⟨dX8_byteOf_60, rfl⟩ (inRd rfl) (by decide) ?_
  refine Ev.iand ⟨dX8_byteOf_63, rfl⟩ ?_
  obtain rfl := Option.some.inj h
  exact Ev.ireturn (ty := .int) ⟨dX8_byteOf_64, rfl⟩ rfl rfl ⟨rfl, rfl⟩
def F_X8_byteOf (z : Nat) (v0 : Int) (v1 : Int) (v2 : Int) (v3 : Int) (v4 : Int) (v5 : Int) (x : Mm) : Option (Int) := if (4 : Int) ≤ v5 then (if (8 : Int) ≤ v5 then (if (12 : Int) ≤ v5 then (if (16 : Int) ≤ v5 then (F_X8_byteOf_45 z (v5) (v4) x) else (F_X8_byteOf_45 z (v5) (v3) x)) else (F_X8_byteOf_45 z (v5) (v2) x)) else (F_X8_byteOf_45 z (v5) (v1) x)) else (F_X8_byteOf_45 z (v5) (v0) x)
set_option maxHeartbeats 4000000 in
set_option maxRecDepth 20000 in
theorem c_X8_byteOf (Θ : GC) (D : Nat → Nat → Prop) (z : Nat) (v0 : Int) (v1 : Int) (v2 : Int) (v3 : Int) (v4 : Int) (v5 : Int) (x : Mm) (y) (h : F_X8_byteOf z v0 v1 v2 v3 v4 v5 x = some y) : Cal Θ mX8_byteOf 0 0 0 0 [vi (v0), vi (v1), vi (v2), vi (v3), vi (v4), vi (v5)] (hq D x) (Ret (vi y) (hq D x)) := by
  refine Cal.of (by decide +kernel) rfl rfl (Nat.le_of_ble_eq_true rfl) ?_
  show Ev Θ mX8_byteOf 0 0 0 0 0 [(0, vi (v0)), (1, vi (v1)), (2, vi (v2)), (3, vi (v3)), (4, vi (v4)), (5, vi (v5))] [] (hq D x) (Ret (vi y) (hq D x))
  unfold F_X8_byteOf at h
  refine Ev.iload (q := 5) ⟨dX8_byteOf_0, rfl⟩ rfl ?_
  refine Ev.iconst ⟨dX8_byteOf_2, rfl⟩ (inRd rfl) ?_
  refine Ev.icmp_ge jX8_byteOf_3 (fun hc => ?_) (fun hc => ?_)
  · replace h := (if_pos hc).symm.trans h; clear hc
    refine Ev.iload (q := 5) ⟨dX8_byteOf_10, rfl⟩ rfl ?_
    refine Ev.bipush ⟨dX8_byteOf_12, rfl⟩ (inRd rfl) (by decide) ?_
    refine Ev.icmp_ge jX8_byteOf_14 (fun hc => ?_) (fun hc => ?_)
    · replace h := (if_pos hc).symm.trans h; clear hc
      refine Ev.iload (q := 5) ⟨dX8_byteOf_21, rfl⟩ rfl ?_
      refine Ev.bipush ⟨dX8_byteOf_23, rfl⟩ (inRd rfl) (by decide) ?_
      refine Ev.icmp_ge jX8_byteOf_25 (fun hc => ?_) (fun hc => ?_)
      · replace h := (if_pos hc).symm.trans h; clear hc
        refine Ev.iload (q := 5) ⟨dX8_byteOf_32, rfl⟩ rfl ?_
        refine Ev.bipush ⟨dX8_byteOf_34, rfl⟩ (inRd rfl) (by decide) ?_
        refine Ev.icmp_ge jX8_byteOf_36 (fun hc => ?_) (fun hc => ?_)
        · replace h := (if_pos hc).symm.trans h; clear hc
          refine Ev.iload (q := 4) ⟨dX8_byteOf_43, rfl⟩ rfl ?_
          refine Ev.keep [5] rfl ?_
          exact e_X8_byteOf_45 Θ D z _ _ _ _ h
        · replace h := (if_neg hc).symm.trans h; clear hc
          refine Ev.iload_n (q := 3) ⟨dX8_byteOf_39, rfl⟩ rfl rfl ?_
          refine Ev.goto jX8_byteOf_40 ?_
          refine Ev.keep [5] rfl ?_
          exact e_X8_byteOf_45 Θ D z _ _ _ _ h
      · replace h := (if_neg hc).symm.trans h; clear hc
        refine Ev.iload_n (q := 2) ⟨dX8_byteOf_28, rfl⟩ rfl rfl ?_
        refine Ev.goto jX8_byteOf_29 ?_
        refine Ev.keep [5] rfl ?_
        exact e_X8_byteOf_45 Θ D z _ _ _ _ h
    · replace h := (if_neg hc).symm.trans h; clear hc
      refine Ev.iload_n (q := 1) ⟨dX8_byteOf_17, rfl⟩ rfl rfl ?_
      refine Ev.goto jX8_byteOf_18 ?_
      refine Ev.keep [5] rfl ?_
      exact e_X8_byteOf_45 Θ D z _ _ _ _ h
  · replace h := (if_neg hc).symm.trans h; clear hc
    refine Ev.iload_n (q := 0) ⟨dX8_byteOf_6, rfl⟩ rfl rfl ?_
    refine Ev.goto jX8_byteOf_7 ?_
    refine Ev.keep [5] rfl ?_
    exact e_X8_byteOf_45 Θ D z _ _ _ _ h

def F_X8_append_11 (z : Nat) (v0 : Nat) (v1 : Int) (v2 : Int) (v3 : Int) (v4 : Int) (v5 : Int) (x : Mm) : Nat → Int → Int → Option (Int)
  | 0, _, _ => none
  | k + 1, v6, v7 => if (20 : Int) ≤ v7 then (some (v6)) else ((F_X8_byteOf z (v1) (v2) (v3) (v4) (v5) (v7) x).bind fun r3 => if r3 = 0 then (ckR ((v6 + (0 : Int))) <| ckR ((v7 + 1)) <| F_X8_append_11 z v0 v1 v2 v3 v4 v5 x k ((v6 + (0 : Int))) ((v7 + 1))) else (ckR ((v6 + (1 : Int))) <| ckR ((v7 + 1)) <| F_X8_append_11 z v0 v1 v2 v3 v4 v5 x k ((v6 + (1 : Int))) ((v7 + 1))))
set_option maxHeartbeats 4000000 in
set_option maxRecDepth 20000 in
theorem e_X8_append_11 (Θ : GC) (D : Nat → Nat → Prop) (z : Nat) (v0 : Nat) (v1 : Int) (v2 : Int) (v3 : Int) (v4 : Int) (v5 : Int) (x : Mm) (Q : Ro → Hp → Prop) (mc ms : Nat) : ∀ (k : Nat) (v6 : Int) (v7 : Int) (y), F_X8_append_11 z v0 v1 v2 v3 v4 v5 x k v6 v7 = some y → (Ev Θ mX8_append 1 26 mc ms 49 [(0, vr 8 (v0 + 1)), (1, vi (v1)), (2, vi (v2)), (3, vi (v3)), (4, vi (v4)), (5, vi (v5)), (6, vi (y))] [] (hq D x) Q) → Ev Θ mX8_append 1 26 mc ms 11 [(0, vr 8 (v0 + 1)), (1, vi (v1)), (2, vi (v2)), (3, vi (v3)), (4, vi (v4)), (5, vi (v5)), (6, vi (v6)), (7, vi (v7))] [] (hq D x) Q := by
  intro k
  induction k with
  | zero => intro v6 v7 y h; exact absurd h (by unfold F_X8_append_11; exact nofun)
  | succ k ih =>
    intro v6 v7 y h k1
    unfold F_X8_append_11 at h
    refine Ev.iload (q := 7) ⟨dX8_append_11, rfl⟩ rfl ?_
    refine Ev.bipush ⟨dX8_append_13, rfl⟩ (inRd rfl) (by decide) ?_
    refine Ev.icmp_ge jX8_append_15 (fun hc => ?_) (fun hc => ?_)
    · replace h := (if_pos hc).symm.trans h; clear hc
      refine Ev.keep [0, 1, 2, 3, 4, 5, 6] rfl ?_
      obtain rfl := Option.some.inj h
      exact k1
    · replace h := (if_neg hc).symm.trans h; clear hc
      refine Ev.iload (q := 6) ⟨dX8_append_18, rfl⟩ rfl ?_
      refine Ev.iload_n (q := 1) ⟨dX8_append_20, rfl⟩ rfl rfl ?_
      refine Ev.iload_n (q := 2) ⟨dX8_append_21, rfl⟩ rfl rfl ?_
      refine Ev.iload_n (q := 3) ⟨dX8_append_22, rfl⟩ rfl rfl ?_
      refine Ev.iload (q := 4) ⟨dX8_append_23, rfl⟩ rfl ?_
      refine Ev.iload (q := 5) ⟨dX8_append_25, rfl⟩ rfl ?_
      refine Ev.iload (q := 7) ⟨dX8_append_27, rfl⟩ rfl ?_
      obtain ⟨r3, hv2, h⟩ := bnd_s h
      refine Ev.callS1 (mc1 := mc) (ms1 := ms) (v := vi r3) (h1 := hq D x) sX8_42 (c_X8_byteOf Θ D z _ _ _ _ _ _ _ _ hv2) rfl rfl ⟨by decide, by decide, Nat.le_of_eq (Nat.zero_add _), Nat.le_of_eq (Nat.zero_add _), Nat.le_of_ble_eq_true rfl⟩ ⟨dX8_append_29, rfl⟩ ?_
      clear hv2
      refine Ev.if_eq jX8_append_32 (fun hc => ?_) (fun hc => ?_)
      · replace h := (if_pos hc).symm.trans h; clear hc
        refine Ev.iconst ⟨dX8_append_39, rfl⟩ (inRd rfl) ?_
        obtain ⟨c4, h⟩ := ckR_s h
        refine Ev.iadd ⟨dX8_append_40, rfl⟩ c4 ?_
        refine Ev.istore (i := 6) (ls' := [(0, _), (1, _), (2, _), (3, _), (4, _), (5, _), (6, _), (7, _)]) ⟨dX8_append_41, rfl⟩ (by decide) rfl ?_
        obtain ⟨c5, h⟩ := ckR_s h
        refine Ev.iinc (q := 7) (ls' := [(0, _), (1, _), (2, _), (3, _), (4, _), (5, _), (6, _), (7, _)]) ⟨dX8_append_43, rfl⟩ rfl (by decide) c5 rfl ?_
        refine Ev.goto jX8_append_46 ?_
        exact ih _ _ _ h k1
      · replace h := (if_neg hc).symm.trans h; clear hc
        refine Ev.iconst ⟨dX8_append_35, rfl⟩ (inRd rfl) ?_
        refine Ev.goto jX8_append_36 ?_
        obtain ⟨c6, h⟩ := ckR_s h
        refine Ev.iadd ⟨dX8_append_40, rfl⟩ c6 ?_
        refine Ev.istore (i := 6) (ls' := [(0, _), (1, _), (2, _), (3, _), (4, _), (5, _), (6, _), (7, _)]) ⟨dX8_append_41, rfl⟩ (by decide) rfl ?_
        obtain ⟨c7, h⟩ := ckR_s h
        refine Ev.iinc (q := 7) (ls' := [(0, _), (1, _), (2, _), (3, _), (4, _), (5, _), (6, _), (7, _)]) ⟨dX8_append_43, rfl⟩ rfl (by decide) c7 rfl ?_
        refine Ev.goto jX8_append_46 ?_
        exact ih _ _ _ h k1

def F_X8_append_80 (z : Nat) (v0 : Nat) (v1 : Int) (v2 : Int) (v3 : Int) (v4 : Int) (v5 : Int) : Nat → Int → Mm → Option (Mm)
  | 0, _, _ => none
  | k + 1, v7, x => if (20 : Int) ≤ v7 then (some (x)) else ((F_X8_byteOf z (v1) (v2) (v3) (v4) (v5) (v7) x).bind fun r13 => if r13 = 0 then (ckR ((v7 + 1)) <| F_X8_append_80 z v0 v1 v2 v3 v4 v5 k ((v7 + 1)) x) else (ckI (x.1 8 v0 2) 600 <| (some (wI x 26 0 ((x.1 8 v0 2)).toNat (r13))).bind fun x16 => ckR (((x16.1 8 v0 2) + (1 : Int))) <| (some (wI x16 8 v0 2 (((x16.1 8 v0 2) + (1 : Int))))).bind fun x18 => ckR ((v7 + 1)) <| F_X8_append_80 z v0 v1 v2 v3 v4 v5 k ((v7 + 1)) x18))
set_option maxHeartbeats 4000000 in
set_option maxRecDepth 20000 in
theorem e_X8_append_80 (Θ : GC) (D : Nat → Nat → Prop) (z : Nat) (v0 : Nat) (v1 : Int) (v2 : Int) (v3 : Int) (v4 : Int) (v5 : Int) (Q : Ro → Hp → Prop) (mc ms : Nat) : ∀ (k : Nat) (v7 : Int) (x : Mm) (y), F_X8_append_80 z v0 v1 v2 v3 v4 v5 k v7 x = some y → (Ev Θ mX8_append 1 26 mc ms 133 [(0, vr 8 (v0 + 1)), (1, vi (v1)), (2, vi (v2)), (3, vi (v3)), (4, vi (v4)), (5, vi (v5))] [] (hq D y) Q) → Ev Θ mX8_append 1 26 mc ms 80 [(0, vr 8 (v0 + 1)), (1, vi (v1)), (2, vi (v2)), (3, vi (v3)), (4, vi (v4)), (5, vi (v5)), (7, vi (v7))] [] (hq D x) Q := by
  intro k
  induction k with
  | zero => intro v7 x y h; exact absurd h (by unfold F_X8_append_80; exact nofun)
  | succ k ih =>
    intro v7 x y h k1
    unfold F_X8_append_80 at h
    refine Ev.iload (q := 6) ⟨dX8_append_80, rfl⟩ rfl ?_
    refine Ev.bipush ⟨dX8_append_82, rfl⟩ (inRd rfl) (by decide) ?_
    refine Ev.icmp_ge jX8_append_84 (fun hc => ?_) (fun hc => ?_)
    · replace h := (if_pos hc).symm.trans h; clear hc
      refine Ev.keep [0, 1, 2, 3, 4, 5] rfl ?_
      obtain rfl := Option.some.inj h
      exact k1
    · replace h := (if_neg hc).symm.trans h; clear hc
      refine Ev.iload_n (q := 1) ⟨dX8_append_87, rfl⟩ rfl rfl ?_
      refine Ev.iload_n (q := 2) ⟨dX8_append_88, rfl⟩ rfl rfl ?_
      refine Ev.iload_n (q := 3) ⟨dX8_append_89, rfl⟩ rfl rfl ?_
      refine Ev.iload (q := 4) ⟨dX8_append_90, rfl⟩ rfl ?_
      refine Ev.iload (q := 5) ⟨dX8_append_92, rfl⟩ rfl ?_
      refine Ev.iload (q := 6) ⟨dX8_append_94, rfl⟩ rfl ?_
      obtain ⟨r13, hv12, h⟩ := bnd_s h
      refine Ev.callS1 (mc1 := mc) (ms1 := ms) (v := vi r13) (h1 := hq D x) sX8_42 (c_X8_byteOf Θ D z _ _ _ _ _ _ _ _ hv12) rfl rfl ⟨by decide, by decide, Nat.le_of_eq (Nat.zero_add _), Nat.le_of_eq (Nat.zero_add _), Nat.le_of_ble_eq_true rfl⟩ ⟨dX8_append_96, rfl⟩ ?_
      clear hv12
      refine Ev.istore (i := 8) (ls' := [(0, _), (1, _), (2, _), (3, _), (4, _), (5, _), (7, _), (8, _)]) ⟨dX8_append_99, rfl⟩ (by decide) rfl ?_
      refine Ev.iload (q := 7) ⟨dX8_append_101, rfl⟩ rfl ?_
      refine Ev.if_eq jX8_append_103 (fun hc => ?_) (fun hc => ?_)
      · replace h := (if_pos hc).symm.trans h; clear hc
        obtain ⟨c14, h⟩ := ckR_s h
        refine Ev.iinc (q := 6) (ls' := [(0, _), (1, _), (2, _), (3, _), (4, _), (5, _), (7, _), (8, _)]) ⟨dX8_append_127, rfl⟩ rfl (by decide) c14 rfl ?_
        refine Ev.goto jX8_append_130 ?_
        refine Ev.keep [0, 1, 2, 3, 4, 5, 6] rfl ?_
        exact ih _ _ _ h k1
      · replace h := (if_neg hc).symm.trans h; clear hc
        refine Ev.aload_n (q := 0) ⟨dX8_append_106, rfl⟩ rfl rfl ?_
        refine Ev.getRk (C2 := 26) (r := 0) fX8_9 rfl (by decide) (by decide) ⟨dX8_append_107, rfl⟩ ?_
        refine Ev.aload_n (q := 0) ⟨dX8_append_110, rfl⟩ rfl rfl ?_
        refine Ev.getI fX8_46 (Or.inl rfl) ⟨dX8_append_111, rfl⟩ ?_
        refine Ev.iload (q := 7) ⟨dX8_append_114, rfl⟩ rfl ?_
        obtain ⟨c15, h⟩ := ckI_s h
        obtain ⟨x16, ex, h⟩ := bnd_s h
        refine Ev.iastore (by decide) c15.1 c15.2 ⟨dX8_append_116, rfl⟩ ?_
        refine Ev.cast ?_ rfl rfl (hqI ex)
        clear ex
        refine Ev.aload_n (q := 0) ⟨dX8_append_117, rfl⟩ rfl rfl ?_
        refine Ev.dup ⟨dX8_append_118, rfl⟩ rfl ?_
        refine Ev.getI fX8_46 (Or.inl rfl) ⟨dX8_append_119, rfl⟩ ?_
        refine Ev.iconst ⟨dX8_append_122, rfl⟩ (inRd rfl) ?_
        obtain ⟨c17, h⟩ := ckR_s h
        refine Ev.iadd ⟨dX8_append_123, rfl⟩ c17 ?_
        obtain ⟨x18, ex, h⟩ := bnd_s h
        refine Ev.putI fX8_46 ⟨dX8_append_124, rfl⟩ ?_
        refine Ev.cast ?_ rfl rfl (hqI ex)
        clear ex
        obtain ⟨c19, h⟩ := ckR_s h
        refine Ev.iinc (q := 6) (ls' := [(0, _), (1, _), (2, _), (3, _), (4, _), (5, _), (7, _), (8, _)]) ⟨dX8_append_127, rfl⟩ rfl (by decide) c19 rfl ?_
        refine Ev.goto jX8_append_130 ?_
        refine Ev.keep [0, 1, 2, 3, 4, 5, 6] rfl ?_
        exact ih _ _ _ h k1

def F_X8_append_68 (z : Nat) (v0 : Nat) (v1 : Int) (v2 : Int) (v3 : Int) (v4 : Int) (v5 : Int) (u0 : Int) (u1 : Nat) (x : Mm) : Option (Int × Mm) := (F_X8_fails z (u1) (u0) ((1 : Int)) x).bind fun r11 => if r11.1 = 0 then ((F_X8_append_80 z (v0) (v1) (v2) (v3) (v4) (v5) z ((0 : Int)) r11.2).bind fun s20 => some (((s20.1 8 v0 2), s20))) else (some (((0 : Int), r11.2)))
set_option maxHeartbeats 4000000 in
set_option maxRecDepth 20000 in
theorem e_X8_append_68 (Θ : GC) (D : Nat → Nat → Prop) (z : Nat) (v0 : Nat) (v1 : Int) (v2 : Int) (v3 : Int) (v4 : Int) (v5 : Int) (u0 : Int) (u1 : Nat) (x : Mm) (y) (h : F_X8_append_68 z v0 v1 v2 v3 v4 v5 u0 u1 x = some y) : Ev Θ mX8_append 1 26 0 0 68 [(0, vr 8 (v0 + 1)), (1, vi (v1)), (2, vi (v2)), (3, vi (v3)), (4, vi (v4)), (5, vi (v5))] [vi (u0), vr 8 (u1 + 1)] (hq D x) (Ret (vi y.1) (hq D y.2)) := by
  unfold F_X8_append_68 at h
  refine Ev.iconst ⟨dX8_append_68, rfl⟩ (inRd rfl) ?_
  obtain ⟨r11, hv10, h⟩ := bnd_s h
  refine Ev.callV1 (mc1 := 0) (ms1 := 0) (v := vi r11.1) (h1 := hq D r11.2) vX8_49 (c_X8_fails Θ D z _ _ _ _ _ hv10) rfl rfl (by decide) rfl ⟨by decide, by decide, Nat.le_of_eq (Nat.zero_add _), Nat.le_of_eq (Nat.zero_add _), Nat.le_of_ble_eq_true rfl⟩ ⟨dX8_append_69, rfl⟩ ?_
  clear hv10
  refine Ev.if_eq jX8_append_72 (fun hc => ?_) (fun hc => ?_)
  · replace h := (if_pos hc).symm.trans h; clear hc
    refine Ev.iconst ⟨dX8_append_77, rfl⟩ (inRd rfl) ?_
    refine Ev.istore (i := 7) (ls' := [(0, _), (1, _), (2, _), (3, _), (4, _), (5, _), (7, _)]) ⟨dX8_append_78, rfl⟩ (by decide) rfl ?_
    obtain ⟨s20, hl, h⟩ := bnd_s h
    refine e_X8_append_80 Θ D z _ _ _ _ _ _ _ _ _ _ _ _ _ hl ?_
    clear hl
    refine Ev.aload_n (q := 0) ⟨dX8_append_133, rfl⟩ rfl rfl ?_
    refine Ev.getI fX8_46 (Or.inl rfl) ⟨dX8_append_134, rfl⟩ ?_
    obtain rfl := Option.some.inj h
    exact Ev.ireturn (ty := .int) ⟨dX8_append_137, rfl⟩ rfl rfl ⟨rfl, rfl⟩
  · replace h := (if_neg hc).symm.trans h; clear hc
    refine Ev.iconst ⟨dX8_append_75, rfl⟩ (inRd rfl) ?_
    obtain rfl := Option.some.inj h
    exact Ev.ireturn (ty := .int) ⟨dX8_append_76, rfl⟩ rfl rfl ⟨rfl, rfl⟩
def F_X8_append (z : Nat) (v0 : Nat) (v1 : Int) (v2 : Int) (v3 : Int) (v4 : Int) (v5 : Int) (x : Mm) : Option (Int × Mm) := (some (wI x 8 v0 0 ((0 : Int)))).bind fun x1 => (F_X8_append_11 z (v0) (v1) (v2) (v3) (v4) (v5) x1 z ((0 : Int)) ((0 : Int))).bind fun s8 => ckR (((x1.1 8 v0 2) + s8)) <| if (600 : Int) < ((x1.1 8 v0 2) + s8) then (F_X8_append_68 z (v0) (v1) (v2) (v3) (v4) (v5) ((0 : Int)) (v0) x1) else (F_X8_append_68 z (v0) (v1) (v2) (v3) (v4) (v5) ((1 : Int)) (v0) x1)
set_option maxHeartbeats 4000000 in
set_option maxRecDepth 20000 in
theorem c_X8_append (Θ : GC) (D : Nat → Nat → Prop) (z : Nat) (v0 : Nat) (v1 : Int) (v2 : Int) (v3 : Int) (v4 : Int) (v5 : Int) (x : Mm) (y) (h : F_X8_append z v0 v1 v2 v3 v4 v5 x = some y) : Cal Θ mX8_append 1 26 0 0 [vr 8 (v0 + 1), vi (v1), vi (v2), vi (v3), vi (v4), vi (v5)] (hq D x) (Ret (vi y.1) (hq D y.2)) := by
  refine Cal.of (by decide +kernel) rfl rfl (Nat.le_of_ble_eq_true rfl) ?_
  show Ev Θ mX8_append 1 26 0 0 0 [(0, vr 8 (v0 + 1)), (1, vi (v1)), (2, vi (v2)), (3, vi (v3)), (4, vi (v4)), (5, vi (v5))] [] (hq D x) (Ret (vi y.1) (hq D y.2))
  unfold F_X8_append at h
  refine Ev.aload_n (q := 0) ⟨dX8_append_0, rfl⟩ rfl rfl ?_
  refine Ev.iconst ⟨dX8_append_1, rfl⟩ (inRd rfl) ?_
  obtain ⟨x1, ex, h⟩ := bnd_s h
  refine Ev.putI fX8_38 ⟨dX8_append_2, rfl⟩ ?_
  refine Ev.cast ?_ rfl rfl (hqI ex)
  clear ex
  refine Ev.iconst ⟨dX8_append_5, rfl⟩ (inRd rfl) ?_
  refine Ev.istore (i := 6) (ls' := [(0, _), (1, _), (2, _), (3, _), (4, _), (5, _), (6, _)]) ⟨dX8_append_6, rfl⟩ (by decide) rfl ?_
  refine Ev.iconst ⟨dX8_append_8, rfl⟩ (inRd rfl) ?_
  refine Ev.istore (i := 7) (ls' := [(0, _), (1, _), (2, _), (3, _), (4, _), (5, _), (6, _), (7, _)]) ⟨dX8_append_9, rfl⟩ (by decide) rfl ?_
  obtain ⟨s8, hl, h⟩ := bnd_s h
  refine e_X8_append_11 Θ D z _ _ _ _ _ _ _ _ _ _ _ _ _ _ hl ?_
  clear hl
  refine Ev.aload_n (q := 0) ⟨dX8_append_49, rfl⟩ rfl rfl ?_
  refine Ev.aload_n (q := 0) ⟨dX8_append_50, rfl⟩ rfl rfl ?_
  refine Ev.getI fX8_46 (Or.inl rfl) ⟨dX8_append_51, rfl⟩ ?_
  refine Ev.iload (q := 6) ⟨dX8_append_54, rfl⟩ rfl ?_
  obtain ⟨c9, h⟩ := ckR_s h
  refine Ev.iadd ⟨dX8_append_56, rfl⟩ c9 ?_
  refine Ev.sipush ⟨dX8_append_57, rfl⟩ (inRd rfl) (by decide) ?_
  refine Ev.icmp_gt jX8_append_60 (fun hc => ?_) (fun hc => ?_)
  · replace h := (if_pos hc).symm.trans h; clear hc
    refine Ev.iconst ⟨dX8_append_67, rfl⟩ (inRd rfl) ?_
    refine Ev.keep [0, 1, 2, 3, 4, 5] rfl ?_
    exact e_X8_append_68 Θ D z _ _ _ _ _ _ _ _ _ _ h
  · replace h := (if_neg hc).symm.trans h; clear hc
    refine Ev.iconst ⟨dX8_append_63, rfl⟩ (inRd rfl) ?_
    refine Ev.goto jX8_append_64 ?_
    refine Ev.keep [0, 1, 2, 3, 4, 5] rfl ?_
    exact e_X8_append_68 Θ D z _ _ _ _ _ _ _ _ _ _ h

def F_X8_truncate (z : Nat) (v0 : Nat) (v1 : Int) (x : Mm) : Option (Int × Mm) := (some (wI x 8 v0 0 ((0 : Int)))).bind fun x1 => (F_X8_in z (v1) ((0 : Int)) ((x1.1 8 v0 2)) x1).bind fun r3 => (F_X8_fails z (v0) (r3) ((1 : Int)) x1).bind fun r5 => if r5.1 = 0 then ((some (wI r5.2 8 v0 2 (v1))).bind fun x6 => some ((v1, x6))) else (some (((0 : Int), r5.2)))
set_option maxHeartbeats 4000000 in
set_option maxRecDepth 20000 in
theorem c_X8_truncate (Θ : GC) (D : Nat → Nat → Prop) (z : Nat) (v0 : Nat) (v1 : Int) (x : Mm) (y) (h : F_X8_truncate z v0 v1 x = some y) : Cal Θ mX8_truncate 1 22 0 0 [vr 8 (v0 + 1), vi (v1)] (hq D x) (Ret (vi y.1) (hq D y.2)) := by
  refine Cal.of (by decide +kernel) rfl rfl (Nat.le_of_ble_eq_true rfl) ?_
  show Ev Θ mX8_truncate 1 22 0 0 0 [(0, vr 8 (v0 + 1)), (1, vi (v1))] [] (hq D x) (Ret (vi y.1) (hq D y.2))
  unfold F_X8_truncate at h
  refine Ev.aload_n (q := 0) ⟨dX8_truncate_0, rfl⟩ rfl rfl ?_
  refine Ev.iconst ⟨dX8_truncate_1, rfl⟩ (inRd rfl) ?_
  obtain ⟨x1, ex, h⟩ := bnd_s h
  refine Ev.putI fX8_38 ⟨dX8_truncate_2, rfl⟩ ?_
  refine Ev.cast ?_ rfl rfl (hqI ex)
  clear ex
  refine Ev.aload_n (q := 0) ⟨dX8_truncate_5, rfl⟩ rfl rfl ?_
  refine Ev.iload_n (q := 1) ⟨dX8_truncate_6, rfl⟩ rfl rfl ?_
  refine Ev.iconst ⟨dX8_truncate_7, rfl⟩ (inRd rfl) ?_
  refine Ev.aload_n (q := 0) ⟨dX8_truncate_8, rfl⟩ rfl rfl ?_
  refine Ev.getI fX8_46 (Or.inl rfl) ⟨dX8_truncate_9, rfl⟩ ?_
  obtain ⟨r3, hv2, h⟩ := bnd_s h
  refine Ev.callS1 (mc1 := 0) (ms1 := 0) (v := vi r3) (h1 := hq D x1) sX8_53 (c_X8_in Θ D z _ _ _ _ _ hv2) rfl rfl ⟨by decide, by decide, Nat.le_of_eq (Nat.zero_add _), Nat.le_of_eq (Nat.zero_add _), Nat.le_of_ble_eq_true rfl⟩ ⟨dX8_truncate_12, rfl⟩ ?_
  clear hv2
  refine Ev.iconst ⟨dX8_truncate_15, rfl⟩ (inRd rfl) ?_
  obtain ⟨r5, hv4, h⟩ := bnd_s h
  refine Ev.callV1 (mc1 := 0) (ms1 := 0) (v := vi r5.1) (h1 := hq D r5.2) vX8_49 (c_X8_fails Θ D z _ _ _ _ _ hv4) rfl rfl (by decide) rfl ⟨by decide, by decide, Nat.le_of_eq (Nat.zero_add _), Nat.le_of_eq (Nat.zero_add _), Nat.le_of_ble_eq_true rfl⟩ ⟨dX8_truncate_16, rfl⟩ ?_
  clear hv4
  refine Ev.if_eq jX8_truncate_19 (fun hc => ?_) (fun hc => ?_)
  · replace h := (if_pos hc).symm.trans h; clear hc
    refine Ev.aload_n (q := 0) ⟨dX8_truncate_24, rfl⟩ rfl rfl ?_
    refine Ev.iload_n (q := 1) ⟨dX8_truncate_25, rfl⟩ rfl rfl ?_
    obtain ⟨x6, ex, h⟩ := bnd_s h
    refine Ev.putI fX8_46 ⟨dX8_truncate_26, rfl⟩ ?_
    refine Ev.cast ?_ rfl rfl (hqI ex)
    clear ex
    refine Ev.iload_n (q := 1) ⟨dX8_truncate_29, rfl⟩ rfl rfl ?_
    obtain rfl := Option.some.inj h
    exact Ev.ireturn (ty := .int) ⟨dX8_truncate_30, rfl⟩ rfl rfl ⟨rfl, rfl⟩
  · replace h := (if_neg hc).symm.trans h; clear hc
    refine Ev.iconst ⟨dX8_truncate_22, rfl⟩ (inRd rfl) ?_
    obtain rfl := Option.some.inj h
    exact Ev.ireturn (ty := .int) ⟨dX8_truncate_23, rfl⟩ rfl rfl ⟨rfl, rfl⟩

def F_X8_peek (z : Nat) (v0 : Nat) (v1 : Int) (x : Mm) : Option (Int) := if (x.1 8 v0 2) ≤ v1 then (some ((-1 : Int))) else (ckI v1 600 <| some ((x.1 26 0 (v1).toNat)))
set_option maxHeartbeats 4000000 in
set_option maxRecDepth 20000 in
theorem c_X8_peek (Θ : GC) (D : Nat → Nat → Prop) (z : Nat) (v0 : Nat) (v1 : Int) (x : Mm) (y) (h : F_X8_peek z v0 v1 x = some y) : Cal Θ mX8_peek 0 0 0 0 [vr 8 (v0 + 1), vi (v1)] (hq D x) (Ret (vi y) (hq D x)) := by
  refine Cal.of (by decide +kernel) rfl rfl (Nat.le_of_ble_eq_true rfl) ?_
  show Ev Θ mX8_peek 0 0 0 0 0 [(0, vr 8 (v0 + 1)), (1, vi (v1))] [] (hq D x) (Ret (vi y) (hq D x))
  unfold F_X8_peek at h
  refine Ev.iload_n (q := 1) ⟨dX8_peek_0, rfl⟩ rfl rfl ?_
  refine Ev.aload_n (q := 0) ⟨dX8_peek_1, rfl⟩ rfl rfl ?_
  refine Ev.getI fX8_46 (Or.inl rfl) ⟨dX8_peek_2, rfl⟩ ?_
  refine Ev.icmp_ge jX8_peek_5 (fun hc => ?_) (fun hc => ?_)
  · replace h := (if_pos hc).symm.trans h; clear hc
    refine Ev.iconst ⟨dX8_peek_17, rfl⟩ (inRd rfl) ?_
    obtain rfl := Option.some.inj h
    exact Ev.ireturn (ty := .int) ⟨dX8_peek_18, rfl⟩ rfl rfl ⟨rfl, rfl⟩
  · replace h := (if_neg hc).symm.trans h; clear hc
    refine Ev.aload_n (q := 0) ⟨dX8_peek_8, rfl⟩ rfl rfl ?_
    refine Ev.getRk (C2 := 26) (r := 0) fX8_9 rfl (by decide) (by decide) ⟨dX8_peek_9, rfl⟩ ?_
    refine Ev.iload_n (q := 1) ⟨dX8_peek_12, rfl⟩ rfl rfl ?_
    obtain ⟨c1, h⟩ := ckI_s h
    refine Ev.iaload (by decide) c1.1 c1.2 ⟨dX8_peek_13, rfl⟩ ?_
    refine Ev.goto jX8_peek_14 ?_
    obtain rfl := Option.some.inj h
    exact Ev.ireturn (ty := .int) ⟨dX8_peek_18, rfl⟩ rfl rfl ⟨rfl, rfl⟩

def F_X8_isLetter (z : Nat) (v0 : Int) (x : Mm) : Option (Int) := if v0 < (97 : Int) then (some ((0 : Int))) else (if (122 : Int) < v0 then (some ((0 : Int))) else (some ((1 : Int))))
set_option maxHeartbeats 4000000 in
set_option maxRecDepth 20000 in
theorem c_X8_isLetter (Θ : GC) (D : Nat → Nat → Prop) (z : Nat) (v0 : Int) (x : Mm) (y) (h : F_X8_isLetter z v0 x = some y) : Cal Θ mX8_isLetter 0 0 0 0 [vi (v0)] (hq D x) (Ret (vi y) (hq D x)) := by
  refine Cal.of (by decide +kernel) rfl rfl (Nat.le_of_ble_eq_true rfl) ?_
  show Ev Θ mX8_isLetter 0 0 0 0 0 [(0, vi (v0))] [] (hq D x) (Ret (vi y) (hq D x))
  unfold F_X8_isLetter at h
  refine Ev.iload_n (q := 0) ⟨dX8_isLetter_0, rfl⟩ rfl rfl ?_
  refine Ev.bipush ⟨dX8_isLetter_1, rfl⟩ (inRd rfl) (by decide) ?_
  refine Ev.icmp_lt jX8_isLetter_3 (fun hc => ?_) (fun hc => ?_)
  · replace h := (if_pos hc).symm.trans h; clear hc
    refine Ev.iconst ⟨dX8_isLetter_16, rfl⟩ (inRd rfl) ?_
    obtain rfl := Option.some.inj h
    exact Ev.ireturn (ty := .boolean) ⟨dX8_isLetter_17, rfl⟩ rfl rfl ⟨rfl, rfl⟩
  · replace h := (if_neg hc).symm.trans h; clear hc
    refine Ev.iload_n (q := 0) ⟨dX8_isLetter_6, rfl⟩ rfl rfl ?_
    refine Ev.bipush ⟨dX8_isLetter_7, rfl⟩ (inRd rfl) (by decide) ?_
    refine Ev.icmp_gt jX8_isLetter_9 (fun hc => ?_) (fun hc => ?_)
    · replace h := (if_pos hc).symm.trans h; clear hc
      refine Ev.iconst ⟨dX8_isLetter_16, rfl⟩ (inRd rfl) ?_
      obtain rfl := Option.some.inj h
      exact Ev.ireturn (ty := .boolean) ⟨dX8_isLetter_17, rfl⟩ rfl rfl ⟨rfl, rfl⟩
    · replace h := (if_neg hc).symm.trans h; clear hc
      refine Ev.iconst ⟨dX8_isLetter_12, rfl⟩ (inRd rfl) ?_
      refine Ev.goto jX8_isLetter_13 ?_
      obtain rfl := Option.some.inj h
      exact Ev.ireturn (ty := .boolean) ⟨dX8_isLetter_17, rfl⟩ rfl rfl ⟨rfl, rfl⟩

def F_X8_isDigit (z : Nat) (v0 : Int) (x : Mm) : Option (Int) := if v0 < (48 : Int) then (some ((0 : Int))) else (if (57 : Int) < v0 then (some ((0 : Int))) else (some ((1 : Int))))
set_option maxHeartbeats 4000000 in
set_option maxRecDepth 20000 in
theorem c_X8_isDigit (Θ : GC) (D : Nat → Nat → Prop) (z : Nat) (v0 : Int) (x : Mm) (y) (h : F_X8_isDigit z v0 x = some y) : Cal Θ mX8_isDigit 0 0 0 0 [vi (v0)] (hq D x) (Ret (vi y) (hq D x)) := by
  refine Cal.of (by decide +kernel) rfl rfl (Nat.le_of_ble_eq_true rfl) ?_
  show Ev Θ mX8_isDigit 0 0 0 0 0 [(0, vi (v0))] [] (hq D x) (Ret (vi y) (hq D x))
  unfold F_X8_isDigit at h
  refine Ev.iload_n (q := 0) ⟨dX8_isDigit_0, rfl⟩ rfl rfl ?_
  refine Ev.bipush ⟨dX8_isDigit_1, rfl⟩ (inRd rfl) (by decide) ?_
  refine Ev.icmp_lt jX8_isDigit_3 (fun hc => ?_) (fun hc => ?_)
  · replace h := (if_pos hc).symm.trans h; clear hc
    refine Ev.iconst ⟨dX8_isDigit_16, rfl⟩ (inRd rfl) ?_
    obtain rfl := Option.some.inj h
    exact Ev.ireturn (ty := .boolean) ⟨dX8_isDigit_17, rfl⟩ rfl rfl ⟨rfl, rfl⟩
  · replace h := (if_neg hc).symm.trans h; clear hc
    refine Ev.iload_n (q := 0) ⟨dX8_isDigit_6, rfl⟩ rfl rfl ?_
    refine Ev.bipush ⟨dX8_isDigit_7, rfl⟩ (inRd rfl) (by decide) ?_
    refine Ev.icmp_gt jX8_isDigit_9 (fun hc => ?_) (fun hc => ?_)
    · replace h := (if_pos hc).symm.trans h; clear hc
      refine Ev.iconst ⟨dX8_isDigit_16, rfl⟩ (inRd rfl) ?_
      obtain rfl := Option.some.inj h
      exact Ev.ireturn (ty := .boolean) ⟨dX8_isDigit_17, rfl⟩ rfl rfl ⟨rfl, rfl⟩
    · replace h := (if_neg hc).symm.trans h; clear hc
      refine Ev.iconst ⟨dX8_isDigit_12, rfl⟩ (inRd rfl) ?_
      refine Ev.goto jX8_isDigit_13 ?_
      obtain rfl := Option.some.inj h
      exact Ev.ireturn (ty := .boolean) ⟨dX8_isDigit_17, rfl⟩ rfl rfl ⟨rfl, rfl⟩

def F_X8_step_0 (z : Nat) (v0 : Nat) : Nat → Mm → Option (Mm)
  | 0, _ => none
  | k + 1, x => (F_X8_peek z (v0) ((x.1 8 v0 3)) x).bind fun r2 => if r2 = (32 : Int) then (ckR (((x.1 8 v0 3) + (1 : Int))) <| (some (wI x 8 v0 3 (((x.1 8 v0 3) + (1 : Int))))).bind fun x4 => F_X8_step_0 z v0 k  x4) else (some (x))
set_option maxHeartbeats 4000000 in
set_option maxRecDepth 20000 in
theorem e_X8_step_0 (Θ : GC) (D : Nat → Nat → Prop) (z : Nat) (v0 : Nat) (Q : Ro → Hp → Prop) (mc ms : Nat) : ∀ (k : Nat) (x : Mm) (y), F_X8_step_0 z v0 k x = some y → (Ev Θ mX8_step 1 23 mc ms 26 [(0, vr 8 (v0 + 1))] [] (hq D y) Q) → Ev Θ mX8_step 1 23 mc ms 0 [(0, vr 8 (v0 + 1))] [] (hq D x) Q := by
  intro k
  induction k with
  | zero => intro x y h; exact absurd h (by unfold F_X8_step_0; exact nofun)
  | succ k ih =>
    intro x y h k1
    unfold F_X8_step_0 at h
    refine Ev.aload_n (q := 0) ⟨dX8_step_0, rfl⟩ rfl rfl ?_
    refine Ev.aload_n (q := 0) ⟨dX8_step_1, rfl⟩ rfl rfl ?_
    refine Ev.getI fX8_57 (Or.inl rfl) ⟨dX8_step_2, rfl⟩ ?_
    obtain ⟨r2, hv1, h⟩ := bnd_s h
    refine Ev.callV1 (mc1 := mc) (ms1 := ms) (v := vi r2) (h1 := hq D x) vX8_60 (c_X8_peek Θ D z _ _ _ _ hv1) rfl rfl (by decide) rfl ⟨by decide, by decide, Nat.le_of_eq (Nat.zero_add _), Nat.le_of_eq (Nat.zero_add _), Nat.le_of_ble_eq_true rfl⟩ ⟨dX8_step_5, rfl⟩ ?_
    clear hv1
    refine Ev.bipush ⟨dX8_step_8, rfl⟩ (inRd rfl) (by decide) ?_
    refine Ev.icmp_ne jX8_step_10 (fun hc => ?_) (fun hc => ?_)
    · replace h := (if_neg hc).symm.trans h; clear hc
      obtain rfl := Option.some.inj h
      exact k1
    · replace h := (if_pos hc).symm.trans h; clear hc
      refine Ev.aload_n (q := 0) ⟨dX8_step_13, rfl⟩ rfl rfl ?_
      refine Ev.dup ⟨dX8_step_14, rfl⟩ rfl ?_
      refine Ev.getI fX8_57 (Or.inl rfl) ⟨dX8_step_15, rfl⟩ ?_
      refine Ev.iconst ⟨dX8_step_18, rfl⟩ (inRd rfl) ?_
      obtain ⟨c3, h⟩ := ckR_s h
      refine Ev.iadd ⟨dX8_step_19, rfl⟩ c3 ?_
      obtain ⟨x4, ex, h⟩ := bnd_s h
      refine Ev.putI fX8_57 ⟨dX8_step_20, rfl⟩ ?_
      refine Ev.cast ?_ rfl rfl (hqI ex)
      clear ex
      refine Ev.goto jX8_step_23 ?_
      exact ih _ _ h k1

def F_X8_step_101 (z : Nat) (v0 : Nat) : Nat → Mm → Option (Mm)
  | 0, _ => none
  | k + 1, x => if (x.1 8 v0 5) = (1 : Int) then ((F_X8_peek z (v0) ((x.1 8 v0 3)) x).bind fun r16 => (F_X8_isLetter z (r16) x).bind fun r18 => if r18 = 0 then (some (x)) else (ckR (((x.1 8 v0 3) + (1 : Int))) <| (some (wI x 8 v0 3 (((x.1 8 v0 3) + (1 : Int))))).bind fun x20 => F_X8_step_101 z v0 k  x20)) else (some (x))
set_option maxHeartbeats 4000000 in
set_option maxRecDepth 20000 in
theorem e_X8_step_101 (Θ : GC) (D : Nat → Nat → Prop) (z : Nat) (v0 : Nat) (Q : Ro → Hp → Prop) (mc ms : Nat) : ∀ (k : Nat) (x : Mm) (y), F_X8_step_101 z v0 k x = some y → (Ev Θ mX8_step 1 23 mc ms 136 [(0, vr 8 (v0 + 1))] [] (hq D y) Q) → Ev Θ mX8_step 1 23 mc ms 101 [(0, vr 8 (v0 + 1))] [] (hq D x) Q := by
  intro k
  induction k with
  | zero => intro x y h; exact absurd h (by unfold F_X8_step_101; exact nofun)
  | succ k ih =>
    intro x y h k1
    unfold F_X8_step_101 at h
    refine Ev.aload_n (q := 0) ⟨dX8_step_101, rfl⟩ rfl rfl ?_
    refine Ev.getI fX8_74 (Or.inl rfl) ⟨dX8_step_102, rfl⟩ ?_
    refine Ev.iconst ⟨dX8_step_105, rfl⟩ (inRd rfl) ?_
    refine Ev.icmp_ne jX8_step_106 (fun hc => ?_) (fun hc => ?_)
    · replace h := (if_neg hc).symm.trans h; clear hc
      obtain rfl := Option.some.inj h
      exact k1
    · replace h := (if_pos hc).symm.trans h; clear hc
      refine Ev.aload_n (q := 0) ⟨dX8_step_109, rfl⟩ rfl rfl ?_
      refine Ev.aload_n (q := 0) ⟨dX8_step_110, rfl⟩ rfl rfl ?_
      refine Ev.getI fX8_57 (Or.inl rfl) ⟨dX8_step_111, rfl⟩ ?_
      obtain ⟨r16, hv15, h⟩ := bnd_s h
      refine Ev.callV1 (mc1 := mc) (ms1 := ms) (v := vi r16) (h1 := hq D x) vX8_60 (c_X8_peek Θ D z _ _ _ _ hv15) rfl rfl (by decide) rfl ⟨by decide, by decide, Nat.le_of_eq (Nat.zero_add _), Nat.le_of_eq (Nat.zero_add _), Nat.le_of_ble_eq_true rfl⟩ ⟨dX8_step_114, rfl⟩ ?_
      clear hv15
      obtain ⟨r18, hv17, h⟩ := bnd_s h
      refine Ev.callS1 (mc1 := mc) (ms1 := ms) (v := vi r18) (h1 := hq D x) sX8_67 (c_X8_isLetter Θ D z _ _ _ hv17) rfl rfl ⟨by decide, by decide, Nat.le_of_eq (Nat.zero_add _), Nat.le_of_eq (Nat.zero_add _), Nat.le_of_ble_eq_true rfl⟩ ⟨dX8_step_117, rfl⟩ ?_
      clear hv17
      refine Ev.if_eq jX8_step_120 (fun hc => ?_) (fun hc => ?_)
      · replace h := (if_pos hc).symm.trans h; clear hc
        obtain rfl := Option.some.inj h
        exact k1
      · replace h := (if_neg hc).symm.trans h; clear hc
        refine Ev.aload_n (q := 0) ⟨dX8_step_123, rfl⟩ rfl rfl ?_
        refine Ev.dup ⟨dX8_step_124, rfl⟩ rfl ?_
        refine Ev.getI fX8_57 (Or.inl rfl) ⟨dX8_step_125, rfl⟩ ?_
        refine Ev.iconst ⟨dX8_step_128, rfl⟩ (inRd rfl) ?_
        obtain ⟨c19, h⟩ := ckR_s h
        refine Ev.iadd ⟨dX8_step_129, rfl⟩ c19 ?_
        obtain ⟨x20, ex, h⟩ := bnd_s h
        refine Ev.putI fX8_57 ⟨dX8_step_130, rfl⟩ ?_
        refine Ev.cast ?_ rfl rfl (hqI ex)
        clear ex
        refine Ev.goto jX8_step_133 ?_
        exact ih _ _ h k1

def F_X8_step_136 (z : Nat) (v0 : Nat) : Nat → Mm → Option (Mm)
  | 0, _ => none
  | k + 1, x => if (x.1 8 v0 5) = (2 : Int) then ((F_X8_peek z (v0) ((x.1 8 v0 3)) x).bind fun r23 => (F_X8_isDigit z (r23) x).bind fun r25 => if r25 = 0 then (some (x)) else (ckR (((10 : Int) * (x.1 8 v0 6))) <| (F_X8_peek z (v0) ((x.1 8 v0 3)) x).bind fun r28 => ckR ((((10 : Int) * (x.1 8 v0 6)) + r28)) <| ckR (((((10 : Int) * (x.1 8 v0 6)) + r28) - (48 : Int))) <| (some (wI x 8 v0 6 ((min (100000000 : Int) ((((10 : Int) * (x.1 8 v0 6)) + r28) - (48 : Int)))))).bind fun x31 => ckR (((x31.1 8 v0 3) + (1 : Int))) <| (some (wI x31 8 v0 3 (((x31.1 8 v0 3) + (1 : Int))))).bind fun x33 => F_X8_step_136 z v0 k  x33)) else (some (x))
set_option maxHeartbeats 4000000 in
set_option maxRecDepth 20000 in
theorem e_X8_step_136 (Θ : GC) (D : Nat → Nat → Prop) (z : Nat) (v0 : Nat) (Q : Ro → Hp → Prop) (mc ms : Nat) : ∀ (k : Nat) (x : Mm) (y), F_X8_step_136 z v0 k x = some y → (Ev Θ mX8_step 1 23 mc ms 199 [(0, vr 8 (v0 + 1))] [] (hq D y) Q) → Ev Θ mX8_step 1 23 mc ms 136 [(0, vr 8 (v0 + 1))] [] (hq D x) Q := by
  intro k
  induction k with
  | zero => intro x y h; exact absurd h (by unfold F_X8_step_136; exact nofun)
  | succ k ih =>
    intro x y h k1
    unfold F_X8_step_136 at h
    refine Ev.aload_n (q := 0) ⟨dX8_step_136, rfl⟩ rfl rfl ?_
    refine Ev.getI fX8_74 (Or.inl rfl) ⟨dX8_step_137, rfl⟩ ?_
    refine Ev.iconst ⟨dX8_step_140, rfl⟩ (inRd rfl) ?_
    refine Ev.icmp_ne jX8_step_141 (fun hc => ?_) (fun hc => ?_)
    · replace h := (if_neg hc).symm.trans h; clear hc
      obtain rfl := Option.some.inj h
      exact k1
    · replace h := (if_pos hc).symm.trans h; clear hc
      refine Ev.aload_n (q := 0) ⟨dX8_step_144, rfl⟩ rfl rfl ?_
      refine Ev.aload_n (q := 0) ⟨dX8_step_145, rfl⟩ rfl rfl ?_
      refine Ev.getI fX8_57 (Or.inl rfl) ⟨dX8_step_146, rfl⟩ ?_
      obtain ⟨r23, hv22, h⟩ := bnd_s h
      refine Ev.callV1 (mc1 := mc) (ms1 := ms) (v := vi r23) (h1 := hq D x) vX8_60 (c_X8_peek Θ D z _ _ _ _ hv22) rfl rfl (by decide) rfl ⟨by decide, by decide, Nat.le_of_eq (Nat.zero_add _), Nat.le_of_eq (Nat.zero_add _), Nat.le_of_ble_eq_true rfl⟩ ⟨dX8_step_149, rfl⟩ ?_
      clear hv22
      obtain ⟨r25, hv24, h⟩ := bnd_s h
      refine Ev.callS1 (mc1 := mc) (ms1 := ms) (v := vi r25) (h1 := hq D x) sX8_71 (c_X8_isDigit Θ D z _ _ _ hv24) rfl rfl ⟨by decide, by decide, Nat.le_of_eq (Nat.zero_add _), Nat.le_of_eq (Nat.zero_add _), Nat.le_of_ble_eq_true rfl⟩ ⟨dX8_step_152, rfl⟩ ?_
      clear hv24
      refine Ev.if_eq jX8_step_155 (fun hc => ?_) (fun hc => ?_)
      · replace h := (if_pos hc).symm.trans h; clear hc
        obtain rfl := Option.some.inj h
        exact k1
      · replace h := (if_neg hc).symm.trans h; clear hc
        refine Ev.aload_n (q := 0) ⟨dX8_step_158, rfl⟩ rfl rfl ?_
        refine Ev.ldc (n := 100000000) ⟨dX8_step_159, rfl⟩ (inRd rfl) wX8_80 ?_
        refine Ev.bipush ⟨dX8_step_161, rfl⟩ (inRd rfl) (by decide) ?_
        refine Ev.aload_n (q := 0) ⟨dX8_step_163, rfl⟩ rfl rfl ?_
        refine Ev.getI fX8_77 (Or.inl rfl) ⟨dX8_step_164, rfl⟩ ?_
        obtain ⟨c26, h⟩ := ckR_s h
        refine Ev.imul ⟨dX8_step_167, rfl⟩ c26 ?_
        refine Ev.aload_n (q := 0) ⟨dX8_step_168, rfl⟩ rfl rfl ?_
        refine Ev.aload_n (q := 0) ⟨dX8_step_169, rfl⟩ rfl rfl ?_
        refine Ev.getI fX8_57 (Or.inl rfl) ⟨dX8_step_170, rfl⟩ ?_
        obtain ⟨r28, hv27, h⟩ := bnd_s h
        refine Ev.callV1 (mc1 := mc) (ms1 := ms) (v := vi r28) (h1 := hq D x) vX8_60 (c_X8_peek Θ D z _ _ _ _ hv27) rfl rfl (by decide) rfl ⟨by decide, by decide, Nat.le_of_eq (Nat.zero_add _), Nat.le_of_eq (Nat.zero_add _), Nat.le_of_ble_eq_true rfl⟩ ⟨dX8_step_173, rfl⟩ ?_
        clear hv27
        obtain ⟨c29, h⟩ := ckR_s h
        refine Ev.iadd ⟨dX8_step_176, rfl⟩ c29 ?_
        refine Ev.bipush ⟨dX8_step_177, rfl⟩ (inRd rfl) (by decide) ?_
        obtain ⟨c30, h⟩ := ckR_s h
        refine Ev.isub ⟨dX8_step_179, rfl⟩ c30 ?_
        refine Ev.mmin qX8_81 (by decide) (Nat.le_of_ble_eq_true rfl) ⟨dX8_step_180, rfl⟩ ?_
        obtain ⟨x31, ex, h⟩ := bnd_s h
        refine Ev.putI fX8_77 ⟨dX8_step_183, rfl⟩ ?_
        refine Ev.cast ?_ rfl rfl (hqI ex)
        clear ex
        refine Ev.aload_n (q := 0) ⟨dX8_step_186, rfl⟩ rfl rfl ?_
        refine Ev.dup ⟨dX8_step_187, rfl⟩ rfl ?_
        refine Ev.getI fX8_57 (Or.inl rfl) ⟨dX8_step_188, rfl⟩ ?_
        refine Ev.iconst ⟨dX8_step_191, rfl⟩ (inRd rfl) ?_
        obtain ⟨c32, h⟩ := ckR_s h
        refine Ev.iadd ⟨dX8_step_192, rfl⟩ c32 ?_
        obtain ⟨x33, ex, h⟩ := bnd_s h
        refine Ev.putI fX8_57 ⟨dX8_step_193, rfl⟩ ?_
        refine Ev.cast ?_ rfl rfl (hqI ex)
        clear ex
        refine Ev.goto jX8_step_196 ?_
        exact ih _ _ h k1

def F_X8_step_75 (z : Nat) (v0 : Nat) (u0 : Int) (u1 : Nat) (x : Mm) : Option (Mm) := (some (wI x 8 u1 5 (u0))).bind fun x13 => (some (wI x13 8 v0 6 ((0 : Int)))).bind fun x14 => if (x14.1 8 v0 5) = (3 : Int) then (ckR (((x14.1 8 v0 3) + (1 : Int))) <| (some (wI x14 8 v0 3 (((x14.1 8 v0 3) + (1 : Int))))).bind fun x36 => (F_X8_step_101 z (v0) z  x36).bind fun s37 => (F_X8_step_136 z (v0) z  s37).bind fun s38 => some (s38)) else ((F_X8_step_101 z (v0) z  x14).bind fun s21 => (F_X8_step_136 z (v0) z  s21).bind fun s34 => some (s34))
set_option maxHeartbeats 4000000 in
set_option maxRecDepth 20000 in
theorem e_X8_step_75 (Θ : GC) (D : Nat → Nat → Prop) (z : Nat) (v0 : Nat) (u0 : Int) (u1 : Nat) (x : Mm) (y) (h : F_X8_step_75 z v0 u0 u1 x = some y) : Ev Θ mX8_step 1 23 0 0 75 [(0, vr 8 (v0 + 1))] [vi (u0), vr 8 (u1 + 1)] (hq D x) (RetN (hq D y)) := by
  unfold F_X8_step_75 at h
  obtain ⟨x13, ex, h⟩ := bnd_s h
  refine Ev.putI fX8_74 ⟨dX8_step_75, rfl⟩ ?_
  refine Ev.cast ?_ rfl rfl (hqI ex)
  clear ex
  refine Ev.aload_n (q := 0) ⟨dX8_step_78, rfl⟩ rfl rfl ?_
  refine Ev.iconst ⟨dX8_step_79, rfl⟩ (inRd rfl) ?_
  obtain ⟨x14, ex, h⟩ := bnd_s h
  refine Ev.putI fX8_77 ⟨dX8_step_80, rfl⟩ ?_
  refine Ev.cast ?_ rfl rfl (hqI ex)
  clear ex
  refine Ev.aload_n (q := 0) ⟨dX8_step_83, rfl⟩ rfl rfl ?_
  refine Ev.getI fX8_74 (Or.inl rfl) ⟨dX8_step_84, rfl⟩ ?_
  refine Ev.iconst ⟨dX8_step_87, rfl⟩ (inRd rfl) ?_
  refine Ev.icmp_ne jX8_step_88 (fun hc => ?_) (fun hc => ?_)
  · replace h := (if_neg hc).symm.trans h; clear hc
    obtain ⟨s21, hl, h⟩ := bnd_s h
    refine e_X8_step_101 Θ D z _ _ _ _ _  _ _ hl ?_
    clear hl
    obtain ⟨s34, hl, h⟩ := bnd_s h
    refine e_X8_step_136 Θ D z _ _ _ _ _  _ _ hl ?_
    clear hl
    obtain rfl := Option.some.inj h
    exact Ev.ret ⟨dX8_step_199, rfl⟩ rfl ⟨rfl, rfl⟩
  · replace h := (if_pos hc).symm.trans h; clear hc
    refine Ev.aload_n (q := 0) ⟨dX8_step_91, rfl⟩ rfl rfl ?_
    refine Ev.dup ⟨dX8_step_92, rfl⟩ rfl ?_
    refine Ev.getI fX8_57 (Or.inl rfl) ⟨dX8_step_93, rfl⟩ ?_
    refine Ev.iconst ⟨dX8_step_96, rfl⟩ (inRd rfl) ?_
    obtain ⟨c35, h⟩ := ckR_s h
    refine Ev.iadd ⟨dX8_step_97, rfl⟩ c35 ?_
    obtain ⟨x36, ex, h⟩ := bnd_s h
    refine Ev.putI fX8_57 ⟨dX8_step_98, rfl⟩ ?_
    refine Ev.cast ?_ rfl rfl (hqI ex)
    clear ex
    obtain ⟨s37, hl, h⟩ := bnd_s h
    refine e_X8_step_101 Θ D z _ _ _ _ _  _ _ hl ?_
    clear hl
    obtain ⟨s38, hl, h⟩ := bnd_s h
    refine e_X8_step_136 Θ D z _ _ _ _ _  _ _ hl ?_
    clear hl
    obtain rfl := Option.some.inj h
    exact Ev.ret ⟨dX8_step_199, rfl⟩ rfl ⟨rfl, rfl⟩
def F_X8_step (z : Nat) (v0 : Nat) (x : Mm) : Option (Mm) := (F_X8_step_0 z (v0) z  x).bind fun s5 => (some (wI s5 8 v0 4 ((s5.1 8 v0 3)))).bind fun x6 => (F_X8_peek z (v0) ((x6.1 8 v0 3)) x6).bind fun r8 => if 0 ≤ r8 then ((F_X8_isLetter z (r8) x6).bind fun r10 => if r10 = 0 then ((F_X8_isDigit z (r8) x6).bind fun r12 => if r12 = 0 then (F_X8_step_75 z (v0) ((3 : Int)) (v0) x6) else (F_X8_step_75 z (v0) ((2 : Int)) (v0) x6)) else (F_X8_step_75 z (v0) ((1 : Int)) (v0) x6)) else (F_X8_step_75 z (v0) ((0 : Int)) (v0) x6)
set_option maxHeartbeats 4000000 in
set_option maxRecDepth 20000 in
theorem c_X8_step (Θ : GC) (D : Nat → Nat → Prop) (z : Nat) (v0 : Nat) (x : Mm) (y) (h : F_X8_step z v0 x = some y) : Cal Θ mX8_step 1 23 0 0 [vr 8 (v0 + 1)] (hq D x) (RetN (hq D y)) := by
  refine Cal.of (by decide +kernel) rfl rfl (Nat.le_of_ble_eq_true rfl) ?_
  show Ev Θ mX8_step 1 23 0 0 0 [(0, vr 8 (v0 + 1))] [] (hq D x) (RetN (hq D y))
  unfold F_X8_step at h
  obtain ⟨s5, hl, h⟩ := bnd_s h
  refine e_X8_step_0 Θ D z _ _ _ _ _  _ _ hl ?_
  clear hl
  refine Ev.aload_n (q := 0) ⟨dX8_step_26, rfl⟩ rfl rfl ?_
  refine Ev.aload_n (q := 0) ⟨dX8_step_27, rfl⟩ rfl rfl ?_
  refine Ev.getI fX8_57 (Or.inl rfl) ⟨dX8_step_28, rfl⟩ ?_
  obtain ⟨x6, ex, h⟩ := bnd_s h
  refine Ev.putI fX8_64 ⟨dX8_step_31, rfl⟩ ?_
  refine Ev.cast ?_ rfl rfl (hqI ex)
  clear ex
  refine Ev.aload_n (q := 0) ⟨dX8_step_34, rfl⟩ rfl rfl ?_
  refine Ev.aload_n (q := 0) ⟨dX8_step_35, rfl⟩ rfl rfl ?_
  refine Ev.getI fX8_57 (Or.inl rfl) ⟨dX8_step_36, rfl⟩ ?_
  obtain ⟨r8, hv7, h⟩ := bnd_s h
  refine Ev.callV1 (mc1 := 0) (ms1 := 0) (v := vi r8) (h1 := hq D x6) vX8_60 (c_X8_peek Θ D z _ _ _ _ hv7) rfl rfl (by decide) rfl ⟨by decide, by decide, Nat.le_of_eq (Nat.zero_add _), Nat.le_of_eq (Nat.zero_add _), Nat.le_of_ble_eq_true rfl⟩ ⟨dX8_step_39, rfl⟩ ?_
  clear hv7
  refine Ev.istore_n (i := 1) (ls' := [(0, _), (1, _)]) ⟨dX8_step_42, rfl⟩ rfl (by decide) rfl ?_
  refine Ev.aload_n (q := 0) ⟨dX8_step_43, rfl⟩ rfl rfl ?_
  refine Ev.iload_n (q := 1) ⟨dX8_step_44, rfl⟩ rfl rfl ?_
  refine Ev.if_ge jX8_step_45 (fun hc => ?_) (fun hc => ?_)
  · replace h := (if_pos hc).symm.trans h; clear hc
    refine Ev.iload_n (q := 1) ⟨dX8_step_52, rfl⟩ rfl rfl ?_
    obtain ⟨r10, hv9, h⟩ := bnd_s h
    refine Ev.callS1 (mc1 := 0) (ms1 := 0) (v := vi r10) (h1 := hq D x6) sX8_67 (c_X8_isLetter Θ D z _ _ _ hv9) rfl rfl ⟨by decide, by decide, Nat.le_of_eq (Nat.zero_add _), Nat.le_of_eq (Nat.zero_add _), Nat.le_of_ble_eq_true rfl⟩ ⟨dX8_step_53, rfl⟩ ?_
    clear hv9
    refine Ev.if_eq jX8_step_56 (fun hc => ?_) (fun hc => ?_)
    · replace h := (if_pos hc).symm.trans h; clear hc
      refine Ev.iload_n (q := 1) ⟨dX8_step_63, rfl⟩ rfl rfl ?_
      obtain ⟨r12, hv11, h⟩ := bnd_s h
      refine Ev.callS1 (mc1 := 0) (ms1 := 0) (v := vi r12) (h1 := hq D x6) sX8_71 (c_X8_isDigit Θ D z _ _ _ hv11) rfl rfl ⟨by decide, by decide, Nat.le_of_eq (Nat.zero_add _), Nat.le_of_eq (Nat.zero_add _), Nat.le_of_ble_eq_true rfl⟩ ⟨dX8_step_64, rfl⟩ ?_
      clear hv11
      refine Ev.if_eq jX8_step_67 (fun hc => ?_) (fun hc => ?_)
      · replace h := (if_pos hc).symm.trans h; clear hc
        refine Ev.iconst ⟨dX8_step_74, rfl⟩ (inRd rfl) ?_
        refine Ev.keep [0] rfl ?_
        exact e_X8_step_75 Θ D z _ _ _ _ _ h
      · replace h := (if_neg hc).symm.trans h; clear hc
        refine Ev.iconst ⟨dX8_step_70, rfl⟩ (inRd rfl) ?_
        refine Ev.goto jX8_step_71 ?_
        refine Ev.keep [0] rfl ?_
        exact e_X8_step_75 Θ D z _ _ _ _ _ h
    · replace h := (if_neg hc).symm.trans h; clear hc
      refine Ev.iconst ⟨dX8_step_59, rfl⟩ (inRd rfl) ?_
      refine Ev.goto jX8_step_60 ?_
      refine Ev.keep [0] rfl ?_
      exact e_X8_step_75 Θ D z _ _ _ _ _ h
  · replace h := (if_neg hc).symm.trans h; clear hc
    refine Ev.iconst ⟨dX8_step_48, rfl⟩ (inRd rfl) ?_
    refine Ev.goto jX8_step_49 ?_
    refine Ev.keep [0] rfl ?_
    exact e_X8_step_75 Θ D z _ _ _ _ _ h

def F_X8_fail (z : Nat) (v0 : Nat) (x : Mm) : Option (Mm) := if 0 ≤ (x.1 8 v0 7) then ((some (wI x 8 v0 7 ((x.1 8 v0 7)))).bind fun x1 => some (x1)) else ((some (wI x 8 v0 7 ((x.1 8 v0 4)))).bind fun x2 => some (x2))
set_option maxHeartbeats 4000000 in
set_option maxRecDepth 20000 in
theorem c_X8_fail (Θ : GC) (D : Nat → Nat → Prop) (z : Nat) (v0 : Nat) (x : Mm) (y) (h : F_X8_fail z v0 x = some y) : Cal Θ mX8_fail 0 0 0 0 [vr 8 (v0 + 1)] (hq D x) (RetN (hq D y)) := by
  refine Cal.of (by decide +kernel) rfl rfl (Nat.le_of_ble_eq_true rfl) ?_
  show Ev Θ mX8_fail 0 0 0 0 0 [(0, vr 8 (v0 + 1))] [] (hq D x) (RetN (hq D y))
  unfold F_X8_fail at h
  refine Ev.aload_n (q := 0) ⟨dX8_fail_0, rfl⟩ rfl rfl ?_
  refine Ev.aload_n (q := 0) ⟨dX8_fail_1, rfl⟩ rfl rfl ?_
  refine Ev.getI fX8_87 (Or.inl rfl) ⟨dX8_fail_2, rfl⟩ ?_
  refine Ev.if_ge jX8_fail_5 (fun hc => ?_) (fun hc => ?_)
  · replace h := (if_pos hc).symm.trans h; clear hc
    refine Ev.aload_n (q := 0) ⟨dX8_fail_15, rfl⟩ rfl rfl ?_
    refine Ev.getI fX8_87 (Or.inl rfl) ⟨dX8_fail_16, rfl⟩ ?_
    obtain ⟨x1, ex, h⟩ := bnd_s h
    refine Ev.putI fX8_87 ⟨dX8_fail_19, rfl⟩ ?_
    refine Ev.cast ?_ rfl rfl (hqI ex)
    clear ex
    obtain rfl := Option.some.inj h
    exact Ev.ret ⟨dX8_fail_22, rfl⟩ rfl ⟨rfl, rfl⟩
  · replace h := (if_neg hc).symm.trans h; clear hc
    refine Ev.aload_n (q := 0) ⟨dX8_fail_8, rfl⟩ rfl rfl ?_
    refine Ev.getI fX8_64 (Or.inl rfl) ⟨dX8_fail_9, rfl⟩ ?_
    refine Ev.goto jX8_fail_12 ?_
    obtain ⟨x2, ex, h⟩ := bnd_s h
    refine Ev.putI fX8_87 ⟨dX8_fail_19, rfl⟩ ?_
    refine Ev.cast ?_ rfl rfl (hqI ex)
    clear ex
    obtain rfl := Option.some.inj h
    exact Ev.ret ⟨dX8_fail_22, rfl⟩ rfl ⟨rfl, rfl⟩

def F_X8_isGood (z : Nat) (v0 : Nat) (x : Mm) : Option (Int) := if 0 ≤ (x.1 8 v0 7) then (some ((0 : Int))) else (some ((1 : Int)))
set_option maxHeartbeats 4000000 in
set_option maxRecDepth 20000 in
theorem c_X8_isGood (Θ : GC) (D : Nat → Nat → Prop) (z : Nat) (v0 : Nat) (x : Mm) (y) (h : F_X8_isGood z v0 x = some y) : Cal Θ mX8_isGood 0 0 0 0 [vr 8 (v0 + 1)] (hq D x) (Ret (vi y) (hq D x)) := by
  refine Cal.of (by decide +kernel) rfl rfl (Nat.le_of_ble_eq_true rfl) ?_
  show Ev Θ mX8_isGood 0 0 0 0 0 [(0, vr 8 (v0 + 1))] [] (hq D x) (Ret (vi y) (hq D x))
  unfold F_X8_isGood at h
  refine Ev.aload_n (q := 0) ⟨dX8_isGood_0, rfl⟩ rfl rfl ?_
  refine Ev.getI fX8_87 (Or.inl rfl) ⟨dX8_isGood_1, rfl⟩ ?_
  refine Ev.if_ge jX8_isGood_4 (fun hc => ?_) (fun hc => ?_)
  · replace h := (if_pos hc).symm.trans h; clear hc
    refine Ev.iconst ⟨dX8_isGood_11, rfl⟩ (inRd rfl) ?_
    obtain rfl := Option.some.inj h
    exact Ev.ireturn (ty := .boolean) ⟨dX8_isGood_12, rfl⟩ rfl rfl ⟨rfl, rfl⟩
  · replace h := (if_neg hc).symm.trans h; clear hc
    refine Ev.iconst ⟨dX8_isGood_7, rfl⟩ (inRd rfl) ?_
    refine Ev.goto jX8_isGood_8 ?_
    obtain rfl := Option.some.inj h
    exact Ev.ireturn (ty := .boolean) ⟨dX8_isGood_12, rfl⟩ rfl rfl ⟨rfl, rfl⟩

def F_X8_isWord_39 (z : Nat) (v0 : Nat) (v1 : Nat) (x : Mm) : Nat → Int → Int → Option (Int)
  | 0, _, _ => none
  | k + 1, v2, v3 => if v2 = 0 then (some (v2)) else (ckK v1 <| if ((wby v1).length : Int) ≤ v3 then (some (v2)) else (ckR (((x.1 8 v0 4) + v3)) <| ckI ((x.1 8 v0 4) + v3) 600 <| ckK v1 <| ckI v3 (wby v1).length <| if (x.1 26 0 (((x.1 8 v0 4) + v3)).toNat) = ((wby v1).getD (v3).toNat 0) then (ckR ((v3 + 1)) <| F_X8_isWord_39 z v0 v1 x k ((1 : Int)) ((v3 + 1))) else (ckR ((v3 + 1)) <| F_X8_isWord_39 z v0 v1 x k ((0 : Int)) ((v3 + 1)))))
set_option maxHeartbeats 4000000 in
set_option maxRecDepth 20000 in
theorem e_X8_isWord_39 (Θ : GC) (D : Nat → Nat → Prop) (z : Nat) (v0 : Nat) (v1 : Nat) (x : Mm) (Q : Ro → Hp → Prop) (mc ms : Nat) : ∀ (k : Nat) (v2 : Int) (v3 : Int) (y), F_X8_isWord_39 z v0 v1 x k v2 v3 = some y → (Ev Θ mX8_isWord 4 85 mc ms 82 [(0, vr 8 (v0 + 1)), (1, vt (v1)), (2, vi (y))] [] (hq D x) Q) → Ev Θ mX8_isWord 4 85 mc ms 39 [(0, vr 8 (v0 + 1)), (1, vt (v1)), (2, vi (v2)), (3, vi (v3))] [] (hq D x) Q := by
  intro k
  induction k with
  | zero => intro v2 v3 y h; exact absurd h (by unfold F_X8_isWord_39; exact nofun)
  | succ k ih =>
    intro v2 v3 y h k1
    unfold F_X8_isWord_39 at h
    refine Ev.iload_n (q := 2) ⟨dX8_isWord_39, rfl⟩ rfl rfl ?_
    refine Ev.if_eq jX8_isWord_40 (fun hc => ?_) (fun hc => ?_)
    · replace h := (if_pos hc).symm.trans h; clear hc
      refine Ev.keep [0, 1, 2] rfl ?_
      obtain rfl := Option.some.inj h
      exact k1
    · replace h := (if_neg hc).symm.trans h; clear hc
      refine Ev.iload_n (q := 3) ⟨dX8_isWord_43, rfl⟩ rfl rfl ?_
      refine Ev.aloadt_n (q := 1) ⟨dX8_isWord_44, rfl⟩ rfl rfl ?_
      obtain ⟨c3, h⟩ := ckK_s h
      refine Ev.callT1 (mc1 := mc) (ms1 := ms) (v := vi ((wby v1).length : Int)) (h1 := hq D x) vX8_94 (c_J0_length_8abf5 Θ _ _ c3) rfl c3 rfl ⟨by decide, by decide, Nat.le_of_eq (Nat.zero_add _), Nat.le_of_eq (Nat.zero_add _), Nat.le_of_ble_eq_true rfl⟩ ⟨dX8_isWord_45, rfl⟩ ?_
      refine Ev.icmp_ge jX8_isWord_48 (fun hc => ?_) (fun hc => ?_)
      · replace h := (if_pos hc).symm.trans h; clear hc
        refine Ev.keep [0, 1, 2] rfl ?_
        obtain rfl := Option.some.inj h
        exact k1
      · replace h := (if_neg hc).symm.trans h; clear hc
        refine Ev.aload_n (q := 0) ⟨dX8_isWord_51, rfl⟩ rfl rfl ?_
        refine Ev.getRk (C2 := 26) (r := 0) fX8_9 rfl (by decide) (by decide) ⟨dX8_isWord_52, rfl⟩ ?_
        refine Ev.aload_n (q := 0) ⟨dX8_isWord_55, rfl⟩ rfl rfl ?_
        refine Ev.getI fX8_64 (Or.inl rfl) ⟨dX8_isWord_56, rfl⟩ ?_
        refine Ev.iload_n (q := 3) ⟨dX8_isWord_59, rfl⟩ rfl rfl ?_
        obtain ⟨c4, h⟩ := ckR_s h
        refine Ev.iadd ⟨dX8_isWord_60, rfl⟩ c4 ?_
        obtain ⟨c5, h⟩ := ckI_s h
        refine Ev.iaload (by decide) c5.1 c5.2 ⟨dX8_isWord_61, rfl⟩ ?_
        refine Ev.aloadt_n (q := 1) ⟨dX8_isWord_62, rfl⟩ rfl rfl ?_
        refine Ev.iload_n (q := 3) ⟨dX8_isWord_63, rfl⟩ rfl rfl ?_
        obtain ⟨c6, h⟩ := ckK_s h
        obtain ⟨c7, h⟩ := ckI_s h
        refine Ev.callT1 (mc1 := mc) (ms1 := ms) (v := vi ((wby v1).getD (v3).toNat 0)) (h1 := hq D x) vX8_99 (c_J0_charAt_5068e Θ _ _ c6 _ c7.1 c7.2) rfl c6 rfl ⟨by decide, by decide, Nat.le_of_eq (Nat.zero_add _), Nat.le_of_eq (Nat.zero_add _), Nat.le_of_ble_eq_true rfl⟩ ⟨dX8_isWord_64, rfl⟩ ?_
        refine Ev.icmp_ne jX8_isWord_67 (fun hc => ?_) (fun hc => ?_)
        · replace h := (if_neg hc).symm.trans h; clear hc
          refine Ev.iconst ⟨dX8_isWord_74, rfl⟩ (inRd rfl) ?_
          refine Ev.istore_n (i := 2) (ls' := [(0, _), (1, _), (2, _), (3, _)]) ⟨dX8_isWord_75, rfl⟩ rfl (by decide) rfl ?_
          obtain ⟨c8, h⟩ := ckR_s h
          refine Ev.iinc (q := 3) (ls' := [(0, _), (1, _), (2, _), (3, _)]) ⟨dX8_isWord_76, rfl⟩ rfl (by decide) c8 rfl ?_
          refine Ev.goto jX8_isWord_79 ?_
          exact ih _ _ _ h k1
        · replace h := (if_pos hc).symm.trans h; clear hc
          refine Ev.iconst ⟨dX8_isWord_70, rfl⟩ (inRd rfl) ?_
          refine Ev.goto jX8_isWord_71 ?_
          refine Ev.istore_n (i := 2) (ls' := [(0, _), (1, _), (2, _), (3, _)]) ⟨dX8_isWord_75, rfl⟩ rfl (by decide) rfl ?_
          obtain ⟨c9, h⟩ := ckR_s h
          refine Ev.iinc (q := 3) (ls' := [(0, _), (1, _), (2, _), (3, _)]) ⟨dX8_isWord_76, rfl⟩ rfl (by decide) c9 rfl ?_
          refine Ev.goto jX8_isWord_79 ?_
          exact ih _ _ _ h k1

def F_X8_isWord_36 (z : Nat) (v0 : Nat) (v1 : Nat) (u0 : Int) (x : Mm) : Option (Int) := (F_X8_isWord_39 z (v0) (v1) x z (u0) ((0 : Int))).bind fun s10 => ckZ (s10) <| some (s10)
set_option maxHeartbeats 4000000 in
set_option maxRecDepth 20000 in
theorem e_X8_isWord_36 (Θ : GC) (D : Nat → Nat → Prop) (z : Nat) (v0 : Nat) (v1 : Nat) (u0 : Int) (x : Mm) (y) (h : F_X8_isWord_36 z v0 v1 u0 x = some y) : Ev Θ mX8_isWord 4 85 0 0 36 [(0, vr 8 (v0 + 1)), (1, vt (v1))] [vi (u0)] (hq D x) (Ret (vi y) (hq D x)) := by
  unfold F_X8_isWord_36 at h
  refine Ev.istore_n (i := 2) (ls' := [(0, _), (1, _), (2, _)]) ⟨dX8_isWord_36, rfl⟩ rfl (by decide) rfl ?_
  refine Ev.iconst ⟨dX8_isWord_37, rfl⟩ (inRd rfl) ?_
  refine Ev.istore_n (i := 3) (ls' := [(0, _), (1, _), (2, _), (3, _)]) ⟨dX8_isWord_38, rfl⟩ rfl (by decide) rfl ?_
  obtain ⟨s10, hl, h⟩ := bnd_s h
  refine e_X8_isWord_39 Θ D z _ _ _ _ _ _ _ _ _ _ hl ?_
  clear hl
  refine Ev.iload_n (q := 2) ⟨dX8_isWord_82, rfl⟩ rfl rfl ?_
  obtain ⟨c11, h⟩ := ckZ_s h
  obtain rfl := Option.some.inj h
  exact Ev.ireturn (ty := .boolean) ⟨dX8_isWord_83, rfl⟩ rfl (nz c11) ⟨rfl, rfl⟩

def F_X8_isWord_35 (z : Nat) (v0 : Nat) (v1 : Nat) (x : Mm) : Option (Int) := F_X8_isWord_36 z (v0) (v1) ((0 : Int)) x
set_option maxHeartbeats 4000000 in
set_option maxRecDepth 20000 in
theorem e_X8_isWord_35 (Θ : GC) (D : Nat → Nat → Prop) (z : Nat) (v0 : Nat) (v1 : Nat) (x : Mm) (y) (h : F_X8_isWord_35 z v0 v1 x = some y) : Ev Θ mX8_isWord 4 85 0 0 35 [(0, vr 8 (v0 + 1)), (1, vt (v1))] [] (hq D x) (Ret (vi y) (hq D x)) := by
  unfold F_X8_isWord_35 at h
  refine Ev.iconst ⟨dX8_isWord_35, rfl⟩ (inRd rfl) ?_
  exact e_X8_isWord_36 Θ D z _ _ _ _ _ h
def F_X8_isWord (z : Nat) (v0 : Nat) (v1 : Nat) (x : Mm) : Option (Int) := (F_X8_isGood z (v0) x).bind fun r2 => if r2 = 0 then (F_X8_isWord_35 z (v0) (v1) x) else (if (x.1 8 v0 5) = (1 : Int) then (ckR (((x.1 8 v0 3) - (x.1 8 v0 4))) <| ckK v1 <| if ((x.1 8 v0 3) - (x.1 8 v0 4)) = ((wby v1).length : Int) then (F_X8_isWord_36 z (v0) (v1) ((1 : Int)) x) else (F_X8_isWord_35 z (v0) (v1) x)) else (F_X8_isWord_35 z (v0) (v1) x))
set_option maxHeartbeats 4000000 in
set_option maxRecDepth 20000 in
theorem c_X8_isWord (Θ : GC) (D : Nat → Nat → Prop) (z : Nat) (v0 : Nat) (v1 : Nat) (x : Mm) (y) (h : F_X8_isWord z v0 v1 x = some y) : Cal Θ mX8_isWord 4 85 0 0 [vr 8 (v0 + 1), vt (v1)] (hq D x) (Ret (vi y) (hq D x)) := by
  refine Cal.of (by decide +kernel) rfl rfl (Nat.le_of_ble_eq_true rfl) ?_
  show Ev Θ mX8_isWord 4 85 0 0 0 [(0, vr 8 (v0 + 1)), (1, vt (v1))] [] (hq D x) (Ret (vi y) (hq D x))
  unfold F_X8_isWord at h
  refine Ev.aload_n (q := 0) ⟨dX8_isWord_0, rfl⟩ rfl rfl ?_
  obtain ⟨r2, hv1, h⟩ := bnd_s h
  refine Ev.callV1 (mc1 := 0) (ms1 := 0) (v := vi r2) (h1 := hq D x) vX8_90 (c_X8_isGood Θ D z _ _ _ hv1) rfl rfl (by decide) rfl ⟨by decide, by decide, Nat.le_of_eq (Nat.zero_add _), Nat.le_of_eq (Nat.zero_add _), Nat.le_of_ble_eq_true rfl⟩ ⟨dX8_isWord_1, rfl⟩ ?_
  clear hv1
  refine Ev.if_eq jX8_isWord_4 (fun hc => ?_) (fun hc => ?_)
  · replace h := (if_pos hc).symm.trans h; clear hc
    exact e_X8_isWord_35 Θ D z _ _ _ _ h
  · replace h := (if_neg hc).symm.trans h; clear hc
    refine Ev.aload_n (q := 0) ⟨dX8_isWord_7, rfl⟩ rfl rfl ?_
    refine Ev.getI fX8_74 (Or.inl rfl) ⟨dX8_isWord_8, rfl⟩ ?_
    refine Ev.iconst ⟨dX8_isWord_11, rfl⟩ (inRd rfl) ?_
    refine Ev.icmp_ne jX8_isWord_12 (fun hc => ?_) (fun hc => ?_)
    · replace h := (if_neg hc).symm.trans h; clear hc
      exact e_X8_isWord_35 Θ D z _ _ _ _ h
    · replace h := (if_pos hc).symm.trans h; clear hc
      refine Ev.aload_n (q := 0) ⟨dX8_isWord_15, rfl⟩ rfl rfl ?_
      refine Ev.getI fX8_57 (Or.inl rfl) ⟨dX8_isWord_16, rfl⟩ ?_
      refine Ev.aload_n (q := 0) ⟨dX8_isWord_19, rfl⟩ rfl rfl ?_
      refine Ev.getI fX8_64 (Or.inl rfl) ⟨dX8_isWord_20, rfl⟩ ?_
      obtain ⟨c12, h⟩ := ckR_s h
      refine Ev.isub ⟨dX8_isWord_23, rfl⟩ c12 ?_
      refine Ev.aloadt_n (q := 1) ⟨dX8_isWord_24, rfl⟩ rfl rfl ?_
      obtain ⟨c13, h⟩ := ckK_s h
      refine Ev.callT1 (mc1 := 0) (ms1 := 0) (v := vi ((wby v1).length : Int)) (h1 := hq D x) vX8_94 (c_J0_length_8abf5 Θ _ _ c13) rfl c13 rfl ⟨by decide, by decide, Nat.le_of_eq (Nat.zero_add _), Nat.le_of_eq (Nat.zero_add _), Nat.le_of_ble_eq_true rfl⟩ ⟨dX8_isWord_25, rfl⟩ ?_
      refine Ev.icmp_ne jX8_isWord_28 (fun hc => ?_) (fun hc => ?_)
      · replace h := (if_neg hc).symm.trans h; clear hc
        exact e_X8_isWord_35 Θ D z _ _ _ _ h
      · replace h := (if_pos hc).symm.trans h; clear hc
        refine Ev.iconst ⟨dX8_isWord_31, rfl⟩ (inRd rfl) ?_
        refine Ev.goto jX8_isWord_32 ?_
        exact e_X8_isWord_36 Θ D z _ _ _ _ _ h

def F_X8_isSign (z : Nat) (v0 : Nat) (v1 : Int) (x : Mm) : Option (Int) := (F_X8_isGood z (v0) x).bind fun r2 => if r2 = 0 then (some ((0 : Int))) else (if (x.1 8 v0 5) = (3 : Int) then (ckI (x.1 8 v0 4) 600 <| if (x.1 26 0 ((x.1 8 v0 4)).toNat) = v1 then (some ((1 : Int))) else (some ((0 : Int)))) else (some ((0 : Int))))
set_option maxHeartbeats 4000000 in
set_option maxRecDepth 20000 in
theorem c_X8_isSign (Θ : GC) (D : Nat → Nat → Prop) (z : Nat) (v0 : Nat) (v1 : Int) (x : Mm) (y) (h : F_X8_isSign z v0 v1 x = some y) : Cal Θ mX8_isSign 1 20 0 0 [vr 8 (v0 + 1), vi (v1)] (hq D x) (Ret (vi y) (hq D x)) := by
  refine Cal.of (by decide +kernel) rfl rfl (Nat.le_of_ble_eq_true rfl) ?_
  show Ev Θ mX8_isSign 1 20 0 0 0 [(0, vr 8 (v0 + 1)), (1, vi (v1))] [] (hq D x) (Ret (vi y) (hq D x))
  unfold F_X8_isSign at h
  refine Ev.aload_n (q := 0) ⟨dX8_isSign_0, rfl⟩ rfl rfl ?_
  obtain ⟨r2, hv1, h⟩ := bnd_s h
  refine Ev.callV1 (mc1 := 0) (ms1 := 0) (v := vi r2) (h1 := hq D x) vX8_90 (c_X8_isGood Θ D z _ _ _ hv1) rfl rfl (by decide) rfl ⟨by decide, by decide, Nat.le_of_eq (Nat.zero_add _), Nat.le_of_eq (Nat.zero_add _), Nat.le_of_ble_eq_true rfl⟩ ⟨dX8_isSign_1, rfl⟩ ?_
  clear hv1
  refine Ev.if_eq jX8_isSign_4 (fun hc => ?_) (fun hc => ?_)
  · replace h := (if_pos hc).symm.trans h; clear hc
    refine Ev.iconst ⟨dX8_isSign_32, rfl⟩ (inRd rfl) ?_
    obtain rfl := Option.some.inj h
    exact Ev.ireturn (ty := .boolean) ⟨dX8_isSign_33, rfl⟩ rfl rfl ⟨rfl, rfl⟩
  · replace h := (if_neg hc).symm.trans h; clear hc
    refine Ev.aload_n (q := 0) ⟨dX8_isSign_7, rfl⟩ rfl rfl ?_
    refine Ev.getI fX8_74 (Or.inl rfl) ⟨dX8_isSign_8, rfl⟩ ?_
    refine Ev.iconst ⟨dX8_isSign_11, rfl⟩ (inRd rfl) ?_
    refine Ev.icmp_ne jX8_isSign_12 (fun hc => ?_) (fun hc => ?_)
    · replace h := (if_neg hc).symm.trans h; clear hc
      refine Ev.iconst ⟨dX8_isSign_32, rfl⟩ (inRd rfl) ?_
      obtain rfl := Option.some.inj h
      exact Ev.ireturn (ty := .boolean) ⟨dX8_isSign_33, rfl⟩ rfl rfl ⟨rfl, rfl⟩
    · replace h := (if_pos hc).symm.trans h; clear hc
      refine Ev.aload_n (q := 0) ⟨dX8_isSign_15, rfl⟩ rfl rfl ?_
      refine Ev.getRk (C2 := 26) (r := 0) fX8_9 rfl (by decide) (by decide) ⟨dX8_isSign_16, rfl⟩ ?_
      refine Ev.aload_n (q := 0) ⟨dX8_isSign_19, rfl⟩ rfl rfl ?_
      refine Ev.getI fX8_64 (Or.inl rfl) ⟨dX8_isSign_20, rfl⟩ ?_
      obtain ⟨c3, h⟩ := ckI_s h
      refine Ev.iaload (by decide) c3.1 c3.2 ⟨dX8_isSign_23, rfl⟩ ?_
      refine Ev.iload_n (q := 1) ⟨dX8_isSign_24, rfl⟩ rfl rfl ?_
      refine Ev.icmp_ne jX8_isSign_25 (fun hc => ?_) (fun hc => ?_)
      · replace h := (if_neg hc).symm.trans h; clear hc
        refine Ev.iconst ⟨dX8_isSign_32, rfl⟩ (inRd rfl) ?_
        obtain rfl := Option.some.inj h
        exact Ev.ireturn (ty := .boolean) ⟨dX8_isSign_33, rfl⟩ rfl rfl ⟨rfl, rfl⟩
      · replace h := (if_pos hc).symm.trans h; clear hc
        refine Ev.iconst ⟨dX8_isSign_28, rfl⟩ (inRd rfl) ?_
        refine Ev.goto jX8_isSign_29 ?_
        obtain rfl := Option.some.inj h
        exact Ev.ireturn (ty := .boolean) ⟨dX8_isSign_33, rfl⟩ rfl rfl ⟨rfl, rfl⟩

def F_X8_takeNumber (z : Nat) (v0 : Nat) (v1 : Int) (v2 : Int) (x : Mm) : Option (Int × Mm) := (F_X8_isGood z (v0) x).bind fun r2 => if r2 = 0 then ((F_X8_fail z (v0) x).bind fun r4 => some ((v1, r4))) else (if (x.1 8 v0 5) = (2 : Int) then (ckR (((x.1 8 v0 3) - (x.1 8 v0 4))) <| if (7 : Int) < ((x.1 8 v0 3) - (x.1 8 v0 4)) then ((F_X8_fail z (v0) x).bind fun r9 => some ((v1, r9))) else ((F_X8_in z ((x.1 8 v0 6)) (v1) (v2) x).bind fun r11 => if r11 = 0 then ((F_X8_fail z (v0) x).bind fun r15 => some ((v1, r15))) else ((F_X8_step z (v0) x).bind fun r13 => some (((x.1 8 v0 6), r13))))) else ((F_X8_fail z (v0) x).bind fun r6 => some ((v1, r6))))
set_option maxHeartbeats 4000000 in
set_option maxRecDepth 20000 in
theorem c_X8_takeNumber (Θ : GC) (D : Nat → Nat → Prop) (z : Nat) (v0 : Nat) (v1 : Int) (v2 : Int) (x : Mm) (y) (h : F_X8_takeNumber z v0 v1 v2 x = some y) : Cal Θ mX8_takeNumber 2 44 0 0 [vr 8 (v0 + 1), vi (v1), vi (v2)] (hq D x) (Ret (vi y.1) (hq D y.2)) := by
  refine Cal.of (by decide +kernel) rfl rfl (Nat.le_of_ble_eq_true rfl) ?_
  show Ev Θ mX8_takeNumber 2 44 0 0 0 [(0, vr 8 (v0 + 1)), (1, vi (v1)), (2, vi (v2))] [] (hq D x) (Ret (vi y.1) (hq D y.2))
  unfold F_X8_takeNumber at h
  refine Ev.aload_n (q := 0) ⟨dX8_takeNumber_0, rfl⟩ rfl rfl ?_
  obtain ⟨r2, hv1, h⟩ := bnd_s h
  refine Ev.callV1 (mc1 := 0) (ms1 := 0) (v := vi r2) (h1 := hq D x) vX8_90 (c_X8_isGood Θ D z _ _ _ hv1) rfl rfl (by decide) rfl ⟨by decide, by decide, Nat.le_of_eq (Nat.zero_add _), Nat.le_of_eq (Nat.zero_add _), Nat.le_of_ble_eq_true rfl⟩ ⟨dX8_takeNumber_1, rfl⟩ ?_
  clear hv1
  refine Ev.if_eq jX8_takeNumber_4 (fun hc => ?_) (fun hc => ?_)
  · replace h := (if_pos hc).symm.trans h; clear hc
    refine Ev.aload_n (q := 0) ⟨dX8_takeNumber_41, rfl⟩ rfl rfl ?_
    obtain ⟨r4, hv3, h⟩ := bnd_s h
    refine Ev.callVN (mc1 := 0) (ms1 := 0) (h1 := hq D r4) vX8_103 (c_X8_fail Θ D z _ _ _ hv3) rfl rfl (by decide) rfl ⟨by decide, by decide, Nat.le_of_eq (Nat.zero_add _), Nat.le_of_eq (Nat.zero_add _), Nat.le_of_ble_eq_true rfl⟩ ⟨dX8_takeNumber_42, rfl⟩ ?_
    clear hv3
    refine Ev.iload_n (q := 1) ⟨dX8_takeNumber_45, rfl⟩ rfl rfl ?_
    obtain rfl := Option.some.inj h
    exact Ev.ireturn (ty := .int) ⟨dX8_takeNumber_46, rfl⟩ rfl rfl ⟨rfl, rfl⟩
  · replace h := (if_neg hc).symm.trans h; clear hc
    refine Ev.aload_n (q := 0) ⟨dX8_takeNumber_7, rfl⟩ rfl rfl ?_
    refine Ev.getI fX8_74 (Or.inl rfl) ⟨dX8_takeNumber_8, rfl⟩ ?_
    refine Ev.iconst ⟨dX8_takeNumber_11, rfl⟩ (inRd rfl) ?_
    refine Ev.icmp_ne jX8_takeNumber_12 (fun hc => ?_) (fun hc => ?_)
    · replace h := (if_neg hc).symm.trans h; clear hc
      refine Ev.aload_n (q := 0) ⟨dX8_takeNumber_41, rfl⟩ rfl rfl ?_
      obtain ⟨r6, hv5, h⟩ := bnd_s h
      refine Ev.callVN (mc1 := 0) (ms1 := 0) (h1 := hq D r6) vX8_103 (c_X8_fail Θ D z _ _ _ hv5) rfl rfl (by decide) rfl ⟨by decide, by decide, Nat.le_of_eq (Nat.zero_add _), Nat.le_of_eq (Nat.zero_add _), Nat.le_of_ble_eq_true rfl⟩ ⟨dX8_takeNumber_42, rfl⟩ ?_
      clear hv5
      refine Ev.iload_n (q := 1) ⟨dX8_takeNumber_45, rfl⟩ rfl rfl ?_
      obtain rfl := Option.some.inj h
      exact Ev.ireturn (ty := .int) ⟨dX8_takeNumber_46, rfl⟩ rfl rfl ⟨rfl, rfl⟩
    · replace h := (if_pos hc).symm.trans h; clear hc
      refine Ev.aload_n (q := 0) ⟨dX8_takeNumber_15, rfl⟩ rfl rfl ?_
      refine Ev.getI fX8_57 (Or.inl rfl) ⟨dX8_takeNumber_16, rfl⟩ ?_
      refine Ev.aload_n (q := 0) ⟨dX8_takeNumber_19, rfl⟩ rfl rfl ?_
      refine Ev.getI fX8_64 (Or.inl rfl) ⟨dX8_takeNumber_20, rfl⟩ ?_
      obtain ⟨c7, h⟩ := ckR_s h
      refine Ev.isub ⟨dX8_takeNumber_23, rfl⟩ c7 ?_
      refine Ev.bipush ⟨dX8_takeNumber_24, rfl⟩ (inRd rfl) (by decide) ?_
      refine Ev.icmp_gt jX8_takeNumber_26 (fun hc => ?_) (fun hc => ?_)
      · replace h := (if_pos hc).symm.trans h; clear hc
        refine Ev.aload_n (q := 0) ⟨dX8_takeNumber_41, rfl⟩ rfl rfl ?_
        obtain ⟨r9, hv8, h⟩ := bnd_s h
        refine Ev.callVN (mc1 := 0) (ms1 := 0) (h1 := hq D r9) vX8_103 (c_X8_fail Θ D z _ _ _ hv8) rfl rfl (by decide) rfl ⟨by decide, by decide, Nat.le_of_eq (Nat.zero_add _), Nat.le_of_eq (Nat.zero_add _), Nat.le_of_ble_eq_true rfl⟩ ⟨dX8_takeNumber_42, rfl⟩ ?_
        clear hv8
        refine Ev.iload_n (q := 1) ⟨dX8_takeNumber_45, rfl⟩ rfl rfl ?_
        obtain rfl := Option.some.inj h
        exact Ev.ireturn (ty := .int) ⟨dX8_takeNumber_46, rfl⟩ rfl rfl ⟨rfl, rfl⟩
      · replace h := (if_neg hc).symm.trans h; clear hc
        refine Ev.aload_n (q := 0) ⟨dX8_takeNumber_29, rfl⟩ rfl rfl ?_
        refine Ev.getI fX8_77 (Or.inl rfl) ⟨dX8_takeNumber_30, rfl⟩ ?_
        refine Ev.iload_n (q := 1) ⟨dX8_takeNumber_33, rfl⟩ rfl rfl ?_
        refine Ev.iload_n (q := 2) ⟨dX8_takeNumber_34, rfl⟩ rfl rfl ?_
        obtain ⟨r11, hv10, h⟩ := bnd_s h
        refine Ev.callS1 (mc1 := 0) (ms1 := 0) (v := vi r11) (h1 := hq D x) sX8_53 (c_X8_in Θ D z _ _ _ _ _ hv10) rfl rfl ⟨by decide, by decide, Nat.le_of_eq (Nat.zero_add _), Nat.le_of_eq (Nat.zero_add _), Nat.le_of_ble_eq_true rfl⟩ ⟨dX8_takeNumber_35, rfl⟩ ?_
        clear hv10
        refine Ev.if_ne jX8_takeNumber_38 (fun hc => ?_) (fun hc => ?_)
        · replace h := (if_neg hc).symm.trans h; clear hc
          refine Ev.aload_n (q := 0) ⟨dX8_takeNumber_47, rfl⟩ rfl rfl ?_
          refine Ev.getI fX8_77 (Or.inl rfl) ⟨dX8_takeNumber_48, rfl⟩ ?_
          refine Ev.istore_n (i := 3) (ls' := [(0, _), (1, _), (2, _), (3, _)]) ⟨dX8_takeNumber_51, rfl⟩ rfl (by decide) rfl ?_
          refine Ev.aload_n (q := 0) ⟨dX8_takeNumber_52, rfl⟩ rfl rfl ?_
          obtain ⟨r13, hv12, h⟩ := bnd_s h
          refine Ev.callVN (mc1 := 0) (ms1 := 0) (h1 := hq D r13) vX8_106 (c_X8_step Θ D z _ _ _ hv12) rfl rfl (by decide) rfl ⟨by decide, by decide, Nat.le_of_eq (Nat.zero_add _), Nat.le_of_eq (Nat.zero_add _), Nat.le_of_ble_eq_true rfl⟩ ⟨dX8_takeNumber_53, rfl⟩ ?_
          clear hv12
          refine Ev.iload_n (q := 3) ⟨dX8_takeNumber_56, rfl⟩ rfl rfl ?_
          obtain rfl := Option.some.inj h
          exact Ev.ireturn (ty := .int) ⟨dX8_takeNumber_57, rfl⟩ rfl rfl ⟨rfl, rfl⟩
        · replace h := (if_pos hc).symm.trans h; clear hc
          refine Ev.aload_n (q := 0) ⟨dX8_takeNumber_41, rfl⟩ rfl rfl ?_
          obtain ⟨r15, hv14, h⟩ := bnd_s h
          refine Ev.callVN (mc1 := 0) (ms1 := 0) (h1 := hq D r15) vX8_103 (c_X8_fail Θ D z _ _ _ hv14) rfl rfl (by decide) rfl ⟨by decide, by decide, Nat.le_of_eq (Nat.zero_add _), Nat.le_of_eq (Nat.zero_add _), Nat.le_of_ble_eq_true rfl⟩ ⟨dX8_takeNumber_42, rfl⟩ ?_
          clear hv14
          refine Ev.iload_n (q := 1) ⟨dX8_takeNumber_45, rfl⟩ rfl rfl ?_
          obtain rfl := Option.some.inj h
          exact Ev.ireturn (ty := .int) ⟨dX8_takeNumber_46, rfl⟩ rfl rfl ⟨rfl, rfl⟩

def F_X8_forgetRead_2 (z : Nat) (v0 : Nat) : Nat → Int → Mm → Option (Mm)
  | 0, _, _ => none
  | k + 1, v1, x => if (5366 : Int) ≤ v1 then (some (x)) else (ckI v1 5366 <| (some (wI x 27 1 (v1).toNat ((0 : Int)))).bind fun x2 => ckR ((v1 + 1)) <| F_X8_forgetRead_2 z v0 k ((v1 + 1)) x2)
set_option maxHeartbeats 4000000 in
set_option maxRecDepth 20000 in
theorem e_X8_forgetRead_2 (Θ : GC) (D : Nat → Nat → Prop) (z : Nat) (v0 : Nat) (Q : Ro → Hp → Prop) (mc ms : Nat) : ∀ (k : Nat) (v1 : Int) (x : Mm) (y), F_X8_forgetRead_2 z v0 k v1 x = some y → (Ev Θ mX8_forgetRead 0 0 mc ms 22 [(0, vr 8 (v0 + 1))] [] (hq D y) Q) → Ev Θ mX8_forgetRead 0 0 mc ms 2 [(0, vr 8 (v0 + 1)), (1, vi (v1))] [] (hq D x) Q := by
  intro k
  induction k with
  | zero => intro v1 x y h; exact absurd h (by unfold F_X8_forgetRead_2; exact nofun)
  | succ k ih =>
    intro v1 x y h k1
    unfold F_X8_forgetRead_2 at h
    refine Ev.iload_n (q := 1) ⟨dX8_forgetRead_2, rfl⟩ rfl rfl ?_
    refine Ev.sipush ⟨dX8_forgetRead_3, rfl⟩ (inRd rfl) (by decide) ?_
    refine Ev.icmp_ge jX8_forgetRead_6 (fun hc => ?_) (fun hc => ?_)
    · replace h := (if_pos hc).symm.trans h; clear hc
      refine Ev.keep [0] rfl ?_
      obtain rfl := Option.some.inj h
      exact k1
    · replace h := (if_neg hc).symm.trans h; clear hc
      refine Ev.aload_n (q := 0) ⟨dX8_forgetRead_9, rfl⟩ rfl rfl ?_
      refine Ev.getRk (C2 := 27) (r := 1) fX8_16 rfl (by decide) (by decide) ⟨dX8_forgetRead_10, rfl⟩ ?_
      refine Ev.iload_n (q := 1) ⟨dX8_forgetRead_13, rfl⟩ rfl rfl ?_
      refine Ev.iconst ⟨dX8_forgetRead_14, rfl⟩ (inRd rfl) ?_
      obtain ⟨c1, h⟩ := ckI_s h
      obtain ⟨x2, ex, h⟩ := bnd_s h
      refine Ev.iastore (by decide) c1.1 c1.2 ⟨dX8_forgetRead_15, rfl⟩ ?_
      refine Ev.cast ?_ rfl rfl (hqI ex)
      clear ex
      obtain ⟨c3, h⟩ := ckR_s h
      refine Ev.iinc (q := 1) (ls' := [(0, _), (1, _)]) ⟨dX8_forgetRead_16, rfl⟩ rfl (by decide) c3 rfl ?_
      refine Ev.goto jX8_forgetRead_19 ?_
      exact ih _ _ _ h k1

def F_X8_forgetRead_56 (z : Nat) (v0 : Nat) : Nat → Int → Mm → Option (Mm)
  | 0, _, _ => none
  | k + 1, v1, x => if (5 : Int) ≤ v1 then (some (x)) else (ckR (((3 : Int) * v1)) <| ckR (((611 : Int) + ((3 : Int) * v1))) <| ckI ((611 : Int) + ((3 : Int) * v1)) 5366 <| (some (wI x 27 1 (((611 : Int) + ((3 : Int) * v1))).toNat ((-1 : Int)))).bind fun x16 => ckR ((v1 + 1)) <| F_X8_forgetRead_56 z v0 k ((v1 + 1)) x16)
set_option maxHeartbeats 4000000 in
set_option maxRecDepth 20000 in
theorem e_X8_forgetRead_56 (Θ : GC) (D : Nat → Nat → Prop) (z : Nat) (v0 : Nat) (Q : Ro → Hp → Prop) (mc ms : Nat) : ∀ (k : Nat) (v1 : Int) (x : Mm) (y), F_X8_forgetRead_56 z v0 k v1 x = some y → (Ev Θ mX8_forgetRead 0 0 mc ms 80 [(0, vr 8 (v0 + 1))] [] (hq D y) Q) → Ev Θ mX8_forgetRead 0 0 mc ms 56 [(0, vr 8 (v0 + 1)), (1, vi (v1))] [] (hq D x) Q := by
  intro k
  induction k with
  | zero => intro v1 x y h; exact absurd h (by unfold F_X8_forgetRead_56; exact nofun)
  | succ k ih =>
    intro v1 x y h k1
    unfold F_X8_forgetRead_56 at h
    refine Ev.iload_n (q := 1) ⟨dX8_forgetRead_56, rfl⟩ rfl rfl ?_
    refine Ev.iconst ⟨dX8_forgetRead_57, rfl⟩ (inRd rfl) ?_
    refine Ev.icmp_ge jX8_forgetRead_58 (fun hc => ?_) (fun hc => ?_)
    · replace h := (if_pos hc).symm.trans h; clear hc
      refine Ev.keep [0] rfl ?_
      obtain rfl := Option.some.inj h
      exact k1
    · replace h := (if_neg hc).symm.trans h; clear hc
      refine Ev.aload_n (q := 0) ⟨dX8_forgetRead_61, rfl⟩ rfl rfl ?_
      refine Ev.getRk (C2 := 27) (r := 1) fX8_16 rfl (by decide) (by decide) ⟨dX8_forgetRead_62, rfl⟩ ?_
      refine Ev.sipush ⟨dX8_forgetRead_65, rfl⟩ (inRd rfl) (by decide) ?_
      refine Ev.iconst ⟨dX8_forgetRead_68, rfl⟩ (inRd rfl) ?_
      refine Ev.iload_n (q := 1) ⟨dX8_forgetRead_69, rfl⟩ rfl rfl ?_
      obtain ⟨c13, h⟩ := ckR_s h
      refine Ev.imul ⟨dX8_forgetRead_70, rfl⟩ c13 ?_
      obtain ⟨c14, h⟩ := ckR_s h
      refine Ev.iadd ⟨dX8_forgetRead_71, rfl⟩ c14 ?_
      refine Ev.iconst ⟨dX8_forgetRead_72, rfl⟩ (inRd rfl) ?_
      obtain ⟨c15, h⟩ := ckI_s h
      obtain ⟨x16, ex, h⟩ := bnd_s h
      refine Ev.iastore (by decide) c15.1 c15.2 ⟨dX8_forgetRead_73, rfl⟩ ?_
      refine Ev.cast ?_ rfl rfl (hqI ex)
      clear ex
      obtain ⟨c17, h⟩ := ckR_s h
      refine Ev.iinc (q := 1) (ls' := [(0, _), (1, _)]) ⟨dX8_forgetRead_74, rfl⟩ rfl (by decide) c17 rfl ?_
      refine Ev.goto jX8_forgetRead_77 ?_
      exact ih _ _ _ h k1
def F_X8_forgetRead (z : Nat) (v0 : Nat) (x : Mm) : Option (Mm) := (F_X8_forgetRead_2 z (v0) z ((0 : Int)) x).bind fun s4 => ckI (3 : Int) 5366 <| (some (wI s4 27 1 ((3 : Int)).toNat ((1 : Int)))).bind fun x6 => ckI (11 : Int) 5366 <| (some (wI x6 27 1 ((11 : Int)).toNat ((-1 : Int)))).bind fun x8 => ckI (71 : Int) 5366 <| (some (wI x8 27 1 ((71 : Int)).toNat ((-1 : Int)))).bind fun x10 => ckI (191 : Int) 5366 <| (some (wI x10 27 1 ((191 : Int)).toNat ((1 : Int)))).bind fun x12 => (F_X8_forgetRead_56 z (v0) z ((0 : Int)) x12).bind fun s18 => some (s18)
set_option maxHeartbeats 4000000 in
set_option maxRecDepth 20000 in
theorem c_X8_forgetRead (Θ : GC) (D : Nat → Nat → Prop) (z : Nat) (v0 : Nat) (x : Mm) (y) (h : F_X8_forgetRead z v0 x = some y) : Cal Θ mX8_forgetRead 0 0 0 0 [vr 8 (v0 + 1)] (hq D x) (RetN (hq D y)) := by
  refine Cal.of (by decide +kernel) rfl rfl (Nat.le_of_ble_eq_true rfl) ?_
  show Ev Θ mX8_forgetRead 0 0 0 0 0 [(0, vr 8 (v0 + 1))] [] (hq D x) (RetN (hq D y))
  unfold F_X8_forgetRead at h
  refine Ev.iconst ⟨dX8_forgetRead_0, rfl⟩ (inRd rfl) ?_
  refine Ev.istore_n (i := 1) (ls' := [(0, _), (1, _)]) ⟨dX8_forgetRead_1, rfl⟩ rfl (by decide) rfl ?_
  obtain ⟨s4, hl, h⟩ := bnd_s h
  refine e_X8_forgetRead_2 Θ D z _ _ _ _ _ _ _ _ hl ?_
  clear hl
  refine Ev.aload_n (q := 0) ⟨dX8_forgetRead_22, rfl⟩ rfl rfl ?_
  refine Ev.getRk (C2 := 27) (r := 1) fX8_16 rfl (by decide) (by decide) ⟨dX8_forgetRead_23, rfl⟩ ?_
  refine Ev.iconst ⟨dX8_forgetRead_26, rfl⟩ (inRd rfl) ?_
  refine Ev.iconst ⟨dX8_forgetRead_27, rfl⟩ (inRd rfl) ?_
  obtain ⟨c5, h⟩ := ckI_s h
  obtain ⟨x6, ex, h⟩ := bnd_s h
  refine Ev.iastore (by decide) c5.1 c5.2 ⟨dX8_forgetRead_28, rfl⟩ ?_
  refine Ev.cast ?_ rfl rfl (hqI ex)
  clear ex
  refine Ev.aload_n (q := 0) ⟨dX8_forgetRead_29, rfl⟩ rfl rfl ?_
  refine Ev.getRk (C2 := 27) (r := 1) fX8_16 rfl (by decide) (by decide) ⟨dX8_forgetRead_30, rfl⟩ ?_
  refine Ev.bipush ⟨dX8_forgetRead_33, rfl⟩ (inRd rfl) (by decide) ?_
  refine Ev.iconst ⟨dX8_forgetRead_35, rfl⟩ (inRd rfl) ?_
  obtain ⟨c7, h⟩ := ckI_s h
  obtain ⟨x8, ex, h⟩ := bnd_s h
  refine Ev.iastore (by decide) c7.1 c7.2 ⟨dX8_forgetRead_36, rfl⟩ ?_
  refine Ev.cast ?_ rfl rfl (hqI ex)
  clear ex
  refine Ev.aload_n (q := 0) ⟨dX8_forgetRead_37, rfl⟩ rfl rfl ?_
  refine Ev.getRk (C2 := 27) (r := 1) fX8_16 rfl (by decide) (by decide) ⟨dX8_forgetRead_38, rfl⟩ ?_
  refine Ev.bipush ⟨dX8_forgetRead_41, rfl⟩ (inRd rfl) (by decide) ?_
  refine Ev.iconst ⟨dX8_forgetRead_43, rfl⟩ (inRd rfl) ?_
  obtain ⟨c9, h⟩ := ckI_s h
  obtain ⟨x10, ex, h⟩ := bnd_s h
  refine Ev.iastore (by decide) c9.1 c9.2 ⟨dX8_forgetRead_44, rfl⟩ ?_
  refine Ev.cast ?_ rfl rfl (hqI ex)
  clear ex
  refine Ev.aload_n (q := 0) ⟨dX8_forgetRead_45, rfl⟩ rfl rfl ?_
  refine Ev.getRk (C2 := 27) (r := 1) fX8_16 rfl (by decide) (by decide) ⟨dX8_forgetRead_46, rfl⟩ ?_
  refine Ev.sipush ⟨dX8_forgetRead_49, rfl⟩ (inRd rfl) (by decide) ?_
  refine Ev.iconst ⟨dX8_forgetRead_52, rfl⟩ (inRd rfl) ?_
  obtain ⟨c11, h⟩ := ckI_s h
  obtain ⟨x12, ex, h⟩ := bnd_s h
  refine Ev.iastore (by decide) c11.1 c11.2 ⟨dX8_forgetRead_53, rfl⟩ ?_
  refine Ev.cast ?_ rfl rfl (hqI ex)
  clear ex
  refine Ev.iconst ⟨dX8_forgetRead_54, rfl⟩ (inRd rfl) ?_
  refine Ev.istore_n (i := 1) (ls' := [(0, _), (1, _)]) ⟨dX8_forgetRead_55, rfl⟩ rfl (by decide) rfl ?_
  obtain ⟨s18, hl, h⟩ := bnd_s h
  refine e_X8_forgetRead_56 Θ D z _ _ _ _ _ _ _ _ hl ?_
  clear hl
  obtain rfl := Option.some.inj h
  exact Ev.ret ⟨dX8_forgetRead_80, rfl⟩ rfl ⟨rfl, rfl⟩

def F_X8_begins (z : Nat) (v0 : Nat) (v1 : Int) (x : Mm) : Option (Int × Mm) := if v1 = 0 then ((F_X8_step z (v0) x).bind fun r2 => some (((1 : Int), r2))) else ((F_X8_fail z (v0) x).bind fun r4 => some (((0 : Int), r4)))
set_option maxHeartbeats 4000000 in
set_option maxRecDepth 20000 in
theorem c_X8_begins (Θ : GC) (D : Nat → Nat → Prop) (z : Nat) (v0 : Nat) (v1 : Int) (x : Mm) (y) (h : F_X8_begins z v0 v1 x = some y) : Cal Θ mX8_begins 2 44 0 0 [vr 8 (v0 + 1), vi (v1)] (hq D x) (Ret (vi y.1) (hq D y.2)) := by
  refine Cal.of (by decide +kernel) rfl rfl (Nat.le_of_ble_eq_true rfl) ?_
  show Ev Θ mX8_begins 2 44 0 0 0 [(0, vr 8 (v0 + 1)), (1, vi (v1))] [] (hq D x) (Ret (vi y.1) (hq D y.2))
  unfold F_X8_begins at h
  refine Ev.iload_n (q := 1) ⟨dX8_begins_0, rfl⟩ rfl rfl ?_
  refine Ev.if_eq jX8_begins_1 (fun hc => ?_) (fun hc => ?_)
  · replace h := (if_pos hc).symm.trans h; clear hc
    refine Ev.aload_n (q := 0) ⟨dX8_begins_10, rfl⟩ rfl rfl ?_
    obtain ⟨r2, hv1, h⟩ := bnd_s h
    refine Ev.callVN (mc1 := 0) (ms1 := 0) (h1 := hq D r2) vX8_106 (c_X8_step Θ D z _ _ _ hv1) rfl rfl (by decide) rfl ⟨by decide, by decide, Nat.le_of_eq (Nat.zero_add _), Nat.le_of_eq (Nat.zero_add _), Nat.le_of_ble_eq_true rfl⟩ ⟨dX8_begins_11, rfl⟩ ?_
    clear hv1
    refine Ev.iconst ⟨dX8_begins_14, rfl⟩ (inRd rfl) ?_
    obtain rfl := Option.some.inj h
    exact Ev.ireturn (ty := .boolean) ⟨dX8_begins_15, rfl⟩ rfl rfl ⟨rfl, rfl⟩
  · replace h := (if_neg hc).symm.trans h; clear hc
    refine Ev.aload_n (q := 0) ⟨dX8_begins_4, rfl⟩ rfl rfl ?_
    obtain ⟨r4, hv3, h⟩ := bnd_s h
    refine Ev.callVN (mc1 := 0) (ms1 := 0) (h1 := hq D r4) vX8_103 (c_X8_fail Θ D z _ _ _ hv3) rfl rfl (by decide) rfl ⟨by decide, by decide, Nat.le_of_eq (Nat.zero_add _), Nat.le_of_eq (Nat.zero_add _), Nat.le_of_ble_eq_true rfl⟩ ⟨dX8_begins_5, rfl⟩ ?_
    clear hv3
    refine Ev.iconst ⟨dX8_begins_8, rfl⟩ (inRd rfl) ?_
    obtain rfl := Option.some.inj h
    exact Ev.ireturn (ty := .boolean) ⟨dX8_begins_9, rfl⟩ rfl rfl ⟨rfl, rfl⟩

def F_X8_readField_102 (z : Nat) (v0 : Nat) (u0 : Int) (x : Mm) : Option (Mm) := if u0 = (-1 : Int) then ((F_X8_fail z (v0) x).bind fun r27 => some (r27)) else ((F_X8_step z (v0) x).bind fun r17 => ckI (1 : Int) 5366 <| ckR (((5 : Int) + (r17.1 27 1 ((1 : Int)).toNat))) <| ckI ((5 : Int) + (r17.1 27 1 ((1 : Int)).toNat)) 5366 <| (some (wI r17 27 1 (((5 : Int) + (r17.1 27 1 ((1 : Int)).toNat))).toNat (u0))).bind fun x21 => ckI (1 : Int) 5366 <| ckR (((x21.1 27 1 ((1 : Int)).toNat) + (1 : Int))) <| ckI (1 : Int) 5366 <| (some (wI x21 27 1 ((1 : Int)).toNat (((x21.1 27 1 ((1 : Int)).toNat) + (1 : Int))))).bind fun x25 => some (x25))
set_option maxHeartbeats 4000000 in
set_option maxRecDepth 20000 in
theorem e_X8_readField_102 (Θ : GC) (D : Nat → Nat → Prop) (z : Nat) (v0 : Nat) (u0 : Int) (x : Mm) (y) (h : F_X8_readField_102 z v0 u0 x = some y) : Ev Θ mX8_readField 5 108 0 0 102 [(0, vr 8 (v0 + 1))] [vi (u0)] (hq D x) (RetN (hq D y)) := by
  unfold F_X8_readField_102 at h
  refine Ev.istore_n (i := 1) (ls' := [(0, _), (1, _)]) ⟨dX8_readField_102, rfl⟩ rfl (by decide) rfl ?_
  refine Ev.iload_n (q := 1) ⟨dX8_readField_103, rfl⟩ rfl rfl ?_
  refine Ev.iconst ⟨dX8_readField_104, rfl⟩ (inRd rfl) ?_
  refine Ev.icmp_ne jX8_readField_105 (fun hc => ?_) (fun hc => ?_)
  · replace h := (if_neg hc).symm.trans h; clear hc
    refine Ev.aload_n (q := 0) ⟨dX8_readField_113, rfl⟩ rfl rfl ?_
    obtain ⟨r17, hv16, h⟩ := bnd_s h
    refine Ev.callVN (mc1 := 0) (ms1 := 0) (h1 := hq D r17) vX8_106 (c_X8_step Θ D z _ _ _ hv16) rfl rfl (by decide) rfl ⟨by decide, by decide, Nat.le_of_eq (Nat.zero_add _), Nat.le_of_eq (Nat.zero_add _), Nat.le_of_ble_eq_true rfl⟩ ⟨dX8_readField_114, rfl⟩ ?_
    clear hv16
    refine Ev.aload_n (q := 0) ⟨dX8_readField_117, rfl⟩ rfl rfl ?_
    refine Ev.getRk (C2 := 27) (r := 1) fX8_16 rfl (by decide) (by decide) ⟨dX8_readField_118, rfl⟩ ?_
    refine Ev.iconst ⟨dX8_readField_121, rfl⟩ (inRd rfl) ?_
    refine Ev.aload_n (q := 0) ⟨dX8_readField_122, rfl⟩ rfl rfl ?_
    refine Ev.getRk (C2 := 27) (r := 1) fX8_16 rfl (by decide) (by decide) ⟨dX8_readField_123, rfl⟩ ?_
    refine Ev.iconst ⟨dX8_readField_126, rfl⟩ (inRd rfl) ?_
    obtain ⟨c18, h⟩ := ckI_s h
    refine Ev.iaload (by decide) c18.1 c18.2 ⟨dX8_readField_127, rfl⟩ ?_
    obtain ⟨c19, h⟩ := ckR_s h
    refine Ev.iadd ⟨dX8_readField_128, rfl⟩ c19 ?_
    refine Ev.iload_n (q := 1) ⟨dX8_readField_129, rfl⟩ rfl rfl ?_
    obtain ⟨c20, h⟩ := ckI_s h
    obtain ⟨x21, ex, h⟩ := bnd_s h
    refine Ev.iastore (by decide) c20.1 c20.2 ⟨dX8_readField_130, rfl⟩ ?_
    refine Ev.cast ?_ rfl rfl (hqI ex)
    clear ex
    refine Ev.aload_n (q := 0) ⟨dX8_readField_131, rfl⟩ rfl rfl ?_
    refine Ev.getRk (C2 := 27) (r := 1) fX8_16 rfl (by decide) (by decide) ⟨dX8_readField_132, rfl⟩ ?_
    refine Ev.iconst ⟨dX8_readField_135, rfl⟩ (inRd rfl) ?_
    refine Ev.dup2 ⟨dX8_readField_136, rfl⟩ rfl rfl ?_
    obtain ⟨c22, h⟩ := ckI_s h
    refine Ev.iaload (by decide) c22.1 c22.2 ⟨dX8_readField_137, rfl⟩ ?_
    refine Ev.iconst ⟨dX8_readField_138, rfl⟩ (inRd rfl) ?_
    obtain ⟨c23, h⟩ := ckR_s h
    refine Ev.iadd ⟨dX8_readField_139, rfl⟩ c23 ?_
    obtain ⟨c24, h⟩ := ckI_s h
    obtain ⟨x25, ex, h⟩ := bnd_s h
    refine Ev.iastore (by decide) c24.1 c24.2 ⟨dX8_readField_140, rfl⟩ ?_
    refine Ev.cast ?_ rfl rfl (hqI ex)
    clear ex
    obtain rfl := Option.some.inj h
    exact Ev.ret ⟨dX8_readField_141, rfl⟩ rfl ⟨rfl, rfl⟩
  · replace h := (if_pos hc).symm.trans h; clear hc
    refine Ev.aload_n (q := 0) ⟨dX8_readField_108, rfl⟩ rfl rfl ?_
    obtain ⟨r27, hv26, h⟩ := bnd_s h
    refine Ev.callVN (mc1 := 0) (ms1 := 0) (h1 := hq D r27) vX8_103 (c_X8_fail Θ D z _ _ _ hv26) rfl rfl (by decide) rfl ⟨by decide, by decide, Nat.le_of_eq (Nat.zero_add _), Nat.le_of_eq (Nat.zero_add _), Nat.le_of_ble_eq_true rfl⟩ ⟨dX8_readField_109, rfl⟩ ?_
    clear hv26
    obtain rfl := Option.some.inj h
    exact Ev.ret ⟨dX8_readField_112, rfl⟩ rfl ⟨rfl, rfl⟩

def F_X8_readField_17 (z : Nat) (v0 : Nat) (u0 : Int) (u1 : Nat) (x : Mm) : Option (Mm) := (F_X8_begins z (u1) (u0) x).bind fun r3 => if r3.1 = 0 then (some (r3.2)) else ((F_X8_isWord z (v0) (12) r3.2).bind fun r5 => if r5 = 0 then ((F_X8_isWord z (v0) (13) r3.2).bind fun r7 => if r7 = 0 then ((F_X8_isWord z (v0) (14) r3.2).bind fun r9 => if r9 = 0 then ((F_X8_isWord z (v0) (15) r3.2).bind fun r11 => if r11 = 0 then ((F_X8_isWord z (v0) (16) r3.2).bind fun r13 => if r13 = 0 then ((F_X8_isWord z (v0) (17) r3.2).bind fun r15 => if r15 = 0 then (F_X8_readField_102 z (v0) ((-1 : Int)) r3.2) else (F_X8_readField_102 z (v0) ((5 : Int)) r3.2)) else (F_X8_readField_102 z (v0) ((4 : Int)) r3.2)) else (F_X8_readField_102 z (v0) ((3 : Int)) r3.2)) else (F_X8_readField_102 z (v0) ((2 : Int)) r3.2)) else (F_X8_readField_102 z (v0) ((1 : Int)) r3.2)) else (F_X8_readField_102 z (v0) ((0 : Int)) r3.2))
set_option maxHeartbeats 4000000 in
set_option maxRecDepth 20000 in
theorem e_X8_readField_17 (Θ : GC) (D : Nat → Nat → Prop) (z : Nat) (v0 : Nat) (u0 : Int) (u1 : Nat) (x : Mm) (y) (h : F_X8_readField_17 z v0 u0 u1 x = some y) : Ev Θ mX8_readField 5 108 0 0 17 [(0, vr 8 (v0 + 1))] [vi (u0), vr 8 (u1 + 1)] (hq D x) (RetN (hq D y)) := by
  unfold F_X8_readField_17 at h
  obtain ⟨r3, hv2, h⟩ := bnd_s h
  refine Ev.callV1 (mc1 := 0) (ms1 := 0) (v := vi r3.1) (h1 := hq D r3.2) vX8_109 (c_X8_begins Θ D z _ _ _ _ hv2) rfl rfl (by decide) rfl ⟨by decide, by decide, Nat.le_of_eq (Nat.zero_add _), Nat.le_of_eq (Nat.zero_add _), Nat.le_of_ble_eq_true rfl⟩ ⟨dX8_readField_17, rfl⟩ ?_
  clear hv2
  refine Ev.if_eq jX8_readField_20 (fun hc => ?_) (fun hc => ?_)
  · replace h := (if_pos hc).symm.trans h; clear hc
    obtain rfl := Option.some.inj h
    exact Ev.ret ⟨dX8_readField_141, rfl⟩ rfl ⟨rfl, rfl⟩
  · replace h := (if_neg hc).symm.trans h; clear hc
    refine Ev.aload_n (q := 0) ⟨dX8_readField_23, rfl⟩ rfl rfl ?_
    refine Ev.ldcT (k := 12) (tx := "sum") (by decide) ⟨dX8_readField_24, rfl⟩ ?_
    obtain ⟨r5, hv4, h⟩ := bnd_s h
    refine Ev.callV1 (mc1 := 0) (ms1 := 0) (v := vi r5) (h1 := hq D r3.2) vX8_115 (c_X8_isWord Θ D z _ _ _ _ hv4) rfl rfl (by decide) rfl ⟨by decide, by decide, Nat.le_of_eq (Nat.zero_add _), Nat.le_of_eq (Nat.zero_add _), Nat.le_of_ble_eq_true rfl⟩ ⟨dX8_readField_26, rfl⟩ ?_
    clear hv4
    refine Ev.if_eq jX8_readField_29 (fun hc => ?_) (fun hc => ?_)
    · replace h := (if_pos hc).symm.trans h; clear hc
      refine Ev.aload_n (q := 0) ⟨dX8_readField_36, rfl⟩ rfl rfl ?_
      refine Ev.ldcT (k := 13) (tx := "max") (by decide) ⟨dX8_readField_37, rfl⟩ ?_
      obtain ⟨r7, hv6, h⟩ := bnd_s h
      refine Ev.callV1 (mc1 := 0) (ms1 := 0) (v := vi r7) (h1 := hq D r3.2) vX8_115 (c_X8_isWord Θ D z _ _ _ _ hv6) rfl rfl (by decide) rfl ⟨by decide, by decide, Nat.le_of_eq (Nat.zero_add _), Nat.le_of_eq (Nat.zero_add _), Nat.le_of_ble_eq_true rfl⟩ ⟨dX8_readField_39, rfl⟩ ?_
      clear hv6
      refine Ev.if_eq jX8_readField_42 (fun hc => ?_) (fun hc => ?_)
      · replace h := (if_pos hc).symm.trans h; clear hc
        refine Ev.aload_n (q := 0) ⟨dX8_readField_49, rfl⟩ rfl rfl ?_
        refine Ev.ldcT (k := 14) (tx := "min") (by decide) ⟨dX8_readField_50, rfl⟩ ?_
        obtain ⟨r9, hv8, h⟩ := bnd_s h
        refine Ev.callV1 (mc1 := 0) (ms1 := 0) (v := vi r9) (h1 := hq D r3.2) vX8_115 (c_X8_isWord Θ D z _ _ _ _ hv8) rfl rfl (by decide) rfl ⟨by decide, by decide, Nat.le_of_eq (Nat.zero_add _), Nat.le_of_eq (Nat.zero_add _), Nat.le_of_ble_eq_true rfl⟩ ⟨dX8_readField_52, rfl⟩ ?_
        clear hv8
        refine Ev.if_eq jX8_readField_55 (fun hc => ?_) (fun hc => ?_)
        · replace h := (if_pos hc).symm.trans h; clear hc
          refine Ev.aload_n (q := 0) ⟨dX8_readField_62, rfl⟩ rfl rfl ?_
          refine Ev.ldcT (k := 15) (tx := "bits") (by decide) ⟨dX8_readField_63, rfl⟩ ?_
          obtain ⟨r11, hv10, h⟩ := bnd_s h
          refine Ev.callV1 (mc1 := 0) (ms1 := 0) (v := vi r11) (h1 := hq D r3.2) vX8_115 (c_X8_isWord Θ D z _ _ _ _ hv10) rfl rfl (by decide) rfl ⟨by decide, by decide, Nat.le_of_eq (Nat.zero_add _), Nat.le_of_eq (Nat.zero_add _), Nat.le_of_ble_eq_true rfl⟩ ⟨dX8_readField_65, rfl⟩ ?_
          clear hv10
          refine Ev.if_eq jX8_readField_68 (fun hc => ?_) (fun hc => ?_)
          · replace h := (if_pos hc).symm.trans h; clear hc
            refine Ev.aload_n (q := 0) ⟨dX8_readField_75, rfl⟩ rfl rfl ?_
            refine Ev.ldcT (k := 16) (tx := "first") (by decide) ⟨dX8_readField_76, rfl⟩ ?_
            obtain ⟨r13, hv12, h⟩ := bnd_s h
            refine Ev.callV1 (mc1 := 0) (ms1 := 0) (v := vi r13) (h1 := hq D r3.2) vX8_115 (c_X8_isWord Θ D z _ _ _ _ hv12) rfl rfl (by decide) rfl ⟨by decide, by decide, Nat.le_of_eq (Nat.zero_add _), Nat.le_of_eq (Nat.zero_add _), Nat.le_of_ble_eq_true rfl⟩ ⟨dX8_readField_78, rfl⟩ ?_
            clear hv12
            refine Ev.if_eq jX8_readField_81 (fun hc => ?_) (fun hc => ?_)
            · replace h := (if_pos hc).symm.trans h; clear hc
              refine Ev.aload_n (q := 0) ⟨dX8_readField_88, rfl⟩ rfl rfl ?_
              refine Ev.ldcT (k := 17) (tx := "last") (by decide) ⟨dX8_readField_89, rfl⟩ ?_
              obtain ⟨r15, hv14, h⟩ := bnd_s h
              refine Ev.callV1 (mc1 := 0) (ms1 := 0) (v := vi r15) (h1 := hq D r3.2) vX8_115 (c_X8_isWord Θ D z _ _ _ _ hv14) rfl rfl (by decide) rfl ⟨by decide, by decide, Nat.le_of_eq (Nat.zero_add _), Nat.le_of_eq (Nat.zero_add _), Nat.le_of_ble_eq_true rfl⟩ ⟨dX8_readField_91, rfl⟩ ?_
              clear hv14
              refine Ev.if_eq jX8_readField_94 (fun hc => ?_) (fun hc => ?_)
              · replace h := (if_pos hc).symm.trans h; clear hc
                refine Ev.iconst ⟨dX8_readField_101, rfl⟩ (inRd rfl) ?_
                exact e_X8_readField_102 Θ D z _ _ _ _ h
              · replace h := (if_neg hc).symm.trans h; clear hc
                refine Ev.iconst ⟨dX8_readField_97, rfl⟩ (inRd rfl) ?_
                refine Ev.goto jX8_readField_98 ?_
                exact e_X8_readField_102 Θ D z _ _ _ _ h
            · replace h := (if_neg hc).symm.trans h; clear hc
              refine Ev.iconst ⟨dX8_readField_84, rfl⟩ (inRd rfl) ?_
              refine Ev.goto jX8_readField_85 ?_
              exact e_X8_readField_102 Θ D z _ _ _ _ h
          · replace h := (if_neg hc).symm.trans h; clear hc
            refine Ev.iconst ⟨dX8_readField_71, rfl⟩ (inRd rfl) ?_
            refine Ev.goto jX8_readField_72 ?_
            exact e_X8_readField_102 Θ D z _ _ _ _ h
        · replace h := (if_neg hc).symm.trans h; clear hc
          refine Ev.iconst ⟨dX8_readField_58, rfl⟩ (inRd rfl) ?_
          refine Ev.goto jX8_readField_59 ?_
          exact e_X8_readField_102 Θ D z _ _ _ _ h
      · replace h := (if_neg hc).symm.trans h; clear hc
        refine Ev.iconst ⟨dX8_readField_45, rfl⟩ (inRd rfl) ?_
        refine Ev.goto jX8_readField_46 ?_
        exact e_X8_readField_102 Θ D z _ _ _ _ h
    · replace h := (if_neg hc).symm.trans h; clear hc
      refine Ev.iconst ⟨dX8_readField_32, rfl⟩ (inRd rfl) ?_
      refine Ev.goto jX8_readField_33 ?_
      exact e_X8_readField_102 Θ D z _ _ _ _ h
def F_X8_readField (z : Nat) (v0 : Nat) (x : Mm) : Option (Mm) := ckI (1 : Int) 5366 <| if (x.1 27 1 ((1 : Int)).toNat) = (6 : Int) then (F_X8_readField_17 z (v0) ((1 : Int)) (v0) x) else (F_X8_readField_17 z (v0) ((0 : Int)) (v0) x)
set_option maxHeartbeats 4000000 in
set_option maxRecDepth 20000 in
theorem c_X8_readField (Θ : GC) (D : Nat → Nat → Prop) (z : Nat) (v0 : Nat) (x : Mm) (y) (h : F_X8_readField z v0 x = some y) : Cal Θ mX8_readField 5 108 0 0 [vr 8 (v0 + 1)] (hq D x) (RetN (hq D y)) := by
  refine Cal.of (by decide +kernel) rfl rfl (Nat.le_of_ble_eq_true rfl) ?_
  show Ev Θ mX8_readField 5 108 0 0 0 [(0, vr 8 (v0 + 1))] [] (hq D x) (RetN (hq D y))
  unfold F_X8_readField at h
  refine Ev.aload_n (q := 0) ⟨dX8_readField_0, rfl⟩ rfl rfl ?_
  refine Ev.aload_n (q := 0) ⟨dX8_readField_1, rfl⟩ rfl rfl ?_
  refine Ev.getRk (C2 := 27) (r := 1) fX8_16 rfl (by decide) (by decide) ⟨dX8_readField_2, rfl⟩ ?_
  refine Ev.iconst ⟨dX8_readField_5, rfl⟩ (inRd rfl) ?_
  obtain ⟨c1, h⟩ := ckI_s h
  refine Ev.iaload (by decide) c1.1 c1.2 ⟨dX8_readField_6, rfl⟩ ?_
  refine Ev.bipush ⟨dX8_readField_7, rfl⟩ (inRd rfl) (by decide) ?_
  refine Ev.icmp_ne jX8_readField_9 (fun hc => ?_) (fun hc => ?_)
  · replace h := (if_neg hc).symm.trans h; clear hc
    refine Ev.iconst ⟨dX8_readField_16, rfl⟩ (inRd rfl) ?_
    exact e_X8_readField_17 Θ D z _ _ _ _ _ h
  · replace h := (if_pos hc).symm.trans h; clear hc
    refine Ev.iconst ⟨dX8_readField_12, rfl⟩ (inRd rfl) ?_
    refine Ev.goto jX8_readField_13 ?_
    exact e_X8_readField_17 Θ D z _ _ _ _ _ h

def F_X8_readNode_88 (z : Nat) (v0 : Nat) (v1 : Int) (v2 : Int) (v3 : Int) : Nat → Int → Mm → Option (Mm)
  | 0, _, _ => none
  | k + 1, v4, x => if v2 ≤ v4 then (some (x)) else ((F_X8_isGood z (v0) x).bind fun r10 => if r10 = 0 then (ckR ((v4 + 1)) <| F_X8_readNode_88 z v0 v1 v2 v3 k ((v4 + 1)) x) else (if (x.1 8 v0 5) = (2 : Int) then (ckR (((11 : Int) + v4)) <| ckI ((11 : Int) + v4) 5366 <| if (x.1 27 1 (((11 : Int) + v4)).toNat) = v3 then (ckR (((71 : Int) + v4)) <| ckI ((71 : Int) + v4) 5366 <| if (x.1 27 1 (((71 : Int) + v4)).toNat) = (x.1 8 v0 6) then ((F_X8_fail z (v0) x).bind fun r20 => ckR ((v4 + 1)) <| F_X8_readNode_88 z v0 v1 v2 v3 k ((v4 + 1)) r20) else (ckR ((v4 + 1)) <| F_X8_readNode_88 z v0 v1 v2 v3 k ((v4 + 1)) x)) else (ckR ((v4 + 1)) <| F_X8_readNode_88 z v0 v1 v2 v3 k ((v4 + 1)) x)) else (ckR ((v4 + 1)) <| F_X8_readNode_88 z v0 v1 v2 v3 k ((v4 + 1)) x)))
set_option maxHeartbeats 4000000 in
set_option maxRecDepth 20000 in
theorem e_X8_readNode_88 (Θ : GC) (D : Nat → Nat → Prop) (z : Nat) (v0 : Nat) (v1 : Int) (v2 : Int) (v3 : Int) (Q : Ro → Hp → Prop) (mc ms : Nat) : ∀ (k : Nat) (v4 : Int) (x : Mm) (y), F_X8_readNode_88 z v0 v1 v2 v3 k v4 x = some y → (Ev Θ mX8_readNode 3 67 mc ms 150 [(0, vr 8 (v0 + 1)), (1, vi (v1)), (2, vi (v2)), (3, vi (v3))] [] (hq D y) Q) → Ev Θ mX8_readNode 3 67 mc ms 88 [(0, vr 8 (v0 + 1)), (1, vi (v1)), (2, vi (v2)), (3, vi (v3)), (4, vi (v4))] [] (hq D x) Q := by
  intro k
  induction k with
  | zero => intro v4 x y h; exact absurd h (by unfold F_X8_readNode_88; exact nofun)
  | succ k ih =>
    intro v4 x y h k1
    unfold F_X8_readNode_88 at h
    refine Ev.iload (q := 4) ⟨dX8_readNode_88, rfl⟩ rfl ?_
    refine Ev.iload_n (q := 2) ⟨dX8_readNode_90, rfl⟩ rfl rfl ?_
    refine Ev.icmp_ge jX8_readNode_91 (fun hc => ?_) (fun hc => ?_)
    · replace h := (if_pos hc).symm.trans h; clear hc
      refine Ev.keep [0, 1, 2, 3] rfl ?_
      obtain rfl := Option.some.inj h
      exact k1
    · replace h := (if_neg hc).symm.trans h; clear hc
      refine Ev.aload_n (q := 0) ⟨dX8_readNode_94, rfl⟩ rfl rfl ?_
      obtain ⟨r10, hv9, h⟩ := bnd_s h
      refine Ev.callV1 (mc1 := mc) (ms1 := ms) (v := vi r10) (h1 := hq D x) vX8_90 (c_X8_isGood Θ D z _ _ _ hv9) rfl rfl (by decide) rfl ⟨by decide, by decide, Nat.le_of_eq (Nat.zero_add _), Nat.le_of_eq (Nat.zero_add _), Nat.le_of_ble_eq_true rfl⟩ ⟨dX8_readNode_95, rfl⟩ ?_
      clear hv9
      refine Ev.if_eq jX8_readNode_98 (fun hc => ?_) (fun hc => ?_)
      · replace h := (if_pos hc).symm.trans h; clear hc
        obtain ⟨c11, h⟩ := ckR_s h
        refine Ev.iinc (q := 4) (ls' := [(0, _), (1, _), (2, _), (3, _), (4, _)]) ⟨dX8_readNode_144, rfl⟩ rfl (by decide) c11 rfl ?_
        refine Ev.goto jX8_readNode_147 ?_
        exact ih _ _ _ h k1
      · replace h := (if_neg hc).symm.trans h; clear hc
        refine Ev.aload_n (q := 0) ⟨dX8_readNode_101, rfl⟩ rfl rfl ?_
        refine Ev.getI fX8_74 (Or.inl rfl) ⟨dX8_readNode_102, rfl⟩ ?_
        refine Ev.iconst ⟨dX8_readNode_105, rfl⟩ (inRd rfl) ?_
        refine Ev.icmp_ne jX8_readNode_106 (fun hc => ?_) (fun hc => ?_)
        · replace h := (if_neg hc).symm.trans h; clear hc
          obtain ⟨c12, h⟩ := ckR_s h
          refine Ev.iinc (q := 4) (ls' := [(0, _), (1, _), (2, _), (3, _), (4, _)]) ⟨dX8_readNode_144, rfl⟩ rfl (by decide) c12 rfl ?_
          refine Ev.goto jX8_readNode_147 ?_
          exact ih _ _ _ h k1
        · replace h := (if_pos hc).symm.trans h; clear hc
          refine Ev.aload_n (q := 0) ⟨dX8_readNode_109, rfl⟩ rfl rfl ?_
          refine Ev.getRk (C2 := 27) (r := 1) fX8_16 rfl (by decide) (by decide) ⟨dX8_readNode_110, rfl⟩ ?_
          refine Ev.bipush ⟨dX8_readNode_113, rfl⟩ (inRd rfl) (by decide) ?_
          refine Ev.iload (q := 4) ⟨dX8_readNode_115, rfl⟩ rfl ?_
          obtain ⟨c13, h⟩ := ckR_s h
          refine Ev.iadd ⟨dX8_readNode_117, rfl⟩ c13 ?_
          obtain ⟨c14, h⟩ := ckI_s h
          refine Ev.iaload (by decide) c14.1 c14.2 ⟨dX8_readNode_118, rfl⟩ ?_
          refine Ev.iload_n (q := 3) ⟨dX8_readNode_119, rfl⟩ rfl rfl ?_
          refine Ev.icmp_ne jX8_readNode_120 (fun hc => ?_) (fun hc => ?_)
          · replace h := (if_neg hc).symm.trans h; clear hc
            obtain ⟨c15, h⟩ := ckR_s h
            refine Ev.iinc (q := 4) (ls' := [(0, _), (1, _), (2, _), (3, _), (4, _)]) ⟨dX8_readNode_144, rfl⟩ rfl (by decide) c15 rfl ?_
            refine Ev.goto jX8_readNode_147 ?_
            exact ih _ _ _ h k1
          · replace h := (if_pos hc).symm.trans h; clear hc
            refine Ev.aload_n (q := 0) ⟨dX8_readNode_123, rfl⟩ rfl rfl ?_
            refine Ev.getRk (C2 := 27) (r := 1) fX8_16 rfl (by decide) (by decide) ⟨dX8_readNode_124, rfl⟩ ?_
            refine Ev.bipush ⟨dX8_readNode_127, rfl⟩ (inRd rfl) (by decide) ?_
            refine Ev.iload (q := 4) ⟨dX8_readNode_129, rfl⟩ rfl ?_
            obtain ⟨c16, h⟩ := ckR_s h
            refine Ev.iadd ⟨dX8_readNode_131, rfl⟩ c16 ?_
            obtain ⟨c17, h⟩ := ckI_s h
            refine Ev.iaload (by decide) c17.1 c17.2 ⟨dX8_readNode_132, rfl⟩ ?_
            refine Ev.aload_n (q := 0) ⟨dX8_readNode_133, rfl⟩ rfl rfl ?_
            refine Ev.getI fX8_77 (Or.inl rfl) ⟨dX8_readNode_134, rfl⟩ ?_
            refine Ev.icmp_ne jX8_readNode_137 (fun hc => ?_) (fun hc => ?_)
            · replace h := (if_neg hc).symm.trans h; clear hc
              obtain ⟨c18, h⟩ := ckR_s h
              refine Ev.iinc (q := 4) (ls' := [(0, _), (1, _), (2, _), (3, _), (4, _)]) ⟨dX8_readNode_144, rfl⟩ rfl (by decide) c18 rfl ?_
              refine Ev.goto jX8_readNode_147 ?_
              exact ih _ _ _ h k1
            · replace h := (if_pos hc).symm.trans h; clear hc
              refine Ev.aload_n (q := 0) ⟨dX8_readNode_140, rfl⟩ rfl rfl ?_
              obtain ⟨r20, hv19, h⟩ := bnd_s h
              refine Ev.callVN (mc1 := mc) (ms1 := ms) (h1 := hq D r20) vX8_103 (c_X8_fail Θ D z _ _ _ hv19) rfl rfl (by decide) rfl ⟨by decide, by decide, Nat.le_of_eq (Nat.zero_add _), Nat.le_of_eq (Nat.zero_add _), Nat.le_of_ble_eq_true rfl⟩ ⟨dX8_readNode_141, rfl⟩ ?_
              clear hv19
              obtain ⟨c21, h⟩ := ckR_s h
              refine Ev.iinc (q := 4) (ls' := [(0, _), (1, _), (2, _), (3, _), (4, _)]) ⟨dX8_readNode_144, rfl⟩ rfl (by decide) c21 rfl ?_
              refine Ev.goto jX8_readNode_147 ?_
              exact ih _ _ _ h k1

def F_X8_readNode_206 (z : Nat) (v0 : Nat) (v2 : Int) (u0 : Int) (u1 : Int) (u2 : Nat) (x : Mm) : Option (Mm) := ckI u1 5366 <| (some (wI x 27 u2 (u1).toNat (u0))).bind fun x35 => ckR (((191 : Int) + v2)) <| ckI ((191 : Int) + v2) 5366 <| (some (wI x35 27 1 (((191 : Int) + v2)).toNat ((1 : Int)))).bind fun x38 => ckI (3 : Int) 5366 <| ckR (((x38.1 27 1 ((3 : Int)).toNat) + (1 : Int))) <| ckI (3 : Int) 5366 <| (some (wI x38 27 1 ((3 : Int)).toNat (((x38.1 27 1 ((3 : Int)).toNat) + (1 : Int))))).bind fun x42 => some (x42)
set_option maxHeartbeats 4000000 in
set_option maxRecDepth 20000 in
theorem e_X8_readNode_206 (Θ : GC) (D : Nat → Nat → Prop) (z : Nat) (v0 : Nat) (v2 : Int) (u0 : Int) (u1 : Int) (u2 : Nat) (x : Mm) (y) (h : F_X8_readNode_206 z v0 v2 u0 u1 u2 x = some y) : Ev Θ mX8_readNode 3 67 0 0 206 [(0, vr 8 (v0 + 1)), (2, vi (v2))] [vi (u0), vi (u1), vr 27 (u2 + 1)] (hq D x) (RetN (hq D y)) := by
  unfold F_X8_readNode_206 at h
  obtain ⟨c34, h⟩ := ckI_s h
  obtain ⟨x35, ex, h⟩ := bnd_s h
  refine Ev.iastore (by decide) c34.1 c34.2 ⟨dX8_readNode_206, rfl⟩ ?_
  refine Ev.cast ?_ rfl rfl (hqI ex)
  clear ex
  refine Ev.aload_n (q := 0) ⟨dX8_readNode_207, rfl⟩ rfl rfl ?_
  refine Ev.getRk (C2 := 27) (r := 1) fX8_16 rfl (by decide) (by decide) ⟨dX8_readNode_208, rfl⟩ ?_
  refine Ev.sipush ⟨dX8_readNode_211, rfl⟩ (inRd rfl) (by decide) ?_
  refine Ev.iload_n (q := 1) ⟨dX8_readNode_214, rfl⟩ rfl rfl ?_
  obtain ⟨c36, h⟩ := ckR_s h
  refine Ev.iadd ⟨dX8_readNode_215, rfl⟩ c36 ?_
  refine Ev.iconst ⟨dX8_readNode_216, rfl⟩ (inRd rfl) ?_
  obtain ⟨c37, h⟩ := ckI_s h
  obtain ⟨x38, ex, h⟩ := bnd_s h
  refine Ev.iastore (by decide) c37.1 c37.2 ⟨dX8_readNode_217, rfl⟩ ?_
  refine Ev.cast ?_ rfl rfl (hqI ex)
  clear ex
  refine Ev.aload_n (q := 0) ⟨dX8_readNode_218, rfl⟩ rfl rfl ?_
  refine Ev.getRk (C2 := 27) (r := 1) fX8_16 rfl (by decide) (by decide) ⟨dX8_readNode_219, rfl⟩ ?_
  refine Ev.iconst ⟨dX8_readNode_222, rfl⟩ (inRd rfl) ?_
  refine Ev.dup2 ⟨dX8_readNode_223, rfl⟩ rfl rfl ?_
  obtain ⟨c39, h⟩ := ckI_s h
  refine Ev.iaload (by decide) c39.1 c39.2 ⟨dX8_readNode_224, rfl⟩ ?_
  refine Ev.iconst ⟨dX8_readNode_225, rfl⟩ (inRd rfl) ?_
  obtain ⟨c40, h⟩ := ckR_s h
  refine Ev.iadd ⟨dX8_readNode_226, rfl⟩ c40 ?_
  obtain ⟨c41, h⟩ := ckI_s h
  obtain ⟨x42, ex, h⟩ := bnd_s h
  refine Ev.iastore (by decide) c41.1 c41.2 ⟨dX8_readNode_227, rfl⟩ ?_
  refine Ev.cast ?_ rfl rfl (hqI ex)
  clear ex
  obtain rfl := Option.some.inj h
  exact Ev.ret ⟨dX8_readNode_228, rfl⟩ rfl ⟨rfl, rfl⟩

def F_X8_readNode_76 (z : Nat) (v0 : Nat) (v1 : Int) (v2 : Int) (x : Mm) : Option (Mm) := ckR ((v2 - (1 : Int))) <| (F_X8_takeNumber z (v0) ((0 : Int)) ((v2 - (1 : Int))) x).bind fun r8 => (F_X8_readNode_88 z (v0) (v1) (v2) (r8.1) z ((1 : Int)) r8.2).bind fun s22 => (F_X8_takeNumber z (v0) ((0 : Int)) ((999 : Int)) s22).bind fun r24 => (F_X8_isGood z (v0) r24.2).bind fun r26 => if r26 = 0 then (some (r24.2)) else (ckR (((11 : Int) + v2)) <| ckI ((11 : Int) + v2) 5366 <| (some (wI r24.2 27 1 (((11 : Int) + v2)).toNat (r8.1))).bind fun x29 => ckR (((71 : Int) + v2)) <| ckI ((71 : Int) + v2) 5366 <| (some (wI x29 27 1 (((71 : Int) + v2)).toNat (r24.1))).bind fun x32 => ckR (((131 : Int) + v2)) <| if v1 = 0 then (F_X8_readNode_206 z (v0) (v2) ((0 : Int)) (((131 : Int) + v2)) (1) x32) else (F_X8_readNode_206 z (v0) (v2) ((1 : Int)) (((131 : Int) + v2)) (1) x32))
set_option maxHeartbeats 4000000 in
set_option maxRecDepth 20000 in
theorem e_X8_readNode_76 (Θ : GC) (D : Nat → Nat → Prop) (z : Nat) (v0 : Nat) (v1 : Int) (v2 : Int) (x : Mm) (y) (h : F_X8_readNode_76 z v0 v1 v2 x = some y) : Ev Θ mX8_readNode 3 67 0 0 76 [(0, vr 8 (v0 + 1)), (1, vi (v1)), (2, vi (v2))] [] (hq D x) (RetN (hq D y)) := by
  unfold F_X8_readNode_76 at h
  refine Ev.aload_n (q := 0) ⟨dX8_readNode_76, rfl⟩ rfl rfl ?_
  refine Ev.iconst ⟨dX8_readNode_77, rfl⟩ (inRd rfl) ?_
  refine Ev.iload_n (q := 2) ⟨dX8_readNode_78, rfl⟩ rfl rfl ?_
  refine Ev.iconst ⟨dX8_readNode_79, rfl⟩ (inRd rfl) ?_
  obtain ⟨c6, h⟩ := ckR_s h
  refine Ev.isub ⟨dX8_readNode_80, rfl⟩ c6 ?_
  obtain ⟨r8, hv7, h⟩ := bnd_s h
  refine Ev.callV1 (mc1 := 0) (ms1 := 0) (v := vi r8.1) (h1 := hq D r8.2) vX8_128 (c_X8_takeNumber Θ D z _ _ _ _ _ hv7) rfl rfl (by decide) rfl ⟨by decide, by decide, Nat.le_of_eq (Nat.zero_add _), Nat.le_of_eq (Nat.zero_add _), Nat.le_of_ble_eq_true rfl⟩ ⟨dX8_readNode_81, rfl⟩ ?_
  clear hv7
  refine Ev.istore_n (i := 3) (ls' := [(0, _), (1, _), (2, _), (3, _)]) ⟨dX8_readNode_84, rfl⟩ rfl (by decide) rfl ?_
  refine Ev.iconst ⟨dX8_readNode_85, rfl⟩ (inRd rfl) ?_
  refine Ev.istore (i := 4) (ls' := [(0, _), (1, _), (2, _), (3, _), (4, _)]) ⟨dX8_readNode_86, rfl⟩ (by decide) rfl ?_
  obtain ⟨s22, hl, h⟩ := bnd_s h
  refine e_X8_readNode_88 Θ D z _ _ _ _ _ _ _ _ _ _ _ hl ?_
  clear hl
  refine Ev.aload_n (q := 0) ⟨dX8_readNode_150, rfl⟩ rfl rfl ?_
  refine Ev.iconst ⟨dX8_readNode_151, rfl⟩ (inRd rfl) ?_
  refine Ev.sipush ⟨dX8_readNode_152, rfl⟩ (inRd rfl) (by decide) ?_
  obtain ⟨r24, hv23, h⟩ := bnd_s h
  refine Ev.callV1 (mc1 := 0) (ms1 := 0) (v := vi r24.1) (h1 := hq D r24.2) vX8_128 (c_X8_takeNumber Θ D z _ _ _ _ _ hv23) rfl rfl (by decide) rfl ⟨by decide, by decide, Nat.le_of_eq (Nat.zero_add _), Nat.le_of_eq (Nat.zero_add _), Nat.le_of_ble_eq_true rfl⟩ ⟨dX8_readNode_155, rfl⟩ ?_
  clear hv23
  refine Ev.istore (i := 4) (ls' := [(0, _), (1, _), (2, _), (3, _), (4, _)]) ⟨dX8_readNode_158, rfl⟩ (by decide) rfl ?_
  refine Ev.aload_n (q := 0) ⟨dX8_readNode_160, rfl⟩ rfl rfl ?_
  obtain ⟨r26, hv25, h⟩ := bnd_s h
  refine Ev.callV1 (mc1 := 0) (ms1 := 0) (v := vi r26) (h1 := hq D r24.2) vX8_90 (c_X8_isGood Θ D z _ _ _ hv25) rfl rfl (by decide) rfl ⟨by decide, by decide, Nat.le_of_eq (Nat.zero_add _), Nat.le_of_eq (Nat.zero_add _), Nat.le_of_ble_eq_true rfl⟩ ⟨dX8_readNode_161, rfl⟩ ?_
  clear hv25
  refine Ev.if_eq jX8_readNode_164 (fun hc => ?_) (fun hc => ?_)
  · replace h := (if_pos hc).symm.trans h; clear hc
    obtain rfl := Option.some.inj h
    exact Ev.ret ⟨dX8_readNode_228, rfl⟩ rfl ⟨rfl, rfl⟩
  · replace h := (if_neg hc).symm.trans h; clear hc
    refine Ev.aload_n (q := 0) ⟨dX8_readNode_167, rfl⟩ rfl rfl ?_
    refine Ev.getRk (C2 := 27) (r := 1) fX8_16 rfl (by decide) (by decide) ⟨dX8_readNode_168, rfl⟩ ?_
    refine Ev.bipush ⟨dX8_readNode_171, rfl⟩ (inRd rfl) (by decide) ?_
    refine Ev.iload_n (q := 2) ⟨dX8_readNode_173, rfl⟩ rfl rfl ?_
    obtain ⟨c27, h⟩ := ckR_s h
    refine Ev.iadd ⟨dX8_readNode_174, rfl⟩ c27 ?_
    refine Ev.iload_n (q := 3) ⟨dX8_readNode_175, rfl⟩ rfl rfl ?_
    obtain ⟨c28, h⟩ := ckI_s h
    obtain ⟨x29, ex, h⟩ := bnd_s h
    refine Ev.iastore (by decide) c28.1 c28.2 ⟨dX8_readNode_176, rfl⟩ ?_
    refine Ev.cast ?_ rfl rfl (hqI ex)
    clear ex
    refine Ev.aload_n (q := 0) ⟨dX8_readNode_177, rfl⟩ rfl rfl ?_
    refine Ev.getRk (C2 := 27) (r := 1) fX8_16 rfl (by decide) (by decide) ⟨dX8_readNode_178, rfl⟩ ?_
    refine Ev.bipush ⟨dX8_readNode_181, rfl⟩ (inRd rfl) (by decide) ?_
    refine Ev.iload_n (q := 2) ⟨dX8_readNode_183, rfl⟩ rfl rfl ?_
    obtain ⟨c30, h⟩ := ckR_s h
    refine Ev.iadd ⟨dX8_readNode_184, rfl⟩ c30 ?_
    refine Ev.iload (q := 4) ⟨dX8_readNode_185, rfl⟩ rfl ?_
    obtain ⟨c31, h⟩ := ckI_s h
    obtain ⟨x32, ex, h⟩ := bnd_s h
    refine Ev.iastore (by decide) c31.1 c31.2 ⟨dX8_readNode_187, rfl⟩ ?_
    refine Ev.cast ?_ rfl rfl (hqI ex)
    clear ex
    refine Ev.aload_n (q := 0) ⟨dX8_readNode_188, rfl⟩ rfl rfl ?_
    refine Ev.getRk (C2 := 27) (r := 1) fX8_16 rfl (by decide) (by decide) ⟨dX8_readNode_189, rfl⟩ ?_
    refine Ev.sipush ⟨dX8_readNode_192, rfl⟩ (inRd rfl) (by decide) ?_
    refine Ev.iload_n (q := 2) ⟨dX8_readNode_195, rfl⟩ rfl rfl ?_
    obtain ⟨c33, h⟩ := ckR_s h
    refine Ev.iadd ⟨dX8_readNode_196, rfl⟩ c33 ?_
    refine Ev.iload_n (q := 1) ⟨dX8_readNode_197, rfl⟩ rfl rfl ?_
    refine Ev.if_eq jX8_readNode_198 (fun hc => ?_) (fun hc => ?_)
    · replace h := (if_pos hc).symm.trans h; clear hc
      refine Ev.iconst ⟨dX8_readNode_205, rfl⟩ (inRd rfl) ?_
      refine Ev.keep [0, 2] rfl ?_
      exact e_X8_readNode_206 Θ D z _ _ _ _ _ _ _ h
    · replace h := (if_neg hc).symm.trans h; clear hc
      refine Ev.iconst ⟨dX8_readNode_201, rfl⟩ (inRd rfl) ?_
      refine Ev.goto jX8_readNode_202 ?_
      refine Ev.keep [0, 2] rfl ?_
      exact e_X8_readNode_206 Θ D z _ _ _ _ _ _ _ h

def F_X8_readNode_19 (z : Nat) (v0 : Nat) (v1 : Int) (v2 : Int) (u0 : Int) (u1 : Nat) (x : Mm) : Option (Mm) := (F_X8_begins z (u1) (u0) x).bind fun r3 => if r3.1 = 0 then (some (r3.2)) else ((F_X8_isGood z (v0) r3.2).bind fun r5 => if r5 = 0 then (F_X8_readNode_76 z (v0) (v1) (v2) r3.2) else (if (r3.2.1 8 v0 5) = (2 : Int) then (ckR ((v2 - (1 : Int))) <| (F_X8_in z ((r3.2.1 8 v0 6)) ((0 : Int)) ((v2 - (1 : Int))) r3.2).bind fun r45 => if r45 = 0 then (F_X8_readNode_76 z (v0) (v1) (v2) r3.2) else (ckR (((131 : Int) + (r3.2.1 8 v0 6))) <| ckI ((131 : Int) + (r3.2.1 8 v0 6)) 5366 <| if (r3.2.1 27 1 (((131 : Int) + (r3.2.1 8 v0 6))).toNat) = (1 : Int) then ((F_X8_fail z (v0) r3.2).bind fun r49 => F_X8_readNode_76 z (v0) (v1) (v2) r49) else (F_X8_readNode_76 z (v0) (v1) (v2) r3.2))) else (F_X8_readNode_76 z (v0) (v1) (v2) r3.2)))
set_option maxHeartbeats 4000000 in
set_option maxRecDepth 20000 in
theorem e_X8_readNode_19 (Θ : GC) (D : Nat → Nat → Prop) (z : Nat) (v0 : Nat) (v1 : Int) (v2 : Int) (u0 : Int) (u1 : Nat) (x : Mm) (y) (h : F_X8_readNode_19 z v0 v1 v2 u0 u1 x = some y) : Ev Θ mX8_readNode 3 67 0 0 19 [(0, vr 8 (v0 + 1)), (1, vi (v1)), (2, vi (v2))] [vi (u0), vr 8 (u1 + 1)] (hq D x) (RetN (hq D y)) := by
  unfold F_X8_readNode_19 at h
  obtain ⟨r3, hv2, h⟩ := bnd_s h
  refine Ev.callV1 (mc1 := 0) (ms1 := 0) (v := vi r3.1) (h1 := hq D r3.2) vX8_109 (c_X8_begins Θ D z _ _ _ _ hv2) rfl rfl (by decide) rfl ⟨by decide, by decide, Nat.le_of_eq (Nat.zero_add _), Nat.le_of_eq (Nat.zero_add _), Nat.le_of_ble_eq_true rfl⟩ ⟨dX8_readNode_19, rfl⟩ ?_
  clear hv2
  refine Ev.if_ne jX8_readNode_22 (fun hc => ?_) (fun hc => ?_)
  · replace h := (if_neg hc).symm.trans h; clear hc
    refine Ev.aload_n (q := 0) ⟨dX8_readNode_26, rfl⟩ rfl rfl ?_
    obtain ⟨r5, hv4, h⟩ := bnd_s h
    refine Ev.callV1 (mc1 := 0) (ms1 := 0) (v := vi r5) (h1 := hq D r3.2) vX8_90 (c_X8_isGood Θ D z _ _ _ hv4) rfl rfl (by decide) rfl ⟨by decide, by decide, Nat.le_of_eq (Nat.zero_add _), Nat.le_of_eq (Nat.zero_add _), Nat.le_of_ble_eq_true rfl⟩ ⟨dX8_readNode_27, rfl⟩ ?_
    clear hv4
    refine Ev.if_eq jX8_readNode_30 (fun hc => ?_) (fun hc => ?_)
    · replace h := (if_pos hc).symm.trans h; clear hc
      exact e_X8_readNode_76 Θ D z _ _ _ _ _ h
    · replace h := (if_neg hc).symm.trans h; clear hc
      refine Ev.aload_n (q := 0) ⟨dX8_readNode_33, rfl⟩ rfl rfl ?_
      refine Ev.getI fX8_74 (Or.inl rfl) ⟨dX8_readNode_34, rfl⟩ ?_
      refine Ev.iconst ⟨dX8_readNode_37, rfl⟩ (inRd rfl) ?_
      refine Ev.icmp_ne jX8_readNode_38 (fun hc => ?_) (fun hc => ?_)
      · replace h := (if_neg hc).symm.trans h; clear hc
        exact e_X8_readNode_76 Θ D z _ _ _ _ _ h
      · replace h := (if_pos hc).symm.trans h; clear hc
        refine Ev.aload_n (q := 0) ⟨dX8_readNode_41, rfl⟩ rfl rfl ?_
        refine Ev.getI fX8_77 (Or.inl rfl) ⟨dX8_readNode_42, rfl⟩ ?_
        refine Ev.iconst ⟨dX8_readNode_45, rfl⟩ (inRd rfl) ?_
        refine Ev.iload_n (q := 2) ⟨dX8_readNode_46, rfl⟩ rfl rfl ?_
        refine Ev.iconst ⟨dX8_readNode_47, rfl⟩ (inRd rfl) ?_
        obtain ⟨c43, h⟩ := ckR_s h
        refine Ev.isub ⟨dX8_readNode_48, rfl⟩ c43 ?_
        obtain ⟨r45, hv44, h⟩ := bnd_s h
        refine Ev.callS1 (mc1 := 0) (ms1 := 0) (v := vi r45) (h1 := hq D r3.2) sX8_53 (c_X8_in Θ D z _ _ _ _ _ hv44) rfl rfl ⟨by decide, by decide, Nat.le_of_eq (Nat.zero_add _), Nat.le_of_eq (Nat.zero_add _), Nat.le_of_ble_eq_true rfl⟩ ⟨dX8_readNode_49, rfl⟩ ?_
        clear hv44
        refine Ev.if_eq jX8_readNode_52 (fun hc => ?_) (fun hc => ?_)
        · replace h := (if_pos hc).symm.trans h; clear hc
          exact e_X8_readNode_76 Θ D z _ _ _ _ _ h
        · replace h := (if_neg hc).symm.trans h; clear hc
          refine Ev.aload_n (q := 0) ⟨dX8_readNode_55, rfl⟩ rfl rfl ?_
          refine Ev.getRk (C2 := 27) (r := 1) fX8_16 rfl (by decide) (by decide) ⟨dX8_readNode_56, rfl⟩ ?_
          refine Ev.sipush ⟨dX8_readNode_59, rfl⟩ (inRd rfl) (by decide) ?_
          refine Ev.aload_n (q := 0) ⟨dX8_readNode_62, rfl⟩ rfl rfl ?_
          refine Ev.getI fX8_77 (Or.inl rfl) ⟨dX8_readNode_63, rfl⟩ ?_
          obtain ⟨c46, h⟩ := ckR_s h
          refine Ev.iadd ⟨dX8_readNode_66, rfl⟩ c46 ?_
          obtain ⟨c47, h⟩ := ckI_s h
          refine Ev.iaload (by decide) c47.1 c47.2 ⟨dX8_readNode_67, rfl⟩ ?_
          refine Ev.iconst ⟨dX8_readNode_68, rfl⟩ (inRd rfl) ?_
          refine Ev.icmp_ne jX8_readNode_69 (fun hc => ?_) (fun hc => ?_)
          · replace h := (if_neg hc).symm.trans h; clear hc
            exact e_X8_readNode_76 Θ D z _ _ _ _ _ h
          · replace h := (if_pos hc).symm.trans h; clear hc
            refine Ev.aload_n (q := 0) ⟨dX8_readNode_72, rfl⟩ rfl rfl ?_
            obtain ⟨r49, hv48, h⟩ := bnd_s h
            refine Ev.callVN (mc1 := 0) (ms1 := 0) (h1 := hq D r49) vX8_103 (c_X8_fail Θ D z _ _ _ hv48) rfl rfl (by decide) rfl ⟨by decide, by decide, Nat.le_of_eq (Nat.zero_add _), Nat.le_of_eq (Nat.zero_add _), Nat.le_of_ble_eq_true rfl⟩ ⟨dX8_readNode_73, rfl⟩ ?_
            clear hv48
            exact e_X8_readNode_76 Θ D z _ _ _ _ _ h
  · replace h := (if_pos hc).symm.trans h; clear hc
    obtain rfl := Option.some.inj h
    exact Ev.ret ⟨dX8_readNode_25, rfl⟩ rfl ⟨rfl, rfl⟩
def F_X8_readNode (z : Nat) (v0 : Nat) (v1 : Int) (x : Mm) : Option (Mm) := ckI (3 : Int) 5366 <| if (x.1 27 1 ((3 : Int)).toNat) = (60 : Int) then (F_X8_readNode_19 z (v0) (v1) ((x.1 27 1 ((3 : Int)).toNat)) ((1 : Int)) (v0) x) else (F_X8_readNode_19 z (v0) (v1) ((x.1 27 1 ((3 : Int)).toNat)) ((0 : Int)) (v0) x)
set_option maxHeartbeats 4000000 in
set_option maxRecDepth 20000 in
theorem c_X8_readNode (Θ : GC) (D : Nat → Nat → Prop) (z : Nat) (v0 : Nat) (v1 : Int) (x : Mm) (y) (h : F_X8_readNode z v0 v1 x = some y) : Cal Θ mX8_readNode 3 67 0 0 [vr 8 (v0 + 1), vi (v1)] (hq D x) (RetN (hq D y)) := by
  refine Cal.of (by decide +kernel) rfl rfl (Nat.le_of_ble_eq_true rfl) ?_
  show Ev Θ mX8_readNode 3 67 0 0 0 [(0, vr 8 (v0 + 1)), (1, vi (v1))] [] (hq D x) (RetN (hq D y))
  unfold F_X8_readNode at h
  refine Ev.aload_n (q := 0) ⟨dX8_readNode_0, rfl⟩ rfl rfl ?_
  refine Ev.getRk (C2 := 27) (r := 1) fX8_16 rfl (by decide) (by decide) ⟨dX8_readNode_1, rfl⟩ ?_
  refine Ev.iconst ⟨dX8_readNode_4, rfl⟩ (inRd rfl) ?_
  obtain ⟨c1, h⟩ := ckI_s h
  refine Ev.iaload (by decide) c1.1 c1.2 ⟨dX8_readNode_5, rfl⟩ ?_
  refine Ev.istore_n (i := 2) (ls' := [(0, _), (1, _), (2, _)]) ⟨dX8_readNode_6, rfl⟩ rfl (by decide) rfl ?_
  refine Ev.aload_n (q := 0) ⟨dX8_readNode_7, rfl⟩ rfl rfl ?_
  refine Ev.iload_n (q := 2) ⟨dX8_readNode_8, rfl⟩ rfl rfl ?_
  refine Ev.bipush ⟨dX8_readNode_9, rfl⟩ (inRd rfl) (by decide) ?_
  refine Ev.icmp_ne jX8_readNode_11 (fun hc => ?_) (fun hc => ?_)
  · replace h := (if_neg hc).symm.trans h; clear hc
    refine Ev.iconst ⟨dX8_readNode_18, rfl⟩ (inRd rfl) ?_
    exact e_X8_readNode_19 Θ D z _ _ _ _ _ _ _ h
  · replace h := (if_pos hc).symm.trans h; clear hc
    refine Ev.iconst ⟨dX8_readNode_14, rfl⟩ (inRd rfl) ?_
    refine Ev.goto jX8_readNode_15 ?_
    exact e_X8_readNode_19 Θ D z _ _ _ _ _ _ _ h

def F_X8_readValue_101 (z : Nat) (v0 : Nat) (v1 : Int) (v2 : Int) (v3 : Int) (x : Mm) : Option (Mm) := (F_X8_takeNumber z (v0) ((0 : Int)) ((1000000 : Int)) x).bind fun r16 => (F_X8_isGood z (v0) r16.2).bind fun r18 => if r18 = 0 then (some (r16.2)) else (ckR (((6 : Int) * v1)) <| ckR (((251 : Int) + ((6 : Int) * v1))) <| ckR ((((251 : Int) + ((6 : Int) * v1)) + v2)) <| if v3 = 0 then (ckI (((251 : Int) + ((6 : Int) * v1)) + v2) 5366 <| (some (wI r16.2 27 1 ((((251 : Int) + ((6 : Int) * v1)) + v2)).toNat (r16.1))).bind fun x23 => some (x23)) else (ckR ((-r16.1)) <| ckI (((251 : Int) + ((6 : Int) * v1)) + v2) 5366 <| (some (wI r16.2 27 1 ((((251 : Int) + ((6 : Int) * v1)) + v2)).toNat ((-r16.1)))).bind fun x26 => some (x26)))
set_option maxHeartbeats 4000000 in
set_option maxRecDepth 20000 in
theorem e_X8_readValue_101 (Θ : GC) (D : Nat → Nat → Prop) (z : Nat) (v0 : Nat) (v1 : Int) (v2 : Int) (v3 : Int) (x : Mm) (y) (h : F_X8_readValue_101 z v0 v1 v2 v3 x = some y) : Ev Θ mX8_readValue 3 67 0 0 101 [(0, vr 8 (v0 + 1)), (1, vi (v1)), (2, vi (v2)), (3, vi (v3))] [] (hq D x) (RetN (hq D y)) := by
  unfold F_X8_readValue_101 at h
  refine Ev.aload_n (q := 0) ⟨dX8_readValue_101, rfl⟩ rfl rfl ?_
  refine Ev.iconst ⟨dX8_readValue_102, rfl⟩ (inRd rfl) ?_
  refine Ev.ldc (n := 1000000) ⟨dX8_readValue_103, rfl⟩ (inRd rfl) wX8_135 ?_
  obtain ⟨r16, hv15, h⟩ := bnd_s h
  refine Ev.callV1 (mc1 := 0) (ms1 := 0) (v := vi r16.1) (h1 := hq D r16.2) vX8_128 (c_X8_takeNumber Θ D z _ _ _ _ _ hv15) rfl rfl (by decide) rfl ⟨by decide, by decide, Nat.le_of_eq (Nat.zero_add _), Nat.le_of_eq (Nat.zero_add _), Nat.le_of_ble_eq_true rfl⟩ ⟨dX8_readValue_105, rfl⟩ ?_
  clear hv15
  refine Ev.istore (i := 4) (ls' := [(0, _), (1, _), (2, _), (3, _), (4, _)]) ⟨dX8_readValue_108, rfl⟩ (by decide) rfl ?_
  refine Ev.aload_n (q := 0) ⟨dX8_readValue_110, rfl⟩ rfl rfl ?_
  obtain ⟨r18, hv17, h⟩ := bnd_s h
  refine Ev.callV1 (mc1 := 0) (ms1 := 0) (v := vi r18) (h1 := hq D r16.2) vX8_90 (c_X8_isGood Θ D z _ _ _ hv17) rfl rfl (by decide) rfl ⟨by decide, by decide, Nat.le_of_eq (Nat.zero_add _), Nat.le_of_eq (Nat.zero_add _), Nat.le_of_ble_eq_true rfl⟩ ⟨dX8_readValue_111, rfl⟩ ?_
  clear hv17
  refine Ev.if_eq jX8_readValue_114 (fun hc => ?_) (fun hc => ?_)
  · replace h := (if_pos hc).symm.trans h; clear hc
    obtain rfl := Option.some.inj h
    exact Ev.ret ⟨dX8_readValue_144, rfl⟩ rfl ⟨rfl, rfl⟩
  · replace h := (if_neg hc).symm.trans h; clear hc
    refine Ev.aload_n (q := 0) ⟨dX8_readValue_117, rfl⟩ rfl rfl ?_
    refine Ev.getRk (C2 := 27) (r := 1) fX8_16 rfl (by decide) (by decide) ⟨dX8_readValue_118, rfl⟩ ?_
    refine Ev.sipush ⟨dX8_readValue_121, rfl⟩ (inRd rfl) (by decide) ?_
    refine Ev.bipush ⟨dX8_readValue_124, rfl⟩ (inRd rfl) (by decide) ?_
    refine Ev.iload_n (q := 1) ⟨dX8_readValue_126, rfl⟩ rfl rfl ?_
    obtain ⟨c19, h⟩ := ckR_s h
    refine Ev.imul ⟨dX8_readValue_127, rfl⟩ c19 ?_
    obtain ⟨c20, h⟩ := ckR_s h
    refine Ev.iadd ⟨dX8_readValue_128, rfl⟩ c20 ?_
    refine Ev.iload_n (q := 2) ⟨dX8_readValue_129, rfl⟩ rfl rfl ?_
    obtain ⟨c21, h⟩ := ckR_s h
    refine Ev.iadd ⟨dX8_readValue_130, rfl⟩ c21 ?_
    refine Ev.iload_n (q := 3) ⟨dX8_readValue_131, rfl⟩ rfl rfl ?_
    refine Ev.if_eq jX8_readValue_132 (fun hc => ?_) (fun hc => ?_)
    · replace h := (if_pos hc).symm.trans h; clear hc
      refine Ev.iload (q := 4) ⟨dX8_readValue_141, rfl⟩ rfl ?_
      obtain ⟨c22, h⟩ := ckI_s h
      obtain ⟨x23, ex, h⟩ := bnd_s h
      refine Ev.iastore (by decide) c22.1 c22.2 ⟨dX8_readValue_143, rfl⟩ ?_
      refine Ev.cast ?_ rfl rfl (hqI ex)
      clear ex
      obtain rfl := Option.some.inj h
      exact Ev.ret ⟨dX8_readValue_144, rfl⟩ rfl ⟨rfl, rfl⟩
    · replace h := (if_neg hc).symm.trans h; clear hc
      refine Ev.iload (q := 4) ⟨dX8_readValue_135, rfl⟩ rfl ?_
      obtain ⟨c24, h⟩ := ckR_s h
      refine Ev.ineg ⟨dX8_readValue_137, rfl⟩ c24 ?_
      refine Ev.goto jX8_readValue_138 ?_
      obtain ⟨c25, h⟩ := ckI_s h
      obtain ⟨x26, ex, h⟩ := bnd_s h
      refine Ev.iastore (by decide) c25.1 c25.2 ⟨dX8_readValue_143, rfl⟩ ?_
      refine Ev.cast ?_ rfl rfl (hqI ex)
      clear ex
      obtain rfl := Option.some.inj h
      exact Ev.ret ⟨dX8_readValue_144, rfl⟩ rfl ⟨rfl, rfl⟩

def F_X8_readValue_58 (z : Nat) (v0 : Nat) (x : Mm) : Option (Mm) := ckI (3 : Int) 5366 <| ckR (((x.1 27 1 ((3 : Int)).toNat) - (1 : Int))) <| (F_X8_takeNumber z (v0) ((0 : Int)) (((x.1 27 1 ((3 : Int)).toNat) - (1 : Int))) x).bind fun r8 => ckI (1 : Int) 5366 <| ckR (((r8.2.1 27 1 ((1 : Int)).toNat) - (1 : Int))) <| (F_X8_takeNumber z (v0) ((0 : Int)) (((r8.2.1 27 1 ((1 : Int)).toNat) - (1 : Int))) r8.2).bind fun r12 => (F_X8_isSign z (v0) ((45 : Int)) r12.2).bind fun r14 => if r14 = 0 then (F_X8_readValue_101 z (v0) (r8.1) (r12.1) (r14) r12.2) else ((F_X8_step z (v0) r12.2).bind fun r28 => F_X8_readValue_101 z (v0) (r8.1) (r12.1) (r14) r28)
set_option maxHeartbeats 4000000 in
set_option maxRecDepth 20000 in
theorem e_X8_readValue_58 (Θ : GC) (D : Nat → Nat → Prop) (z : Nat) (v0 : Nat) (x : Mm) (y) (h : F_X8_readValue_58 z v0 x = some y) : Ev Θ mX8_readValue 3 67 0 0 58 [(0, vr 8 (v0 + 1))] [] (hq D x) (RetN (hq D y)) := by
  unfold F_X8_readValue_58 at h
  refine Ev.aload_n (q := 0) ⟨dX8_readValue_58, rfl⟩ rfl rfl ?_
  refine Ev.iconst ⟨dX8_readValue_59, rfl⟩ (inRd rfl) ?_
  refine Ev.aload_n (q := 0) ⟨dX8_readValue_60, rfl⟩ rfl rfl ?_
  refine Ev.getRk (C2 := 27) (r := 1) fX8_16 rfl (by decide) (by decide) ⟨dX8_readValue_61, rfl⟩ ?_
  refine Ev.iconst ⟨dX8_readValue_64, rfl⟩ (inRd rfl) ?_
  obtain ⟨c5, h⟩ := ckI_s h
  refine Ev.iaload (by decide) c5.1 c5.2 ⟨dX8_readValue_65, rfl⟩ ?_
  refine Ev.iconst ⟨dX8_readValue_66, rfl⟩ (inRd rfl) ?_
  obtain ⟨c6, h⟩ := ckR_s h
  refine Ev.isub ⟨dX8_readValue_67, rfl⟩ c6 ?_
  obtain ⟨r8, hv7, h⟩ := bnd_s h
  refine Ev.callV1 (mc1 := 0) (ms1 := 0) (v := vi r8.1) (h1 := hq D r8.2) vX8_128 (c_X8_takeNumber Θ D z _ _ _ _ _ hv7) rfl rfl (by decide) rfl ⟨by decide, by decide, Nat.le_of_eq (Nat.zero_add _), Nat.le_of_eq (Nat.zero_add _), Nat.le_of_ble_eq_true rfl⟩ ⟨dX8_readValue_68, rfl⟩ ?_
  clear hv7
  refine Ev.istore_n (i := 1) (ls' := [(0, _), (1, _)]) ⟨dX8_readValue_71, rfl⟩ rfl (by decide) rfl ?_
  refine Ev.aload_n (q := 0) ⟨dX8_readValue_72, rfl⟩ rfl rfl ?_
  refine Ev.iconst ⟨dX8_readValue_73, rfl⟩ (inRd rfl) ?_
  refine Ev.aload_n (q := 0) ⟨dX8_readValue_74, rfl⟩ rfl rfl ?_
  refine Ev.getRk (C2 := 27) (r := 1) fX8_16 rfl (by decide) (by decide) ⟨dX8_readValue_75, rfl⟩ ?_
  refine Ev.iconst ⟨dX8_readValue_78, rfl⟩ (inRd rfl) ?_
  obtain ⟨c9, h⟩ := ckI_s h
  refine Ev.iaload (by decide) c9.1 c9.2 ⟨dX8_readValue_79, rfl⟩ ?_
  refine Ev.iconst ⟨dX8_readValue_80, rfl⟩ (inRd rfl) ?_
  obtain ⟨c10, h⟩ := ckR_s h
  refine Ev.isub ⟨dX8_readValue_81, rfl⟩ c10 ?_
  obtain ⟨r12, hv11, h⟩ := bnd_s h
  refine Ev.callV1 (mc1 := 0) (ms1 := 0) (v := vi r12.1) (h1 := hq D r12.2) vX8_128 (c_X8_takeNumber Θ D z _ _ _ _ _ hv11) rfl rfl (by decide) rfl ⟨by decide, by decide, Nat.le_of_eq (Nat.zero_add _), Nat.le_of_eq (Nat.zero_add _), Nat.le_of_ble_eq_true rfl⟩ ⟨dX8_readValue_82, rfl⟩ ?_
  clear hv11
  refine Ev.istore_n (i := 2) (ls' := [(0, _), (1, _), (2, _)]) ⟨dX8_readValue_85, rfl⟩ rfl (by decide) rfl ?_
  refine Ev.aload_n (q := 0) ⟨dX8_readValue_86, rfl⟩ rfl rfl ?_
  refine Ev.bipush ⟨dX8_readValue_87, rfl⟩ (inRd rfl) (by decide) ?_
  obtain ⟨r14, hv13, h⟩ := bnd_s h
  refine Ev.callV1 (mc1 := 0) (ms1 := 0) (v := vi r14) (h1 := hq D r12.2) vX8_131 (c_X8_isSign Θ D z _ _ _ _ hv13) rfl rfl (by decide) rfl ⟨by decide, by decide, Nat.le_of_eq (Nat.zero_add _), Nat.le_of_eq (Nat.zero_add _), Nat.le_of_ble_eq_true rfl⟩ ⟨dX8_readValue_89, rfl⟩ ?_
  clear hv13
  refine Ev.istore_n (i := 3) (ls' := [(0, _), (1, _), (2, _), (3, _)]) ⟨dX8_readValue_92, rfl⟩ rfl (by decide) rfl ?_
  refine Ev.iload_n (q := 3) ⟨dX8_readValue_93, rfl⟩ rfl rfl ?_
  refine Ev.if_eq jX8_readValue_94 (fun hc => ?_) (fun hc => ?_)
  · replace h := (if_pos hc).symm.trans h; clear hc
    exact e_X8_readValue_101 Θ D z _ _ _ _ _ _ h
  · replace h := (if_neg hc).symm.trans h; clear hc
    refine Ev.aload_n (q := 0) ⟨dX8_readValue_97, rfl⟩ rfl rfl ?_
    obtain ⟨r28, hv27, h⟩ := bnd_s h
    refine Ev.callVN (mc1 := 0) (ms1 := 0) (h1 := hq D r28) vX8_106 (c_X8_step Θ D z _ _ _ hv27) rfl rfl (by decide) rfl ⟨by decide, by decide, Nat.le_of_eq (Nat.zero_add _), Nat.le_of_eq (Nat.zero_add _), Nat.le_of_ble_eq_true rfl⟩ ⟨dX8_readValue_98, rfl⟩ ?_
    clear hv27
    exact e_X8_readValue_101 Θ D z _ _ _ _ _ _ h
def F_X8_readValue (z : Nat) (v0 : Nat) (x : Mm) : Option (Mm) := (F_X8_step z (v0) x).bind fun r2 => (F_X8_isGood z (v0) r2).bind fun r4 => if r4 = 0 then (F_X8_readValue_58 z (v0) r2) else (if (r2.1 8 v0 5) = (2 : Int) then (ckI (3 : Int) 5366 <| ckR (((r2.1 27 1 ((3 : Int)).toNat) - (1 : Int))) <| (F_X8_in z ((r2.1 8 v0 6)) ((0 : Int)) (((r2.1 27 1 ((3 : Int)).toNat) - (1 : Int))) r2).bind fun r32 => if r32 = 0 then (F_X8_readValue_58 z (v0) r2) else (ckR (((131 : Int) + (r2.1 8 v0 6))) <| ckI ((131 : Int) + (r2.1 8 v0 6)) 5366 <| if (r2.1 27 1 (((131 : Int) + (r2.1 8 v0 6))).toNat) = 0 then ((F_X8_fail z (v0) r2).bind fun r36 => F_X8_readValue_58 z (v0) r36) else (F_X8_readValue_58 z (v0) r2))) else (F_X8_readValue_58 z (v0) r2))
set_option maxHeartbeats 4000000 in
set_option maxRecDepth 20000 in
theorem c_X8_readValue (Θ : GC) (D : Nat → Nat → Prop) (z : Nat) (v0 : Nat) (x : Mm) (y) (h : F_X8_readValue z v0 x = some y) : Cal Θ mX8_readValue 3 67 0 0 [vr 8 (v0 + 1)] (hq D x) (RetN (hq D y)) := by
  refine Cal.of (by decide +kernel) rfl rfl (Nat.le_of_ble_eq_true rfl) ?_
  show Ev Θ mX8_readValue 3 67 0 0 0 [(0, vr 8 (v0 + 1))] [] (hq D x) (RetN (hq D y))
  unfold F_X8_readValue at h
  refine Ev.aload_n (q := 0) ⟨dX8_readValue_0, rfl⟩ rfl rfl ?_
  obtain ⟨r2, hv1, h⟩ := bnd_s h
  refine Ev.callVN (mc1 := 0) (ms1 := 0) (h1 := hq D r2) vX8_106 (c_X8_step Θ D z _ _ _ hv1) rfl rfl (by decide) rfl ⟨by decide, by decide, Nat.le_of_eq (Nat.zero_add _), Nat.le_of_eq (Nat.zero_add _), Nat.le_of_ble_eq_true rfl⟩ ⟨dX8_readValue_1, rfl⟩ ?_
  clear hv1
  refine Ev.aload_n (q := 0) ⟨dX8_readValue_4, rfl⟩ rfl rfl ?_
  obtain ⟨r4, hv3, h⟩ := bnd_s h
  refine Ev.callV1 (mc1 := 0) (ms1 := 0) (v := vi r4) (h1 := hq D r2) vX8_90 (c_X8_isGood Θ D z _ _ _ hv3) rfl rfl (by decide) rfl ⟨by decide, by decide, Nat.le_of_eq (Nat.zero_add _), Nat.le_of_eq (Nat.zero_add _), Nat.le_of_ble_eq_true rfl⟩ ⟨dX8_readValue_5, rfl⟩ ?_
  clear hv3
  refine Ev.if_eq jX8_readValue_8 (fun hc => ?_) (fun hc => ?_)
  · replace h := (if_pos hc).symm.trans h; clear hc
    exact e_X8_readValue_58 Θ D z _ _ _ h
  · replace h := (if_neg hc).symm.trans h; clear hc
    refine Ev.aload_n (q := 0) ⟨dX8_readValue_11, rfl⟩ rfl rfl ?_
    refine Ev.getI fX8_74 (Or.inl rfl) ⟨dX8_readValue_12, rfl⟩ ?_
    refine Ev.iconst ⟨dX8_readValue_15, rfl⟩ (inRd rfl) ?_
    refine Ev.icmp_ne jX8_readValue_16 (fun hc => ?_) (fun hc => ?_)
    · replace h := (if_neg hc).symm.trans h; clear hc
      exact e_X8_readValue_58 Θ D z _ _ _ h
    · replace h := (if_pos hc).symm.trans h; clear hc
      refine Ev.aload_n (q := 0) ⟨dX8_readValue_19, rfl⟩ rfl rfl ?_
      refine Ev.getI fX8_77 (Or.inl rfl) ⟨dX8_readValue_20, rfl⟩ ?_
      refine Ev.iconst ⟨dX8_readValue_23, rfl⟩ (inRd rfl) ?_
      refine Ev.aload_n (q := 0) ⟨dX8_readValue_24, rfl⟩ rfl rfl ?_
      refine Ev.getRk (C2 := 27) (r := 1) fX8_16 rfl (by decide) (by decide) ⟨dX8_readValue_25, rfl⟩ ?_
      refine Ev.iconst ⟨dX8_readValue_28, rfl⟩ (inRd rfl) ?_
      obtain ⟨c29, h⟩ := ckI_s h
      refine Ev.iaload (by decide) c29.1 c29.2 ⟨dX8_readValue_29, rfl⟩ ?_
      refine Ev.iconst ⟨dX8_readValue_30, rfl⟩ (inRd rfl) ?_
      obtain ⟨c30, h⟩ := ckR_s h
      refine Ev.isub ⟨dX8_readValue_31, rfl⟩ c30 ?_
      obtain ⟨r32, hv31, h⟩ := bnd_s h
      refine Ev.callS1 (mc1 := 0) (ms1 := 0) (v := vi r32) (h1 := hq D r2) sX8_53 (c_X8_in Θ D z _ _ _ _ _ hv31) rfl rfl ⟨by decide, by decide, Nat.le_of_eq (Nat.zero_add _), Nat.le_of_eq (Nat.zero_add _), Nat.le_of_ble_eq_true rfl⟩ ⟨dX8_readValue_32, rfl⟩ ?_
      clear hv31
      refine Ev.if_eq jX8_readValue_35 (fun hc => ?_) (fun hc => ?_)
      · replace h := (if_pos hc).symm.trans h; clear hc
        exact e_X8_readValue_58 Θ D z _ _ _ h
      · replace h := (if_neg hc).symm.trans h; clear hc
        refine Ev.aload_n (q := 0) ⟨dX8_readValue_38, rfl⟩ rfl rfl ?_
        refine Ev.getRk (C2 := 27) (r := 1) fX8_16 rfl (by decide) (by decide) ⟨dX8_readValue_39, rfl⟩ ?_
        refine Ev.sipush ⟨dX8_readValue_42, rfl⟩ (inRd rfl) (by decide) ?_
        refine Ev.aload_n (q := 0) ⟨dX8_readValue_45, rfl⟩ rfl rfl ?_
        refine Ev.getI fX8_77 (Or.inl rfl) ⟨dX8_readValue_46, rfl⟩ ?_
        obtain ⟨c33, h⟩ := ckR_s h
        refine Ev.iadd ⟨dX8_readValue_49, rfl⟩ c33 ?_
        obtain ⟨c34, h⟩ := ckI_s h
        refine Ev.iaload (by decide) c34.1 c34.2 ⟨dX8_readValue_50, rfl⟩ ?_
        refine Ev.if_ne jX8_readValue_51 (fun hc => ?_) (fun hc => ?_)
        · replace h := (if_neg hc).symm.trans h; clear hc
          exact e_X8_readValue_58 Θ D z _ _ _ h
        · replace h := (if_pos hc).symm.trans h; clear hc
          refine Ev.aload_n (q := 0) ⟨dX8_readValue_54, rfl⟩ rfl rfl ?_
          obtain ⟨r36, hv35, h⟩ := bnd_s h
          refine Ev.callVN (mc1 := 0) (ms1 := 0) (h1 := hq D r36) vX8_103 (c_X8_fail Θ D z _ _ _ hv35) rfl rfl (by decide) rfl ⟨by decide, by decide, Nat.le_of_eq (Nat.zero_add _), Nat.le_of_eq (Nat.zero_add _), Nat.le_of_ble_eq_true rfl⟩ ⟨dX8_readValue_55, rfl⟩ ?_
          clear hv35
          exact e_X8_readValue_58 Θ D z _ _ _ h

def F_X8_readStatement_41 (z : Nat) (v0 : Nat) (u0 : Int) (u1 : Nat) (x : Mm) : Option (Mm) := (F_X8_begins z (u1) (u0) x).bind fun r21 => if r21.1 = 0 then (some (r21.2)) else (ckI (2 : Int) 5366 <| ckR (((r21.2.1 27 1 ((2 : Int)).toNat) + (1 : Int))) <| ckI (2 : Int) 5366 <| (some (wI r21.2 27 1 ((2 : Int)).toNat (((r21.2.1 27 1 ((2 : Int)).toNat) + (1 : Int))))).bind fun x25 => some (x25))
set_option maxHeartbeats 4000000 in
set_option maxRecDepth 20000 in
theorem e_X8_readStatement_41 (Θ : GC) (D : Nat → Nat → Prop) (z : Nat) (v0 : Nat) (u0 : Int) (u1 : Nat) (x : Mm) (y) (h : F_X8_readStatement_41 z v0 u0 u1 x = some y) : Ev Θ mX8_readStatement 6 129 0 0 41 [(0, vr 8 (v0 + 1))] [vi (u0), vr 8 (u1 + 1)] (hq D x) (RetN (hq D y)) := by
  unfold F_X8_readStatement_41 at h
  obtain ⟨r21, hv20, h⟩ := bnd_s h
  refine Ev.callV1 (mc1 := 0) (ms1 := 0) (v := vi r21.1) (h1 := hq D r21.2) vX8_109 (c_X8_begins Θ D z _ _ _ _ hv20) rfl rfl (by decide) rfl ⟨by decide, by decide, Nat.le_of_eq (Nat.zero_add _), Nat.le_of_eq (Nat.zero_add _), Nat.le_of_ble_eq_true rfl⟩ ⟨dX8_readStatement_41, rfl⟩ ?_
  clear hv20
  refine Ev.if_eq jX8_readStatement_44 (fun hc => ?_) (fun hc => ?_)
  · replace h := (if_pos hc).symm.trans h; clear hc
    obtain rfl := Option.some.inj h
    exact Ev.ret ⟨dX8_readStatement_114, rfl⟩ rfl ⟨rfl, rfl⟩
  · replace h := (if_neg hc).symm.trans h; clear hc
    refine Ev.aload_n (q := 0) ⟨dX8_readStatement_47, rfl⟩ rfl rfl ?_
    refine Ev.getRk (C2 := 27) (r := 1) fX8_16 rfl (by decide) (by decide) ⟨dX8_readStatement_48, rfl⟩ ?_
    refine Ev.iconst ⟨dX8_readStatement_51, rfl⟩ (inRd rfl) ?_
    refine Ev.dup2 ⟨dX8_readStatement_52, rfl⟩ rfl rfl ?_
    obtain ⟨c22, h⟩ := ckI_s h
    refine Ev.iaload (by decide) c22.1 c22.2 ⟨dX8_readStatement_53, rfl⟩ ?_
    refine Ev.iconst ⟨dX8_readStatement_54, rfl⟩ (inRd rfl) ?_
    obtain ⟨c23, h⟩ := ckR_s h
    refine Ev.iadd ⟨dX8_readStatement_55, rfl⟩ c23 ?_
    obtain ⟨c24, h⟩ := ckI_s h
    obtain ⟨x25, ex, h⟩ := bnd_s h
    refine Ev.iastore (by decide) c24.1 c24.2 ⟨dX8_readStatement_56, rfl⟩ ?_
    refine Ev.cast ?_ rfl rfl (hqI ex)
    clear ex
    refine Ev.goto jX8_readStatement_57 ?_
    obtain rfl := Option.some.inj h
    exact Ev.ret ⟨dX8_readStatement_114, rfl⟩ rfl ⟨rfl, rfl⟩
def F_X8_readStatement (z : Nat) (v0 : Nat) (x : Mm) : Option (Mm) := (F_X8_isWord z (v0) (11) x).bind fun r2 => if r2 = 0 then ((F_X8_isWord z (v0) (18) x).bind fun r4 => if r4 = 0 then ((F_X8_isWord z (v0) (19) x).bind fun r6 => if r6 = 0 then ((F_X8_isWord z (v0) (20) x).bind fun r8 => if r8 = 0 then ((F_X8_isWord z (v0) (21) x).bind fun r10 => if r10 = 0 then ((F_X8_fail z (v0) x).bind fun r12 => some (r12)) else ((F_X8_readValue z (v0) x).bind fun r14 => some (r14))) else ((F_X8_readNode z (v0) ((1 : Int)) x).bind fun r16 => some (r16))) else ((F_X8_readNode z (v0) ((0 : Int)) x).bind fun r18 => some (r18))) else (ckI (2 : Int) 5366 <| if (x.1 27 1 ((2 : Int)).toNat) = (5 : Int) then (F_X8_readStatement_41 z (v0) ((1 : Int)) (v0) x) else (F_X8_readStatement_41 z (v0) ((0 : Int)) (v0) x))) else ((F_X8_readField z (v0) x).bind fun r27 => some (r27))
set_option maxHeartbeats 4000000 in
set_option maxRecDepth 20000 in
theorem c_X8_readStatement (Θ : GC) (D : Nat → Nat → Prop) (z : Nat) (v0 : Nat) (x : Mm) (y) (h : F_X8_readStatement z v0 x = some y) : Cal Θ mX8_readStatement 6 129 0 0 [vr 8 (v0 + 1)] (hq D x) (RetN (hq D y)) := by
  refine Cal.of (by decide +kernel) rfl rfl (Nat.le_of_ble_eq_true rfl) ?_
  show Ev Θ mX8_readStatement 6 129 0 0 0 [(0, vr 8 (v0 + 1))] [] (hq D x) (RetN (hq D y))
  unfold F_X8_readStatement at h
  refine Ev.aload_n (q := 0) ⟨dX8_readStatement_0, rfl⟩ rfl rfl ?_
  refine Ev.ldcT (k := 11) (tx := "field") (by decide) ⟨dX8_readStatement_1, rfl⟩ ?_
  obtain ⟨r2, hv1, h⟩ := bnd_s h
  refine Ev.callV1 (mc1 := 0) (ms1 := 0) (v := vi r2) (h1 := hq D x) vX8_115 (c_X8_isWord Θ D z _ _ _ _ hv1) rfl rfl (by decide) rfl ⟨by decide, by decide, Nat.le_of_eq (Nat.zero_add _), Nat.le_of_eq (Nat.zero_add _), Nat.le_of_ble_eq_true rfl⟩ ⟨dX8_readStatement_3, rfl⟩ ?_
  clear hv1
  refine Ev.if_eq jX8_readStatement_6 (fun hc => ?_) (fun hc => ?_)
  · replace h := (if_pos hc).symm.trans h; clear hc
    refine Ev.aload_n (q := 0) ⟨dX8_readStatement_16, rfl⟩ rfl rfl ?_
    refine Ev.ldcT (k := 18) (tx := "client") (by decide) ⟨dX8_readStatement_17, rfl⟩ ?_
    obtain ⟨r4, hv3, h⟩ := bnd_s h
    refine Ev.callV1 (mc1 := 0) (ms1 := 0) (v := vi r4) (h1 := hq D x) vX8_115 (c_X8_isWord Θ D z _ _ _ _ hv3) rfl rfl (by decide) rfl ⟨by decide, by decide, Nat.le_of_eq (Nat.zero_add _), Nat.le_of_eq (Nat.zero_add _), Nat.le_of_ble_eq_true rfl⟩ ⟨dX8_readStatement_19, rfl⟩ ?_
    clear hv3
    refine Ev.if_eq jX8_readStatement_22 (fun hc => ?_) (fun hc => ?_)
    · replace h := (if_pos hc).symm.trans h; clear hc
      refine Ev.aload_n (q := 0) ⟨dX8_readStatement_60, rfl⟩ rfl rfl ?_
      refine Ev.ldcT (k := 19) (tx := "dir") (by decide) ⟨dX8_readStatement_61, rfl⟩ ?_
      obtain ⟨r6, hv5, h⟩ := bnd_s h
      refine Ev.callV1 (mc1 := 0) (ms1 := 0) (v := vi r6) (h1 := hq D x) vX8_115 (c_X8_isWord Θ D z _ _ _ _ hv5) rfl rfl (by decide) rfl ⟨by decide, by decide, Nat.le_of_eq (Nat.zero_add _), Nat.le_of_eq (Nat.zero_add _), Nat.le_of_ble_eq_true rfl⟩ ⟨dX8_readStatement_63, rfl⟩ ?_
      clear hv5
      refine Ev.if_eq jX8_readStatement_66 (fun hc => ?_) (fun hc => ?_)
      · replace h := (if_pos hc).symm.trans h; clear hc
        refine Ev.aload_n (q := 0) ⟨dX8_readStatement_77, rfl⟩ rfl rfl ?_
        refine Ev.ldcT (k := 20) (tx := "record") (by decide) ⟨dX8_readStatement_78, rfl⟩ ?_
        obtain ⟨r8, hv7, h⟩ := bnd_s h
        refine Ev.callV1 (mc1 := 0) (ms1 := 0) (v := vi r8) (h1 := hq D x) vX8_115 (c_X8_isWord Θ D z _ _ _ _ hv7) rfl rfl (by decide) rfl ⟨by decide, by decide, Nat.le_of_eq (Nat.zero_add _), Nat.le_of_eq (Nat.zero_add _), Nat.le_of_ble_eq_true rfl⟩ ⟨dX8_readStatement_80, rfl⟩ ?_
        clear hv7
        refine Ev.if_eq jX8_readStatement_83 (fun hc => ?_) (fun hc => ?_)
        · replace h := (if_pos hc).symm.trans h; clear hc
          refine Ev.aload_n (q := 0) ⟨dX8_readStatement_94, rfl⟩ rfl rfl ?_
          refine Ev.ldcT (k := 21) (tx := "value") (by decide) ⟨dX8_readStatement_95, rfl⟩ ?_
          obtain ⟨r10, hv9, h⟩ := bnd_s h
          refine Ev.callV1 (mc1 := 0) (ms1 := 0) (v := vi r10) (h1 := hq D x) vX8_115 (c_X8_isWord Θ D z _ _ _ _ hv9) rfl rfl (by decide) rfl ⟨by decide, by decide, Nat.le_of_eq (Nat.zero_add _), Nat.le_of_eq (Nat.zero_add _), Nat.le_of_ble_eq_true rfl⟩ ⟨dX8_readStatement_97, rfl⟩ ?_
          clear hv9
          refine Ev.if_eq jX8_readStatement_100 (fun hc => ?_) (fun hc => ?_)
          · replace h := (if_pos hc).symm.trans h; clear hc
            refine Ev.aload_n (q := 0) ⟨dX8_readStatement_110, rfl⟩ rfl rfl ?_
            obtain ⟨r12, hv11, h⟩ := bnd_s h
            refine Ev.callVN (mc1 := 0) (ms1 := 0) (h1 := hq D r12) vX8_103 (c_X8_fail Θ D z _ _ _ hv11) rfl rfl (by decide) rfl ⟨by decide, by decide, Nat.le_of_eq (Nat.zero_add _), Nat.le_of_eq (Nat.zero_add _), Nat.le_of_ble_eq_true rfl⟩ ⟨dX8_readStatement_111, rfl⟩ ?_
            clear hv11
            obtain rfl := Option.some.inj h
            exact Ev.ret ⟨dX8_readStatement_114, rfl⟩ rfl ⟨rfl, rfl⟩
          · replace h := (if_neg hc).symm.trans h; clear hc
            refine Ev.aload_n (q := 0) ⟨dX8_readStatement_103, rfl⟩ rfl rfl ?_
            obtain ⟨r14, hv13, h⟩ := bnd_s h
            refine Ev.callVN (mc1 := 0) (ms1 := 0) (h1 := hq D r14) vX8_153 (c_X8_readValue Θ D z _ _ _ hv13) rfl rfl (by decide) rfl ⟨by decide, by decide, Nat.le_of_eq (Nat.zero_add _), Nat.le_of_eq (Nat.zero_add _), Nat.le_of_ble_eq_true rfl⟩ ⟨dX8_readStatement_104, rfl⟩ ?_
            clear hv13
            refine Ev.goto jX8_readStatement_107 ?_
            obtain rfl := Option.some.inj h
            exact Ev.ret ⟨dX8_readStatement_114, rfl⟩ rfl ⟨rfl, rfl⟩
        · replace h := (if_neg hc).symm.trans h; clear hc
          refine Ev.aload_n (q := 0) ⟨dX8_readStatement_86, rfl⟩ rfl rfl ?_
          refine Ev.iconst ⟨dX8_readStatement_87, rfl⟩ (inRd rfl) ?_
          obtain ⟨r16, hv15, h⟩ := bnd_s h
          refine Ev.callVN (mc1 := 0) (ms1 := 0) (h1 := hq D r16) vX8_145 (c_X8_readNode Θ D z _ _ _ _ hv15) rfl rfl (by decide) rfl ⟨by decide, by decide, Nat.le_of_eq (Nat.zero_add _), Nat.le_of_eq (Nat.zero_add _), Nat.le_of_ble_eq_true rfl⟩ ⟨dX8_readStatement_88, rfl⟩ ?_
          clear hv15
          refine Ev.goto jX8_readStatement_91 ?_
          obtain rfl := Option.some.inj h
          exact Ev.ret ⟨dX8_readStatement_114, rfl⟩ rfl ⟨rfl, rfl⟩
      · replace h := (if_neg hc).symm.trans h; clear hc
        refine Ev.aload_n (q := 0) ⟨dX8_readStatement_69, rfl⟩ rfl rfl ?_
        refine Ev.iconst ⟨dX8_readStatement_70, rfl⟩ (inRd rfl) ?_
        obtain ⟨r18, hv17, h⟩ := bnd_s h
        refine Ev.callVN (mc1 := 0) (ms1 := 0) (h1 := hq D r18) vX8_145 (c_X8_readNode Θ D z _ _ _ _ hv17) rfl rfl (by decide) rfl ⟨by decide, by decide, Nat.le_of_eq (Nat.zero_add _), Nat.le_of_eq (Nat.zero_add _), Nat.le_of_ble_eq_true rfl⟩ ⟨dX8_readStatement_71, rfl⟩ ?_
        clear hv17
        refine Ev.goto jX8_readStatement_74 ?_
        obtain rfl := Option.some.inj h
        exact Ev.ret ⟨dX8_readStatement_114, rfl⟩ rfl ⟨rfl, rfl⟩
    · replace h := (if_neg hc).symm.trans h; clear hc
      refine Ev.aload_n (q := 0) ⟨dX8_readStatement_25, rfl⟩ rfl rfl ?_
      refine Ev.aload_n (q := 0) ⟨dX8_readStatement_26, rfl⟩ rfl rfl ?_
      refine Ev.getRk (C2 := 27) (r := 1) fX8_16 rfl (by decide) (by decide) ⟨dX8_readStatement_27, rfl⟩ ?_
      refine Ev.iconst ⟨dX8_readStatement_30, rfl⟩ (inRd rfl) ?_
      obtain ⟨c19, h⟩ := ckI_s h
      refine Ev.iaload (by decide) c19.1 c19.2 ⟨dX8_readStatement_31, rfl⟩ ?_
      refine Ev.iconst ⟨dX8_readStatement_32, rfl⟩ (inRd rfl) ?_
      refine Ev.icmp_ne jX8_readStatement_33 (fun hc => ?_) (fun hc => ?_)
      · replace h := (if_neg hc).symm.trans h; clear hc
        refine Ev.iconst ⟨dX8_readStatement_40, rfl⟩ (inRd rfl) ?_
        exact e_X8_readStatement_41 Θ D z _ _ _ _ _ h
      · replace h := (if_pos hc).symm.trans h; clear hc
        refine Ev.iconst ⟨dX8_readStatement_36, rfl⟩ (inRd rfl) ?_
        refine Ev.goto jX8_readStatement_37 ?_
        exact e_X8_readStatement_41 Θ D z _ _ _ _ _ h
  · replace h := (if_neg hc).symm.trans h; clear hc
    refine Ev.aload_n (q := 0) ⟨dX8_readStatement_9, rfl⟩ rfl rfl ?_
    obtain ⟨r27, hv26, h⟩ := bnd_s h
    refine Ev.callVN (mc1 := 0) (ms1 := 0) (h1 := hq D r27) vX8_138 (c_X8_readField Θ D z _ _ _ hv26) rfl rfl (by decide) rfl ⟨by decide, by decide, Nat.le_of_eq (Nat.zero_add _), Nat.le_of_eq (Nat.zero_add _), Nat.le_of_ble_eq_true rfl⟩ ⟨dX8_readStatement_10, rfl⟩ ?_
    clear hv26
    refine Ev.goto jX8_readStatement_13 ?_
    obtain rfl := Option.some.inj h
    exact Ev.ret ⟨dX8_readStatement_114, rfl⟩ rfl ⟨rfl, rfl⟩

def F_X8_parse_22 (z : Nat) (v0 : Nat) : Nat → Mm → Option (Mm)
  | 0, _ => none
  | k + 1, x => (F_X8_isSign z (v0) ((59 : Int)) x).bind fun r10 => if r10 = 0 then (some (x)) else ((F_X8_step z (v0) x).bind fun r12 => (F_X8_readStatement z (v0) r12).bind fun r14 => F_X8_parse_22 z v0 k  r14)
set_option maxHeartbeats 4000000 in
set_option maxRecDepth 20000 in
theorem e_X8_parse_22 (Θ : GC) (D : Nat → Nat → Prop) (z : Nat) (v0 : Nat) (Q : Ro → Hp → Prop) (mc ms : Nat) : ∀ (k : Nat) (x : Mm) (y), F_X8_parse_22 z v0 k x = some y → (Ev Θ mX8_parse 7 149 mc ms 42 [(0, vr 8 (v0 + 1))] [] (hq D y) Q) → Ev Θ mX8_parse 7 149 mc ms 22 [(0, vr 8 (v0 + 1))] [] (hq D x) Q := by
  intro k
  induction k with
  | zero => intro x y h; exact absurd h (by unfold F_X8_parse_22; exact nofun)
  | succ k ih =>
    intro x y h k1
    unfold F_X8_parse_22 at h
    refine Ev.aload_n (q := 0) ⟨dX8_parse_22, rfl⟩ rfl rfl ?_
    refine Ev.bipush ⟨dX8_parse_23, rfl⟩ (inRd rfl) (by decide) ?_
    obtain ⟨r10, hv9, h⟩ := bnd_s h
    refine Ev.callV1 (mc1 := mc) (ms1 := ms) (v := vi r10) (h1 := hq D x) vX8_131 (c_X8_isSign Θ D z _ _ _ _ hv9) rfl rfl (by decide) rfl ⟨by decide, by decide, Nat.le_of_eq (Nat.zero_add _), Nat.le_of_eq (Nat.zero_add _), Nat.le_of_ble_eq_true rfl⟩ ⟨dX8_parse_25, rfl⟩ ?_
    clear hv9
    refine Ev.if_eq jX8_parse_28 (fun hc => ?_) (fun hc => ?_)
    · replace h := (if_pos hc).symm.trans h; clear hc
      obtain rfl := Option.some.inj h
      exact k1
    · replace h := (if_neg hc).symm.trans h; clear hc
      refine Ev.aload_n (q := 0) ⟨dX8_parse_31, rfl⟩ rfl rfl ?_
      obtain ⟨r12, hv11, h⟩ := bnd_s h
      refine Ev.callVN (mc1 := mc) (ms1 := ms) (h1 := hq D r12) vX8_106 (c_X8_step Θ D z _ _ _ hv11) rfl rfl (by decide) rfl ⟨by decide, by decide, Nat.le_of_eq (Nat.zero_add _), Nat.le_of_eq (Nat.zero_add _), Nat.le_of_ble_eq_true rfl⟩ ⟨dX8_parse_32, rfl⟩ ?_
      clear hv11
      refine Ev.aload_n (q := 0) ⟨dX8_parse_35, rfl⟩ rfl rfl ?_
      obtain ⟨r14, hv13, h⟩ := bnd_s h
      refine Ev.callVN (mc1 := mc) (ms1 := ms) (h1 := hq D r14) vX8_156 (c_X8_readStatement Θ D z _ _ _ hv13) rfl rfl (by decide) rfl ⟨by decide, by decide, Nat.le_of_eq (Nat.zero_add _), Nat.le_of_eq (Nat.zero_add _), Nat.le_of_ble_eq_true rfl⟩ ⟨dX8_parse_36, rfl⟩ ?_
      clear hv13
      refine Ev.goto jX8_parse_39 ?_
      exact ih _ _ h k1
def F_X8_parse (z : Nat) (v0 : Nat) (x : Mm) : Option (Int × Mm) := (some (wI x 8 v0 3 ((0 : Int)))).bind fun x1 => (some (wI x1 8 v0 7 ((-1 : Int)))).bind fun x2 => (F_X8_forgetRead z (v0) x2).bind fun r4 => (F_X8_step z (v0) r4).bind fun r6 => (F_X8_readStatement z (v0) r6).bind fun r8 => (F_X8_parse_22 z (v0) z  r8).bind fun s15 => (F_X8_isGood z (v0) s15).bind fun r17 => if r17 = 0 then (some (((s15.1 8 v0 7), s15))) else (if (s15.1 8 v0 5) = 0 then (some (((s15.1 8 v0 7), s15))) else ((F_X8_fail z (v0) s15).bind fun r19 => some (((r19.1 8 v0 7), r19))))
set_option maxHeartbeats 4000000 in
set_option maxRecDepth 20000 in
theorem c_X8_parse (Θ : GC) (D : Nat → Nat → Prop) (z : Nat) (v0 : Nat) (x : Mm) (y) (h : F_X8_parse z v0 x = some y) : Cal Θ mX8_parse 7 149 0 0 [vr 8 (v0 + 1)] (hq D x) (Ret (vi y.1) (hq D y.2)) := by
  refine Cal.of (by decide +kernel) rfl rfl (Nat.le_of_ble_eq_true rfl) ?_
  show Ev Θ mX8_parse 7 149 0 0 0 [(0, vr 8 (v0 + 1))] [] (hq D x) (Ret (vi y.1) (hq D y.2))
  unfold F_X8_parse at h
  refine Ev.aload_n (q := 0) ⟨dX8_parse_0, rfl⟩ rfl rfl ?_
  refine Ev.iconst ⟨dX8_parse_1, rfl⟩ (inRd rfl) ?_
  obtain ⟨x1, ex, h⟩ := bnd_s h
  refine Ev.putI fX8_57 ⟨dX8_parse_2, rfl⟩ ?_
  refine Ev.cast ?_ rfl rfl (hqI ex)
  clear ex
  refine Ev.aload_n (q := 0) ⟨dX8_parse_5, rfl⟩ rfl rfl ?_
  refine Ev.iconst ⟨dX8_parse_6, rfl⟩ (inRd rfl) ?_
  obtain ⟨x2, ex, h⟩ := bnd_s h
  refine Ev.putI fX8_87 ⟨dX8_parse_7, rfl⟩ ?_
  refine Ev.cast ?_ rfl rfl (hqI ex)
  clear ex
  refine Ev.aload_n (q := 0) ⟨dX8_parse_10, rfl⟩ rfl rfl ?_
  obtain ⟨r4, hv3, h⟩ := bnd_s h
  refine Ev.callVN (mc1 := 0) (ms1 := 0) (h1 := hq D r4) vX8_32 (c_X8_forgetRead Θ D z _ _ _ hv3) rfl rfl (by decide) rfl ⟨by decide, by decide, Nat.le_of_eq (Nat.zero_add _), Nat.le_of_eq (Nat.zero_add _), Nat.le_of_ble_eq_true rfl⟩ ⟨dX8_parse_11, rfl⟩ ?_
  clear hv3
  refine Ev.aload_n (q := 0) ⟨dX8_parse_14, rfl⟩ rfl rfl ?_
  obtain ⟨r6, hv5, h⟩ := bnd_s h
  refine Ev.callVN (mc1 := 0) (ms1 := 0) (h1 := hq D r6) vX8_106 (c_X8_step Θ D z _ _ _ hv5) rfl rfl (by decide) rfl ⟨by decide, by decide, Nat.le_of_eq (Nat.zero_add _), Nat.le_of_eq (Nat.zero_add _), Nat.le_of_ble_eq_true rfl⟩ ⟨dX8_parse_15, rfl⟩ ?_
  clear hv5
  refine Ev.aload_n (q := 0) ⟨dX8_parse_18, rfl⟩ rfl rfl ?_
  obtain ⟨r8, hv7, h⟩ := bnd_s h
  refine Ev.callVN (mc1 := 0) (ms1 := 0) (h1 := hq D r8) vX8_156 (c_X8_readStatement Θ D z _ _ _ hv7) rfl rfl (by decide) rfl ⟨by decide, by decide, Nat.le_of_eq (Nat.zero_add _), Nat.le_of_eq (Nat.zero_add _), Nat.le_of_ble_eq_true rfl⟩ ⟨dX8_parse_19, rfl⟩ ?_
  clear hv7
  obtain ⟨s15, hl, h⟩ := bnd_s h
  refine e_X8_parse_22 Θ D z _ _ _ _ _  _ _ hl ?_
  clear hl
  refine Ev.aload_n (q := 0) ⟨dX8_parse_42, rfl⟩ rfl rfl ?_
  obtain ⟨r17, hv16, h⟩ := bnd_s h
  refine Ev.callV1 (mc1 := 0) (ms1 := 0) (v := vi r17) (h1 := hq D s15) vX8_90 (c_X8_isGood Θ D z _ _ _ hv16) rfl rfl (by decide) rfl ⟨by decide, by decide, Nat.le_of_eq (Nat.zero_add _), Nat.le_of_eq (Nat.zero_add _), Nat.le_of_ble_eq_true rfl⟩ ⟨dX8_parse_43, rfl⟩ ?_
  clear hv16
  refine Ev.if_eq jX8_parse_46 (fun hc => ?_) (fun hc => ?_)
  · replace h := (if_pos hc).symm.trans h; clear hc
    refine Ev.aload_n (q := 0) ⟨dX8_parse_60, rfl⟩ rfl rfl ?_
    refine Ev.getI fX8_87 (Or.inl rfl) ⟨dX8_parse_61, rfl⟩ ?_
    obtain rfl := Option.some.inj h
    exact Ev.ireturn (ty := .int) ⟨dX8_parse_64, rfl⟩ rfl rfl ⟨rfl, rfl⟩
  · replace h := (if_neg hc).symm.trans h; clear hc
    refine Ev.aload_n (q := 0) ⟨dX8_parse_49, rfl⟩ rfl rfl ?_
    refine Ev.getI fX8_74 (Or.inl rfl) ⟨dX8_parse_50, rfl⟩ ?_
    refine Ev.if_eq jX8_parse_53 (fun hc => ?_) (fun hc => ?_)
    · replace h := (if_pos hc).symm.trans h; clear hc
      refine Ev.aload_n (q := 0) ⟨dX8_parse_60, rfl⟩ rfl rfl ?_
      refine Ev.getI fX8_87 (Or.inl rfl) ⟨dX8_parse_61, rfl⟩ ?_
      obtain rfl := Option.some.inj h
      exact Ev.ireturn (ty := .int) ⟨dX8_parse_64, rfl⟩ rfl rfl ⟨rfl, rfl⟩
    · replace h := (if_neg hc).symm.trans h; clear hc
      refine Ev.aload_n (q := 0) ⟨dX8_parse_56, rfl⟩ rfl rfl ?_
      obtain ⟨r19, hv18, h⟩ := bnd_s h
      refine Ev.callVN (mc1 := 0) (ms1 := 0) (h1 := hq D r19) vX8_103 (c_X8_fail Θ D z _ _ _ hv18) rfl rfl (by decide) rfl ⟨by decide, by decide, Nat.le_of_eq (Nat.zero_add _), Nat.le_of_eq (Nat.zero_add _), Nat.le_of_ble_eq_true rfl⟩ ⟨dX8_parse_57, rfl⟩ ?_
      clear hv18
      refine Ev.aload_n (q := 0) ⟨dX8_parse_60, rfl⟩ rfl rfl ?_
      refine Ev.getI fX8_87 (Or.inl rfl) ⟨dX8_parse_61, rfl⟩ ?_
      obtain rfl := Option.some.inj h
      exact Ev.ireturn (ty := .int) ⟨dX8_parse_64, rfl⟩ rfl rfl ⟨rfl, rfl⟩

def F_X8_errorPosition (z : Nat) (v0 : Nat) (x : Mm) : Option (Int × Mm) := (some (wI x 8 v0 0 ((0 : Int)))).bind fun x1 => (F_X8_parse z (v0) x1).bind fun r3 => some ((r3.1, r3.2))
set_option maxHeartbeats 4000000 in
set_option maxRecDepth 20000 in
theorem c_X8_errorPosition (Θ : GC) (D : Nat → Nat → Prop) (z : Nat) (v0 : Nat) (x : Mm) (y) (h : F_X8_errorPosition z v0 x = some y) : Cal Θ mX8_errorPosition 8 169 0 0 [vr 8 (v0 + 1)] (hq D x) (Ret (vi y.1) (hq D y.2)) := by
  refine Cal.of (by decide +kernel) rfl rfl (Nat.le_of_ble_eq_true rfl) ?_
  show Ev Θ mX8_errorPosition 8 169 0 0 0 [(0, vr 8 (v0 + 1))] [] (hq D x) (Ret (vi y.1) (hq D y.2))
  unfold F_X8_errorPosition at h
  refine Ev.aload_n (q := 0) ⟨dX8_errorPosition_0, rfl⟩ rfl rfl ?_
  refine Ev.iconst ⟨dX8_errorPosition_1, rfl⟩ (inRd rfl) ?_
  obtain ⟨x1, ex, h⟩ := bnd_s h
  refine Ev.putI fX8_38 ⟨dX8_errorPosition_2, rfl⟩ ?_
  refine Ev.cast ?_ rfl rfl (hqI ex)
  clear ex
  refine Ev.aload_n (q := 0) ⟨dX8_errorPosition_5, rfl⟩ rfl rfl ?_
  obtain ⟨r3, hv2, h⟩ := bnd_s h
  refine Ev.callV1 (mc1 := 0) (ms1 := 0) (v := vi r3.1) (h1 := hq D r3.2) vX8_159 (c_X8_parse Θ D z _ _ _ hv2) rfl rfl (by decide) rfl ⟨by decide, by decide, Nat.le_of_eq (Nat.zero_add _), Nat.le_of_eq (Nat.zero_add _), Nat.le_of_ble_eq_true rfl⟩ ⟨dX8_errorPosition_6, rfl⟩ ?_
  clear hv2
  obtain rfl := Option.some.inj h
  exact Ev.ireturn (ty := .int) ⟨dX8_errorPosition_9, rfl⟩ rfl rfl ⟨rfl, rfl⟩

def F_X8_copy_2 (z : Nat) (v0 : Nat) (v1 : Nat) : Nat → Int → Mm → Option (Mm)
  | 0, _, _ => none
  | k + 1, v2, x => if (5366 : Int) ≤ v2 then (some (x)) else (ckI v2 5366 <| ckI v2 5366 <| (some (wI x 27 v1 (v2).toNat ((x.1 27 v0 (v2).toNat)))).bind fun x3 => ckR ((v2 + 1)) <| F_X8_copy_2 z v0 v1 k ((v2 + 1)) x3)
set_option maxHeartbeats 4000000 in
set_option maxRecDepth 20000 in
theorem e_X8_copy_2 (Θ : GC) (D : Nat → Nat → Prop) (z : Nat) (v0 : Nat) (v1 : Nat) (Q : Ro → Hp → Prop) (mc ms : Nat) : ∀ (k : Nat) (v2 : Int) (x : Mm) (y), F_X8_copy_2 z v0 v1 k v2 x = some y → (Ev Θ mX8_copy 0 0 mc ms 21 [(0, vr 27 (v0 + 1)), (1, vr 27 (v1 + 1))] [] (hq D y) Q) → Ev Θ mX8_copy 0 0 mc ms 2 [(0, vr 27 (v0 + 1)), (1, vr 27 (v1 + 1)), (2, vi (v2))] [] (hq D x) Q := by
  intro k
  induction k with
  | zero => intro v2 x y h; exact absurd h (by unfold F_X8_copy_2; exact nofun)
  | succ k ih =>
    intro v2 x y h k1
    unfold F_X8_copy_2 at h
    refine Ev.iload_n (q := 2) ⟨dX8_copy_2, rfl⟩ rfl rfl ?_
    refine Ev.sipush ⟨dX8_copy_3, rfl⟩ (inRd rfl) (by decide) ?_
    refine Ev.icmp_ge jX8_copy_6 (fun hc => ?_) (fun hc => ?_)
    · replace h := (if_pos hc).symm.trans h; clear hc
      refine Ev.keep [0, 1] rfl ?_
      obtain rfl := Option.some.inj h
      exact k1
    · replace h := (if_neg hc).symm.trans h; clear hc
      refine Ev.aload_n (q := 1) ⟨dX8_copy_9, rfl⟩ rfl rfl ?_
      refine Ev.iload_n (q := 2) ⟨dX8_copy_10, rfl⟩ rfl rfl ?_
      refine Ev.aload_n (q := 0) ⟨dX8_copy_11, rfl⟩ rfl rfl ?_
      refine Ev.iload_n (q := 2) ⟨dX8_copy_12, rfl⟩ rfl rfl ?_
      obtain ⟨c1, h⟩ := ckI_s h
      refine Ev.iaload (by decide) c1.1 c1.2 ⟨dX8_copy_13, rfl⟩ ?_
      obtain ⟨c2, h⟩ := ckI_s h
      obtain ⟨x3, ex, h⟩ := bnd_s h
      refine Ev.iastore (by decide) c2.1 c2.2 ⟨dX8_copy_14, rfl⟩ ?_
      refine Ev.cast ?_ rfl rfl (hqI ex)
      clear ex
      obtain ⟨c4, h⟩ := ckR_s h
      refine Ev.iinc (q := 2) (ls' := [(0, _), (1, _), (2, _)]) ⟨dX8_copy_15, rfl⟩ rfl (by decide) c4 rfl ?_
      refine Ev.goto jX8_copy_18 ?_
      exact ih _ _ _ h k1
def F_X8_copy (z : Nat) (v0 : Nat) (v1 : Nat) (x : Mm) : Option (Mm) := (F_X8_copy_2 z (v0) (v1) z ((0 : Int)) x).bind fun s5 => some (s5)
set_option maxHeartbeats 4000000 in
set_option maxRecDepth 20000 in
theorem c_X8_copy (Θ : GC) (D : Nat → Nat → Prop) (z : Nat) (v0 : Nat) (v1 : Nat) (x : Mm) (y) (h : F_X8_copy z v0 v1 x = some y) : Cal Θ mX8_copy 0 0 0 0 [vr 27 (v0 + 1), vr 27 (v1 + 1)] (hq D x) (RetN (hq D y)) := by
  refine Cal.of (by decide +kernel) rfl rfl (Nat.le_of_ble_eq_true rfl) ?_
  show Ev Θ mX8_copy 0 0 0 0 0 [(0, vr 27 (v0 + 1)), (1, vr 27 (v1 + 1))] [] (hq D x) (RetN (hq D y))
  unfold F_X8_copy at h
  refine Ev.iconst ⟨dX8_copy_0, rfl⟩ (inRd rfl) ?_
  refine Ev.istore_n (i := 2) (ls' := [(0, _), (1, _), (2, _)]) ⟨dX8_copy_1, rfl⟩ rfl (by decide) rfl ?_
  obtain ⟨s5, hl, h⟩ := bnd_s h
  refine e_X8_copy_2 Θ D z _ _ _ _ _ _ _ _ _ hl ?_
  clear hl
  obtain rfl := Option.some.inj h
  exact Ev.ret ⟨dX8_copy_21, rfl⟩ rfl ⟨rfl, rfl⟩

def F_X8_takeRead (z : Nat) (v0 : Nat) (x : Mm) : Option (Mm) := (F_X8_copy z (1) (0) x).bind fun r2 => (some (wI r2 8 v0 12 ((0 : Int)))).bind fun x3 => (some (wI x3 8 v0 13 ((0 : Int)))).bind fun x4 => some (x4)
set_option maxHeartbeats 4000000 in
set_option maxRecDepth 20000 in
theorem c_X8_takeRead (Θ : GC) (D : Nat → Nat → Prop) (z : Nat) (v0 : Nat) (x : Mm) (y) (h : F_X8_takeRead z v0 x = some y) : Cal Θ mX8_takeRead 1 22 0 0 [vr 8 (v0 + 1)] (hq D x) (RetN (hq D y)) := by
  refine Cal.of (by decide +kernel) rfl rfl (Nat.le_of_ble_eq_true rfl) ?_
  show Ev Θ mX8_takeRead 1 22 0 0 0 [(0, vr 8 (v0 + 1))] [] (hq D x) (RetN (hq D y))
  unfold F_X8_takeRead at h
  refine Ev.aload_n (q := 0) ⟨dX8_takeRead_0, rfl⟩ rfl rfl ?_
  refine Ev.getRk (C2 := 27) (r := 1) fX8_16 rfl (by decide) (by decide) ⟨dX8_takeRead_1, rfl⟩ ?_
  refine Ev.aload_n (q := 0) ⟨dX8_takeRead_4, rfl⟩ rfl rfl ?_
  refine Ev.getRk (C2 := 27) (r := 0) fX8_13 rfl (by decide) (by decide) ⟨dX8_takeRead_5, rfl⟩ ?_
  obtain ⟨r2, hv1, h⟩ := bnd_s h
  refine Ev.callSV (mc1 := 0) (ms1 := 0) (h1 := hq D r2) sX8_162 (c_X8_copy Θ D z _ _ _ _ hv1) rfl rfl ⟨by decide, by decide, Nat.le_of_eq (Nat.zero_add _), Nat.le_of_eq (Nat.zero_add _), Nat.le_of_ble_eq_true rfl⟩ ⟨dX8_takeRead_8, rfl⟩ ?_
  clear hv1
  refine Ev.aload_n (q := 0) ⟨dX8_takeRead_11, rfl⟩ rfl rfl ?_
  refine Ev.iconst ⟨dX8_takeRead_12, rfl⟩ (inRd rfl) ?_
  obtain ⟨x3, ex, h⟩ := bnd_s h
  refine Ev.putI fX8_166 ⟨dX8_takeRead_13, rfl⟩ ?_
  refine Ev.cast ?_ rfl rfl (hqI ex)
  clear ex
  refine Ev.aload_n (q := 0) ⟨dX8_takeRead_16, rfl⟩ rfl rfl ?_
  refine Ev.iconst ⟨dX8_takeRead_17, rfl⟩ (inRd rfl) ?_
  obtain ⟨x4, ex, h⟩ := bnd_s h
  refine Ev.putZ fX8_169 (by decide) ⟨dX8_takeRead_18, rfl⟩ ?_
  refine Ev.cast ?_ rfl rfl (hqI ex)
  clear ex
  obtain rfl := Option.some.inj h
  exact Ev.ret ⟨dX8_takeRead_21, rfl⟩ rfl ⟨rfl, rfl⟩

def F_X8_load_18 (z : Nat) (v0 : Nat) (u0 : Int) (u1 : Nat) (x : Mm) : Option (Int × Mm) := (F_X8_fails z (u1) (u0) ((1 : Int)) x).bind fun r5 => if r5.1 = 0 then ((F_X8_takeRead z (v0) r5.2).bind fun r7 => (some (wI r7 8 v0 2 ((0 : Int)))).bind fun x8 => ckI (3 : Int) 5366 <| some (((x8.1 27 0 ((3 : Int)).toNat), x8))) else (some (((0 : Int), r5.2)))
set_option maxHeartbeats 4000000 in
set_option maxRecDepth 20000 in
theorem e_X8_load_18 (Θ : GC) (D : Nat → Nat → Prop) (z : Nat) (v0 : Nat) (u0 : Int) (u1 : Nat) (x : Mm) (y) (h : F_X8_load_18 z v0 u0 u1 x = some y) : Ev Θ mX8_load 8 169 0 0 18 [(0, vr 8 (v0 + 1))] [vi (u0), vr 8 (u1 + 1)] (hq D x) (Ret (vi y.1) (hq D y.2)) := by
  unfold F_X8_load_18 at h
  refine Ev.iconst ⟨dX8_load_18, rfl⟩ (inRd rfl) ?_
  obtain ⟨r5, hv4, h⟩ := bnd_s h
  refine Ev.callV1 (mc1 := 0) (ms1 := 0) (v := vi r5.1) (h1 := hq D r5.2) vX8_49 (c_X8_fails Θ D z _ _ _ _ _ hv4) rfl rfl (by decide) rfl ⟨by decide, by decide, Nat.le_of_eq (Nat.zero_add _), Nat.le_of_eq (Nat.zero_add _), Nat.le_of_ble_eq_true rfl⟩ ⟨dX8_load_19, rfl⟩ ?_
  clear hv4
  refine Ev.if_eq jX8_load_22 (fun hc => ?_) (fun hc => ?_)
  · replace h := (if_pos hc).symm.trans h; clear hc
    refine Ev.aload_n (q := 0) ⟨dX8_load_27, rfl⟩ rfl rfl ?_
    obtain ⟨r7, hv6, h⟩ := bnd_s h
    refine Ev.callVN (mc1 := 0) (ms1 := 0) (h1 := hq D r7) vX8_35 (c_X8_takeRead Θ D z _ _ _ hv6) rfl rfl (by decide) rfl ⟨by decide, by decide, Nat.le_of_eq (Nat.zero_add _), Nat.le_of_eq (Nat.zero_add _), Nat.le_of_ble_eq_true rfl⟩ ⟨dX8_load_28, rfl⟩ ?_
    clear hv6
    refine Ev.aload_n (q := 0) ⟨dX8_load_31, rfl⟩ rfl rfl ?_
    refine Ev.iconst ⟨dX8_load_32, rfl⟩ (inRd rfl) ?_
    obtain ⟨x8, ex, h⟩ := bnd_s h
    refine Ev.putI fX8_46 ⟨dX8_load_33, rfl⟩ ?_
    refine Ev.cast ?_ rfl rfl (hqI ex)
    clear ex
    refine Ev.aload_n (q := 0) ⟨dX8_load_36, rfl⟩ rfl rfl ?_
    refine Ev.getRk (C2 := 27) (r := 0) fX8_13 rfl (by decide) (by decide) ⟨dX8_load_37, rfl⟩ ?_
    refine Ev.iconst ⟨dX8_load_40, rfl⟩ (inRd rfl) ?_
    obtain ⟨c9, h⟩ := ckI_s h
    refine Ev.iaload (by decide) c9.1 c9.2 ⟨dX8_load_41, rfl⟩ ?_
    obtain rfl := Option.some.inj h
    exact Ev.ireturn (ty := .int) ⟨dX8_load_42, rfl⟩ rfl rfl ⟨rfl, rfl⟩
  · replace h := (if_neg hc).symm.trans h; clear hc
    refine Ev.iconst ⟨dX8_load_25, rfl⟩ (inRd rfl) ?_
    obtain rfl := Option.some.inj h
    exact Ev.ireturn (ty := .int) ⟨dX8_load_26, rfl⟩ rfl rfl ⟨rfl, rfl⟩
def F_X8_load (z : Nat) (v0 : Nat) (x : Mm) : Option (Int × Mm) := (some (wI x 8 v0 0 ((0 : Int)))).bind fun x1 => (F_X8_parse z (v0) x1).bind fun r3 => if 0 ≤ r3.1 then (F_X8_load_18 z (v0) ((0 : Int)) (v0) r3.2) else (F_X8_load_18 z (v0) ((1 : Int)) (v0) r3.2)
set_option maxHeartbeats 4000000 in
set_option maxRecDepth 20000 in
theorem c_X8_load (Θ : GC) (D : Nat → Nat → Prop) (z : Nat) (v0 : Nat) (x : Mm) (y) (h : F_X8_load z v0 x = some y) : Cal Θ mX8_load 8 169 0 0 [vr 8 (v0 + 1)] (hq D x) (Ret (vi y.1) (hq D y.2)) := by
  refine Cal.of (by decide +kernel) rfl rfl (Nat.le_of_ble_eq_true rfl) ?_
  show Ev Θ mX8_load 8 169 0 0 0 [(0, vr 8 (v0 + 1))] [] (hq D x) (Ret (vi y.1) (hq D y.2))
  unfold F_X8_load at h
  refine Ev.aload_n (q := 0) ⟨dX8_load_0, rfl⟩ rfl rfl ?_
  refine Ev.iconst ⟨dX8_load_1, rfl⟩ (inRd rfl) ?_
  obtain ⟨x1, ex, h⟩ := bnd_s h
  refine Ev.putI fX8_38 ⟨dX8_load_2, rfl⟩ ?_
  refine Ev.cast ?_ rfl rfl (hqI ex)
  clear ex
  refine Ev.aload_n (q := 0) ⟨dX8_load_5, rfl⟩ rfl rfl ?_
  refine Ev.aload_n (q := 0) ⟨dX8_load_6, rfl⟩ rfl rfl ?_
  obtain ⟨r3, hv2, h⟩ := bnd_s h
  refine Ev.callV1 (mc1 := 0) (ms1 := 0) (v := vi r3.1) (h1 := hq D r3.2) vX8_159 (c_X8_parse Θ D z _ _ _ hv2) rfl rfl (by decide) rfl ⟨by decide, by decide, Nat.le_of_eq (Nat.zero_add _), Nat.le_of_eq (Nat.zero_add _), Nat.le_of_ble_eq_true rfl⟩ ⟨dX8_load_7, rfl⟩ ?_
  clear hv2
  refine Ev.if_ge jX8_load_10 (fun hc => ?_) (fun hc => ?_)
  · replace h := (if_pos hc).symm.trans h; clear hc
    refine Ev.iconst ⟨dX8_load_17, rfl⟩ (inRd rfl) ?_
    exact e_X8_load_18 Θ D z _ _ _ _ _ h
  · replace h := (if_neg hc).symm.trans h; clear hc
    refine Ev.iconst ⟨dX8_load_13, rfl⟩ (inRd rfl) ?_
    refine Ev.goto jX8_load_14 ?_
    exact e_X8_load_18 Θ D z _ _ _ _ _ h

def F_X8_record_53 (z : Nat) (v0 : Nat) : Nat → Int → Mm → Option (Mm)
  | 0, _, _ => none
  | k + 1, v1, x => if (5366 : Int) ≤ v1 then (some (x)) else (ckR (((5366 : Int) * (x.1 8 v0 12))) <| ckR ((((5366 : Int) * (x.1 8 v0 12)) + v1)) <| ckI v1 5366 <| ckI (((5366 : Int) * (x.1 8 v0 12)) + v1) 42928 <| (some (wI x 28 0 ((((5366 : Int) * (x.1 8 v0 12)) + v1)).toNat ((x.1 27 0 (v1).toNat)))).bind fun x5 => ckR ((v1 + 1)) <| F_X8_record_53 z v0 k ((v1 + 1)) x5)
set_option maxHeartbeats 4000000 in
set_option maxRecDepth 20000 in
theorem e_X8_record_53 (Θ : GC) (D : Nat → Nat → Prop) (z : Nat) (v0 : Nat) (Q : Ro → Hp → Prop) (mc ms : Nat) : ∀ (k : Nat) (v1 : Int) (x : Mm) (y), F_X8_record_53 z v0 k v1 x = some y → (Ev Θ mX8_record 0 0 mc ms 87 [(0, vr 8 (v0 + 1))] [] (hq D y) Q) → Ev Θ mX8_record 0 0 mc ms 53 [(0, vr 8 (v0 + 1)), (1, vi (v1))] [] (hq D x) Q := by
  intro k
  induction k with
  | zero => intro v1 x y h; exact absurd h (by unfold F_X8_record_53; exact nofun)
  | succ k ih =>
    intro v1 x y h k1
    unfold F_X8_record_53 at h
    refine Ev.iload_n (q := 1) ⟨dX8_record_53, rfl⟩ rfl rfl ?_
    refine Ev.sipush ⟨dX8_record_54, rfl⟩ (inRd rfl) (by decide) ?_
    refine Ev.icmp_ge jX8_record_57 (fun hc => ?_) (fun hc => ?_)
    · replace h := (if_pos hc).symm.trans h; clear hc
      refine Ev.keep [0] rfl ?_
      obtain rfl := Option.some.inj h
      exact k1
    · replace h := (if_neg hc).symm.trans h; clear hc
      refine Ev.aload_n (q := 0) ⟨dX8_record_60, rfl⟩ rfl rfl ?_
      refine Ev.getRk (C2 := 28) (r := 0) fX8_20 rfl (by decide) (by decide) ⟨dX8_record_61, rfl⟩ ?_
      refine Ev.sipush ⟨dX8_record_64, rfl⟩ (inRd rfl) (by decide) ?_
      refine Ev.aload_n (q := 0) ⟨dX8_record_67, rfl⟩ rfl rfl ?_
      refine Ev.getI fX8_166 (Or.inl rfl) ⟨dX8_record_68, rfl⟩ ?_
      obtain ⟨c1, h⟩ := ckR_s h
      refine Ev.imul ⟨dX8_record_71, rfl⟩ c1 ?_
      refine Ev.iload_n (q := 1) ⟨dX8_record_72, rfl⟩ rfl rfl ?_
      obtain ⟨c2, h⟩ := ckR_s h
      refine Ev.iadd ⟨dX8_record_73, rfl⟩ c2 ?_
      refine Ev.aload_n (q := 0) ⟨dX8_record_74, rfl⟩ rfl rfl ?_
      refine Ev.getRk (C2 := 27) (r := 0) fX8_13 rfl (by decide) (by decide) ⟨dX8_record_75, rfl⟩ ?_
      refine Ev.iload_n (q := 1) ⟨dX8_record_78, rfl⟩ rfl rfl ?_
      obtain ⟨c3, h⟩ := ckI_s h
      refine Ev.iaload (by decide) c3.1 c3.2 ⟨dX8_record_79, rfl⟩ ?_
      obtain ⟨c4, h⟩ := ckI_s h
      obtain ⟨x5, ex, h⟩ := bnd_s h
      refine Ev.iastore (by decide) c4.1 c4.2 ⟨dX8_record_80, rfl⟩ ?_
      refine Ev.cast ?_ rfl rfl (hqI ex)
      clear ex
      obtain ⟨c6, h⟩ := ckR_s h
      refine Ev.iinc (q := 1) (ls' := [(0, _), (1, _)]) ⟨dX8_record_81, rfl⟩ rfl (by decide) c6 rfl ?_
      refine Ev.goto jX8_record_84 ?_
      exact ih _ _ _ h k1

def F_X8_record_51 (z : Nat) (v0 : Nat) (x : Mm) : Option (Mm) := (F_X8_record_53 z (v0) z ((0 : Int)) x).bind fun s7 => ckR (((s7.1 8 v0 12) + (1 : Int))) <| (some (wI s7 8 v0 12 (((s7.1 8 v0 12) + (1 : Int))))).bind fun x9 => some (x9)
set_option maxHeartbeats 4000000 in
set_option maxRecDepth 20000 in
theorem e_X8_record_51 (Θ : GC) (D : Nat → Nat → Prop) (z : Nat) (v0 : Nat) (x : Mm) (y) (h : F_X8_record_51 z v0 x = some y) : Ev Θ mX8_record 0 0 0 0 51 [(0, vr 8 (v0 + 1))] [] (hq D x) (RetN (hq D y)) := by
  unfold F_X8_record_51 at h
  refine Ev.iconst ⟨dX8_record_51, rfl⟩ (inRd rfl) ?_
  refine Ev.istore_n (i := 1) (ls' := [(0, _), (1, _)]) ⟨dX8_record_52, rfl⟩ rfl (by decide) rfl ?_
  obtain ⟨s7, hl, h⟩ := bnd_s h
  refine e_X8_record_53 Θ D z _ _ _ _ _ _ _ _ hl ?_
  clear hl
  refine Ev.aload_n (q := 0) ⟨dX8_record_87, rfl⟩ rfl rfl ?_
  refine Ev.dup ⟨dX8_record_88, rfl⟩ rfl ?_
  refine Ev.getI fX8_166 (Or.inl rfl) ⟨dX8_record_89, rfl⟩ ?_
  refine Ev.iconst ⟨dX8_record_92, rfl⟩ (inRd rfl) ?_
  obtain ⟨c8, h⟩ := ckR_s h
  refine Ev.iadd ⟨dX8_record_93, rfl⟩ c8 ?_
  obtain ⟨x9, ex, h⟩ := bnd_s h
  refine Ev.putI fX8_166 ⟨dX8_record_94, rfl⟩ ?_
  refine Ev.cast ?_ rfl rfl (hqI ex)
  clear ex
  obtain rfl := Option.some.inj h
  exact Ev.ret ⟨dX8_record_97, rfl⟩ rfl ⟨rfl, rfl⟩

def F_X8_record_13 (z : Nat) (v0 : Nat) : Nat → Int → Mm → Option (Mm)
  | 0, _, _ => none
  | k + 1, v1, x => if (42928 : Int) ≤ v1 then (some (x)) else (ckR ((v1 - (5366 : Int))) <| ckI v1 42928 <| ckI (v1 - (5366 : Int)) 42928 <| (some (wI x 28 0 ((v1 - (5366 : Int))).toNat ((x.1 28 0 (v1).toNat)))).bind fun x13 => ckR ((v1 + 1)) <| F_X8_record_13 z v0 k ((v1 + 1)) x13)
set_option maxHeartbeats 4000000 in
set_option maxRecDepth 20000 in
theorem e_X8_record_13 (Θ : GC) (D : Nat → Nat → Prop) (z : Nat) (v0 : Nat) (Q : Ro → Hp → Prop) (mc ms : Nat) : ∀ (k : Nat) (v1 : Int) (x : Mm) (y), F_X8_record_13 z v0 k v1 x = some y → (Ev Θ mX8_record 0 0 mc ms 41 [(0, vr 8 (v0 + 1))] [] (hq D y) Q) → Ev Θ mX8_record 0 0 mc ms 13 [(0, vr 8 (v0 + 1)), (1, vi (v1))] [] (hq D x) Q := by
  intro k
  induction k with
  | zero => intro v1 x y h; exact absurd h (by unfold F_X8_record_13; exact nofun)
  | succ k ih =>
    intro v1 x y h k1
    unfold F_X8_record_13 at h
    refine Ev.iload_n (q := 1) ⟨dX8_record_13, rfl⟩ rfl rfl ?_
    refine Ev.ldc (n := 42928) ⟨dX8_record_14, rfl⟩ (inRd rfl) wX8_19 ?_
    refine Ev.icmp_ge jX8_record_16 (fun hc => ?_) (fun hc => ?_)
    · replace h := (if_pos hc).symm.trans h; clear hc
      refine Ev.keep [0] rfl ?_
      obtain rfl := Option.some.inj h
      exact k1
    · replace h := (if_neg hc).symm.trans h; clear hc
      refine Ev.aload_n (q := 0) ⟨dX8_record_19, rfl⟩ rfl rfl ?_
      refine Ev.getRk (C2 := 28) (r := 0) fX8_20 rfl (by decide) (by decide) ⟨dX8_record_20, rfl⟩ ?_
      refine Ev.iload_n (q := 1) ⟨dX8_record_23, rfl⟩ rfl rfl ?_
      refine Ev.sipush ⟨dX8_record_24, rfl⟩ (inRd rfl) (by decide) ?_
      obtain ⟨c10, h⟩ := ckR_s h
      refine Ev.isub ⟨dX8_record_27, rfl⟩ c10 ?_
      refine Ev.aload_n (q := 0) ⟨dX8_record_28, rfl⟩ rfl rfl ?_
      refine Ev.getRk (C2 := 28) (r := 0) fX8_20 rfl (by decide) (by decide) ⟨dX8_record_29, rfl⟩ ?_
      refine Ev.iload_n (q := 1) ⟨dX8_record_32, rfl⟩ rfl rfl ?_
      obtain ⟨c11, h⟩ := ckI_s h
      refine Ev.iaload (by decide) c11.1 c11.2 ⟨dX8_record_33, rfl⟩ ?_
      obtain ⟨c12, h⟩ := ckI_s h
      obtain ⟨x13, ex, h⟩ := bnd_s h
      refine Ev.iastore (by decide) c12.1 c12.2 ⟨dX8_record_34, rfl⟩ ?_
      refine Ev.cast ?_ rfl rfl (hqI ex)
      clear ex
      obtain ⟨c14, h⟩ := ckR_s h
      refine Ev.iinc (q := 1) (ls' := [(0, _), (1, _)]) ⟨dX8_record_35, rfl⟩ rfl (by decide) c14 rfl ?_
      refine Ev.goto jX8_record_38 ?_
      exact ih _ _ _ h k1
def F_X8_record (z : Nat) (v0 : Nat) (x : Mm) : Option (Mm) := if (x.1 8 v0 12) = (8 : Int) then ((F_X8_record_13 z (v0) z ((5366 : Int)) x).bind fun s15 => ckR (((s15.1 8 v0 12) - (1 : Int))) <| (some (wI s15 8 v0 12 (((s15.1 8 v0 12) - (1 : Int))))).bind fun x17 => F_X8_record_51 z (v0) x17) else (F_X8_record_51 z (v0) x)
set_option maxHeartbeats 4000000 in
set_option maxRecDepth 20000 in
theorem c_X8_record (Θ : GC) (D : Nat → Nat → Prop) (z : Nat) (v0 : Nat) (x : Mm) (y) (h : F_X8_record z v0 x = some y) : Cal Θ mX8_record 0 0 0 0 [vr 8 (v0 + 1)] (hq D x) (RetN (hq D y)) := by
  refine Cal.of (by decide +kernel) rfl rfl (Nat.le_of_ble_eq_true rfl) ?_
  show Ev Θ mX8_record 0 0 0 0 0 [(0, vr 8 (v0 + 1))] [] (hq D x) (RetN (hq D y))
  unfold F_X8_record at h
  refine Ev.aload_n (q := 0) ⟨dX8_record_0, rfl⟩ rfl rfl ?_
  refine Ev.getI fX8_166 (Or.inl rfl) ⟨dX8_record_1, rfl⟩ ?_
  refine Ev.bipush ⟨dX8_record_4, rfl⟩ (inRd rfl) (by decide) ?_
  refine Ev.icmp_ne jX8_record_6 (fun hc => ?_) (fun hc => ?_)
  · replace h := (if_neg hc).symm.trans h; clear hc
    exact e_X8_record_51 Θ D z _ _ _ h
  · replace h := (if_pos hc).symm.trans h; clear hc
    refine Ev.sipush ⟨dX8_record_9, rfl⟩ (inRd rfl) (by decide) ?_
    refine Ev.istore_n (i := 1) (ls' := [(0, _), (1, _)]) ⟨dX8_record_12, rfl⟩ rfl (by decide) rfl ?_
    obtain ⟨s15, hl, h⟩ := bnd_s h
    refine e_X8_record_13 Θ D z _ _ _ _ _ _ _ _ hl ?_
    clear hl
    refine Ev.aload_n (q := 0) ⟨dX8_record_41, rfl⟩ rfl rfl ?_
    refine Ev.dup ⟨dX8_record_42, rfl⟩ rfl ?_
    refine Ev.getI fX8_166 (Or.inl rfl) ⟨dX8_record_43, rfl⟩ ?_
    refine Ev.iconst ⟨dX8_record_46, rfl⟩ (inRd rfl) ?_
    obtain ⟨c16, h⟩ := ckR_s h
    refine Ev.isub ⟨dX8_record_47, rfl⟩ c16 ?_
    obtain ⟨x17, ex, h⟩ := bnd_s h
    refine Ev.putI fX8_166 ⟨dX8_record_48, rfl⟩ ?_
    refine Ev.cast ?_ rfl rfl (hqI ex)
    clear ex
    exact e_X8_record_51 Θ D z _ _ _ h

def F_X8_undo_39 (z : Nat) (v0 : Nat) : Nat → Int → Mm → Option (Mm)
  | 0, _, _ => none
  | k + 1, v1, x => if (5366 : Int) ≤ v1 then (some (x)) else (ckR (((5366 : Int) * (x.1 8 v0 12))) <| ckR ((((5366 : Int) * (x.1 8 v0 12)) + v1)) <| ckI (((5366 : Int) * (x.1 8 v0 12)) + v1) 42928 <| ckI v1 5366 <| (some (wI x 27 0 (v1).toNat ((x.1 28 0 ((((5366 : Int) * (x.1 8 v0 12)) + v1)).toNat)))).bind fun x10 => ckR ((v1 + 1)) <| F_X8_undo_39 z v0 k ((v1 + 1)) x10)
set_option maxHeartbeats 4000000 in
set_option maxRecDepth 20000 in
theorem e_X8_undo_39 (Θ : GC) (D : Nat → Nat → Prop) (z : Nat) (v0 : Nat) (Q : Ro → Hp → Prop) (mc ms : Nat) : ∀ (k : Nat) (v1 : Int) (x : Mm) (y), F_X8_undo_39 z v0 k v1 x = some y → (Ev Θ mX8_undo 1 22 mc ms 73 [(0, vr 8 (v0 + 1))] [] (hq D y) Q) → Ev Θ mX8_undo 1 22 mc ms 39 [(0, vr 8 (v0 + 1)), (1, vi (v1))] [] (hq D x) Q := by
  intro k
  induction k with
  | zero => intro v1 x y h; exact absurd h (by unfold F_X8_undo_39; exact nofun)
  | succ k ih =>
    intro v1 x y h k1
    unfold F_X8_undo_39 at h
    refine Ev.iload_n (q := 1) ⟨dX8_undo_39, rfl⟩ rfl rfl ?_
    refine Ev.sipush ⟨dX8_undo_40, rfl⟩ (inRd rfl) (by decide) ?_
    refine Ev.icmp_ge jX8_undo_43 (fun hc => ?_) (fun hc => ?_)
    · replace h := (if_pos hc).symm.trans h; clear hc
      refine Ev.keep [0] rfl ?_
      obtain rfl := Option.some.inj h
      exact k1
    · replace h := (if_neg hc).symm.trans h; clear hc
      refine Ev.aload_n (q := 0) ⟨dX8_undo_46, rfl⟩ rfl rfl ?_
      refine Ev.getRk (C2 := 27) (r := 0) fX8_13 rfl (by decide) (by decide) ⟨dX8_undo_47, rfl⟩ ?_
      refine Ev.iload_n (q := 1) ⟨dX8_undo_50, rfl⟩ rfl rfl ?_
      refine Ev.aload_n (q := 0) ⟨dX8_undo_51, rfl⟩ rfl rfl ?_
      refine Ev.getRk (C2 := 28) (r := 0) fX8_20 rfl (by decide) (by decide) ⟨dX8_undo_52, rfl⟩ ?_
      refine Ev.sipush ⟨dX8_undo_55, rfl⟩ (inRd rfl) (by decide) ?_
      refine Ev.aload_n (q := 0) ⟨dX8_undo_58, rfl⟩ rfl rfl ?_
      refine Ev.getI fX8_166 (Or.inl rfl) ⟨dX8_undo_59, rfl⟩ ?_
      obtain ⟨c6, h⟩ := ckR_s h
      refine Ev.imul ⟨dX8_undo_62, rfl⟩ c6 ?_
      refine Ev.iload_n (q := 1) ⟨dX8_undo_63, rfl⟩ rfl rfl ?_
      obtain ⟨c7, h⟩ := ckR_s h
      refine Ev.iadd ⟨dX8_undo_64, rfl⟩ c7 ?_
      obtain ⟨c8, h⟩ := ckI_s h
      refine Ev.iaload (by decide) c8.1 c8.2 ⟨dX8_undo_65, rfl⟩ ?_
      obtain ⟨c9, h⟩ := ckI_s h
      obtain ⟨x10, ex, h⟩ := bnd_s h
      refine Ev.iastore (by decide) c9.1 c9.2 ⟨dX8_undo_66, rfl⟩ ?_
      refine Ev.cast ?_ rfl rfl (hqI ex)
      clear ex
      obtain ⟨c11, h⟩ := ckR_s h
      refine Ev.iinc (q := 1) (ls' := [(0, _), (1, _)]) ⟨dX8_undo_67, rfl⟩ rfl (by decide) c11 rfl ?_
      refine Ev.goto jX8_undo_70 ?_
      exact ih _ _ _ h k1

def F_X8_undo_18 (z : Nat) (v0 : Nat) (u0 : Int) (u1 : Nat) (x : Mm) : Option (Int × Mm) := (F_X8_fails z (u1) (u0) ((1 : Int)) x).bind fun r3 => if r3.1 = 0 then (ckR (((r3.2.1 8 v0 12) - (1 : Int))) <| (some (wI r3.2 8 v0 12 (((r3.2.1 8 v0 12) - (1 : Int))))).bind fun x5 => (F_X8_undo_39 z (v0) z ((0 : Int)) x5).bind fun s12 => some (((s12.1 8 v0 12), s12))) else (some (((0 : Int), r3.2)))
set_option maxHeartbeats 4000000 in
set_option maxRecDepth 20000 in
theorem e_X8_undo_18 (Θ : GC) (D : Nat → Nat → Prop) (z : Nat) (v0 : Nat) (u0 : Int) (u1 : Nat) (x : Mm) (y) (h : F_X8_undo_18 z v0 u0 u1 x = some y) : Ev Θ mX8_undo 1 22 0 0 18 [(0, vr 8 (v0 + 1))] [vi (u0), vr 8 (u1 + 1)] (hq D x) (Ret (vi y.1) (hq D y.2)) := by
  unfold F_X8_undo_18 at h
  refine Ev.iconst ⟨dX8_undo_18, rfl⟩ (inRd rfl) ?_
  obtain ⟨r3, hv2, h⟩ := bnd_s h
  refine Ev.callV1 (mc1 := 0) (ms1 := 0) (v := vi r3.1) (h1 := hq D r3.2) vX8_49 (c_X8_fails Θ D z _ _ _ _ _ hv2) rfl rfl (by decide) rfl ⟨by decide, by decide, Nat.le_of_eq (Nat.zero_add _), Nat.le_of_eq (Nat.zero_add _), Nat.le_of_ble_eq_true rfl⟩ ⟨dX8_undo_19, rfl⟩ ?_
  clear hv2
  refine Ev.if_eq jX8_undo_22 (fun hc => ?_) (fun hc => ?_)
  · replace h := (if_pos hc).symm.trans h; clear hc
    refine Ev.aload_n (q := 0) ⟨dX8_undo_27, rfl⟩ rfl rfl ?_
    refine Ev.dup ⟨dX8_undo_28, rfl⟩ rfl ?_
    refine Ev.getI fX8_166 (Or.inl rfl) ⟨dX8_undo_29, rfl⟩ ?_
    refine Ev.iconst ⟨dX8_undo_32, rfl⟩ (inRd rfl) ?_
    obtain ⟨c4, h⟩ := ckR_s h
    refine Ev.isub ⟨dX8_undo_33, rfl⟩ c4 ?_
    obtain ⟨x5, ex, h⟩ := bnd_s h
    refine Ev.putI fX8_166 ⟨dX8_undo_34, rfl⟩ ?_
    refine Ev.cast ?_ rfl rfl (hqI ex)
    clear ex
    refine Ev.iconst ⟨dX8_undo_37, rfl⟩ (inRd rfl) ?_
    refine Ev.istore_n (i := 1) (ls' := [(0, _), (1, _)]) ⟨dX8_undo_38, rfl⟩ rfl (by decide) rfl ?_
    obtain ⟨s12, hl, h⟩ := bnd_s h
    refine e_X8_undo_39 Θ D z _ _ _ _ _ _ _ _ hl ?_
    clear hl
    refine Ev.aload_n (q := 0) ⟨dX8_undo_73, rfl⟩ rfl rfl ?_
    refine Ev.getI fX8_166 (Or.inl rfl) ⟨dX8_undo_74, rfl⟩ ?_
    obtain rfl := Option.some.inj h
    exact Ev.ireturn (ty := .int) ⟨dX8_undo_77, rfl⟩ rfl rfl ⟨rfl, rfl⟩
  · replace h := (if_neg hc).symm.trans h; clear hc
    refine Ev.iconst ⟨dX8_undo_25, rfl⟩ (inRd rfl) ?_
    obtain rfl := Option.some.inj h
    exact Ev.ireturn (ty := .int) ⟨dX8_undo_26, rfl⟩ rfl rfl ⟨rfl, rfl⟩
def F_X8_undo (z : Nat) (v0 : Nat) (x : Mm) : Option (Int × Mm) := (some (wI x 8 v0 0 ((0 : Int)))).bind fun x1 => if (x1.1 8 v0 12) ≤ 0 then (F_X8_undo_18 z (v0) ((0 : Int)) (v0) x1) else (F_X8_undo_18 z (v0) ((1 : Int)) (v0) x1)
set_option maxHeartbeats 4000000 in
set_option maxRecDepth 20000 in
theorem c_X8_undo (Θ : GC) (D : Nat → Nat → Prop) (z : Nat) (v0 : Nat) (x : Mm) (y) (h : F_X8_undo z v0 x = some y) : Cal Θ mX8_undo 1 22 0 0 [vr 8 (v0 + 1)] (hq D x) (Ret (vi y.1) (hq D y.2)) := by
  refine Cal.of (by decide +kernel) rfl rfl (Nat.le_of_ble_eq_true rfl) ?_
  show Ev Θ mX8_undo 1 22 0 0 0 [(0, vr 8 (v0 + 1))] [] (hq D x) (Ret (vi y.1) (hq D y.2))
  unfold F_X8_undo at h
  refine Ev.aload_n (q := 0) ⟨dX8_undo_0, rfl⟩ rfl rfl ?_
  refine Ev.iconst ⟨dX8_undo_1, rfl⟩ (inRd rfl) ?_
  obtain ⟨x1, ex, h⟩ := bnd_s h
  refine Ev.putI fX8_38 ⟨dX8_undo_2, rfl⟩ ?_
  refine Ev.cast ?_ rfl rfl (hqI ex)
  clear ex
  refine Ev.aload_n (q := 0) ⟨dX8_undo_5, rfl⟩ rfl rfl ?_
  refine Ev.aload_n (q := 0) ⟨dX8_undo_6, rfl⟩ rfl rfl ?_
  refine Ev.getI fX8_166 (Or.inl rfl) ⟨dX8_undo_7, rfl⟩ ?_
  refine Ev.if_le jX8_undo_10 (fun hc => ?_) (fun hc => ?_)
  · replace h := (if_pos hc).symm.trans h; clear hc
    refine Ev.iconst ⟨dX8_undo_17, rfl⟩ (inRd rfl) ?_
    exact e_X8_undo_18 Θ D z _ _ _ _ _ h
  · replace h := (if_neg hc).symm.trans h; clear hc
    refine Ev.iconst ⟨dX8_undo_13, rfl⟩ (inRd rfl) ?_
    refine Ev.goto jX8_undo_14 ?_
    exact e_X8_undo_18 Θ D z _ _ _ _ _ h

def F_X8_undoCount (z : Nat) (v0 : Nat) (x : Mm) : Option (Int × Mm) := (some (wI x 8 v0 0 ((0 : Int)))).bind fun x1 => some (((x1.1 8 v0 12), x1))
set_option maxHeartbeats 4000000 in
set_option maxRecDepth 20000 in
theorem c_X8_undoCount (Θ : GC) (D : Nat → Nat → Prop) (z : Nat) (v0 : Nat) (x : Mm) (y) (h : F_X8_undoCount z v0 x = some y) : Cal Θ mX8_undoCount 0 0 0 0 [vr 8 (v0 + 1)] (hq D x) (Ret (vi y.1) (hq D y.2)) := by
  refine Cal.of (by decide +kernel) rfl rfl (Nat.le_of_ble_eq_true rfl) ?_
  show Ev Θ mX8_undoCount 0 0 0 0 0 [(0, vr 8 (v0 + 1))] [] (hq D x) (Ret (vi y.1) (hq D y.2))
  unfold F_X8_undoCount at h
  refine Ev.aload_n (q := 0) ⟨dX8_undoCount_0, rfl⟩ rfl rfl ?_
  refine Ev.iconst ⟨dX8_undoCount_1, rfl⟩ (inRd rfl) ?_
  obtain ⟨x1, ex, h⟩ := bnd_s h
  refine Ev.putI fX8_38 ⟨dX8_undoCount_2, rfl⟩ ?_
  refine Ev.cast ?_ rfl rfl (hqI ex)
  clear ex
  refine Ev.aload_n (q := 0) ⟨dX8_undoCount_5, rfl⟩ rfl rfl ?_
  refine Ev.getI fX8_166 (Or.inl rfl) ⟨dX8_undoCount_6, rfl⟩ ?_
  obtain rfl := Option.some.inj h
  exact Ev.ireturn (ty := .int) ⟨dX8_undoCount_9, rfl⟩ rfl rfl ⟨rfl, rfl⟩

def F_X8_save (z : Nat) (v0 : Nat) (x : Mm) : Option (Int × Mm) := (some (wI x 8 v0 0 ((0 : Int)))).bind fun x1 => (F_X8_copy z (0) (2) x1).bind fun r3 => (some (wI r3 8 v0 13 ((1 : Int)))).bind fun x4 => ckI (0 : Int) 5366 <| some (((x4.1 27 0 ((0 : Int)).toNat), x4))
set_option maxHeartbeats 4000000 in
set_option maxRecDepth 20000 in
theorem c_X8_save (Θ : GC) (D : Nat → Nat → Prop) (z : Nat) (v0 : Nat) (x : Mm) (y) (h : F_X8_save z v0 x = some y) : Cal Θ mX8_save 1 22 0 0 [vr 8 (v0 + 1)] (hq D x) (Ret (vi y.1) (hq D y.2)) := by
  refine Cal.of (by decide +kernel) rfl rfl (Nat.le_of_ble_eq_true rfl) ?_
  show Ev Θ mX8_save 1 22 0 0 0 [(0, vr 8 (v0 + 1))] [] (hq D x) (Ret (vi y.1) (hq D y.2))
  unfold F_X8_save at h
  refine Ev.aload_n (q := 0) ⟨dX8_save_0, rfl⟩ rfl rfl ?_
  refine Ev.iconst ⟨dX8_save_1, rfl⟩ (inRd rfl) ?_
  obtain ⟨x1, ex, h⟩ := bnd_s h
  refine Ev.putI fX8_38 ⟨dX8_save_2, rfl⟩ ?_
  refine Ev.cast ?_ rfl rfl (hqI ex)
  clear ex
  refine Ev.aload_n (q := 0) ⟨dX8_save_5, rfl⟩ rfl rfl ?_
  refine Ev.getRk (C2 := 27) (r := 0) fX8_13 rfl (by decide) (by decide) ⟨dX8_save_6, rfl⟩ ?_
  refine Ev.aload_n (q := 0) ⟨dX8_save_9, rfl⟩ rfl rfl ?_
  refine Ev.getRk (C2 := 27) (r := 2) fX8_23 rfl (by decide) (by decide) ⟨dX8_save_10, rfl⟩ ?_
  obtain ⟨r3, hv2, h⟩ := bnd_s h
  refine Ev.callSV (mc1 := 0) (ms1 := 0) (h1 := hq D r3) sX8_162 (c_X8_copy Θ D z _ _ _ _ hv2) rfl rfl ⟨by decide, by decide, Nat.le_of_eq (Nat.zero_add _), Nat.le_of_eq (Nat.zero_add _), Nat.le_of_ble_eq_true rfl⟩ ⟨dX8_save_13, rfl⟩ ?_
  clear hv2
  refine Ev.aload_n (q := 0) ⟨dX8_save_16, rfl⟩ rfl rfl ?_
  refine Ev.iconst ⟨dX8_save_17, rfl⟩ (inRd rfl) ?_
  obtain ⟨x4, ex, h⟩ := bnd_s h
  refine Ev.putZ fX8_169 (by decide) ⟨dX8_save_18, rfl⟩ ?_
  refine Ev.cast ?_ rfl rfl (hqI ex)
  clear ex
  refine Ev.aload_n (q := 0) ⟨dX8_save_21, rfl⟩ rfl rfl ?_
  refine Ev.getRk (C2 := 27) (r := 0) fX8_13 rfl (by decide) (by decide) ⟨dX8_save_22, rfl⟩ ?_
  refine Ev.iconst ⟨dX8_save_25, rfl⟩ (inRd rfl) ?_
  obtain ⟨c5, h⟩ := ckI_s h
  refine Ev.iaload (by decide) c5.1 c5.2 ⟨dX8_save_26, rfl⟩ ?_
  obtain rfl := Option.some.inj h
  exact Ev.ireturn (ty := .int) ⟨dX8_save_27, rfl⟩ rfl rfl ⟨rfl, rfl⟩

def F_X8_restore (z : Nat) (v0 : Nat) (x : Mm) : Option (Int × Mm) := (some (wI x 8 v0 0 ((0 : Int)))).bind fun x1 => (F_X8_fails z (v0) ((x1.1 8 v0 13)) ((1 : Int)) x1).bind fun r3 => if r3.1 = 0 then ((F_X8_copy z (2) (0) r3.2).bind fun r5 => (some (wI r5 8 v0 12 ((0 : Int)))).bind fun x6 => ckI (0 : Int) 5366 <| some (((x6.1 27 0 ((0 : Int)).toNat), x6))) else (some (((0 : Int), r3.2)))
set_option maxHeartbeats 4000000 in
set_option maxRecDepth 20000 in
theorem c_X8_restore (Θ : GC) (D : Nat → Nat → Prop) (z : Nat) (v0 : Nat) (x : Mm) (y) (h : F_X8_restore z v0 x = some y) : Cal Θ mX8_restore 1 22 0 0 [vr 8 (v0 + 1)] (hq D x) (Ret (vi y.1) (hq D y.2)) := by
  refine Cal.of (by decide +kernel) rfl rfl (Nat.le_of_ble_eq_true rfl) ?_
  show Ev Θ mX8_restore 1 22 0 0 0 [(0, vr 8 (v0 + 1))] [] (hq D x) (Ret (vi y.1) (hq D y.2))
  unfold F_X8_restore at h
  refine Ev.aload_n (q := 0) ⟨dX8_restore_0, rfl⟩ rfl rfl ?_
  refine Ev.iconst ⟨dX8_restore_1, rfl⟩ (inRd rfl) ?_
  obtain ⟨x1, ex, h⟩ := bnd_s h
  refine Ev.putI fX8_38 ⟨dX8_restore_2, rfl⟩ ?_
  refine Ev.cast ?_ rfl rfl (hqI ex)
  clear ex
  refine Ev.aload_n (q := 0) ⟨dX8_restore_5, rfl⟩ rfl rfl ?_
  refine Ev.aload_n (q := 0) ⟨dX8_restore_6, rfl⟩ rfl rfl ?_
  refine Ev.getI fX8_169 (Or.inr rfl) ⟨dX8_restore_7, rfl⟩ ?_
  refine Ev.iconst ⟨dX8_restore_10, rfl⟩ (inRd rfl) ?_
  obtain ⟨r3, hv2, h⟩ := bnd_s h
  refine Ev.callV1 (mc1 := 0) (ms1 := 0) (v := vi r3.1) (h1 := hq D r3.2) vX8_49 (c_X8_fails Θ D z _ _ _ _ _ hv2) rfl rfl (by decide) rfl ⟨by decide, by decide, Nat.le_of_eq (Nat.zero_add _), Nat.le_of_eq (Nat.zero_add _), Nat.le_of_ble_eq_true rfl⟩ ⟨dX8_restore_11, rfl⟩ ?_
  clear hv2
  refine Ev.if_eq jX8_restore_14 (fun hc => ?_) (fun hc => ?_)
  · replace h := (if_pos hc).symm.trans h; clear hc
    refine Ev.aload_n (q := 0) ⟨dX8_restore_19, rfl⟩ rfl rfl ?_
    refine Ev.getRk (C2 := 27) (r := 2) fX8_23 rfl (by decide) (by decide) ⟨dX8_restore_20, rfl⟩ ?_
    refine Ev.aload_n (q := 0) ⟨dX8_restore_23, rfl⟩ rfl rfl ?_
    refine Ev.getRk (C2 := 27) (r := 0) fX8_13 rfl (by decide) (by decide) ⟨dX8_restore_24, rfl⟩ ?_
    obtain ⟨r5, hv4, h⟩ := bnd_s h
    refine Ev.callSV (mc1 := 0) (ms1 := 0) (h1 := hq D r5) sX8_162 (c_X8_copy Θ D z _ _ _ _ hv4) rfl rfl ⟨by decide, by decide, Nat.le_of_eq (Nat.zero_add _), Nat.le_of_eq (Nat.zero_add _), Nat.le_of_ble_eq_true rfl⟩ ⟨dX8_restore_27, rfl⟩ ?_
    clear hv4
    refine Ev.aload_n (q := 0) ⟨dX8_restore_30, rfl⟩ rfl rfl ?_
    refine Ev.iconst ⟨dX8_restore_31, rfl⟩ (inRd rfl) ?_
    obtain ⟨x6, ex, h⟩ := bnd_s h
    refine Ev.putI fX8_166 ⟨dX8_restore_32, rfl⟩ ?_
    refine Ev.cast ?_ rfl rfl (hqI ex)
    clear ex
    refine Ev.aload_n (q := 0) ⟨dX8_restore_35, rfl⟩ rfl rfl ?_
    refine Ev.getRk (C2 := 27) (r := 0) fX8_13 rfl (by decide) (by decide) ⟨dX8_restore_36, rfl⟩ ?_
    refine Ev.iconst ⟨dX8_restore_39, rfl⟩ (inRd rfl) ?_
    obtain ⟨c7, h⟩ := ckI_s h
    refine Ev.iaload (by decide) c7.1 c7.2 ⟨dX8_restore_40, rfl⟩ ?_
    obtain rfl := Option.some.inj h
    exact Ev.ireturn (ty := .int) ⟨dX8_restore_41, rfl⟩ rfl rfl ⟨rfl, rfl⟩
  · replace h := (if_neg hc).symm.trans h; clear hc
    refine Ev.iconst ⟨dX8_restore_17, rfl⟩ (inRd rfl) ?_
    obtain rfl := Option.some.inj h
    exact Ev.ireturn (ty := .int) ⟨dX8_restore_18, rfl⟩ rfl rfl ⟨rfl, rfl⟩

def F_X8_isClient (z : Nat) (v0 : Nat) (v1 : Int) (x : Mm) : Option (Int) := ckI (2 : Int) 5366 <| ckR (((x.1 27 0 ((2 : Int)).toNat) - (1 : Int))) <| (F_X8_in z (v1) ((0 : Int)) (((x.1 27 0 ((2 : Int)).toNat) - (1 : Int))) x).bind fun r4 => ckZ (r4) <| some (r4)
set_option maxHeartbeats 4000000 in
set_option maxRecDepth 20000 in
theorem c_X8_isClient (Θ : GC) (D : Nat → Nat → Prop) (z : Nat) (v0 : Nat) (v1 : Int) (x : Mm) (y) (h : F_X8_isClient z v0 v1 x = some y) : Cal Θ mX8_isClient 1 22 0 0 [vr 8 (v0 + 1), vi (v1)] (hq D x) (Ret (vi y) (hq D x)) := by
  refine Cal.of (by decide +kernel) rfl rfl (Nat.le_of_ble_eq_true rfl) ?_
  show Ev Θ mX8_isClient 1 22 0 0 0 [(0, vr 8 (v0 + 1)), (1, vi (v1))] [] (hq D x) (Ret (vi y) (hq D x))
  unfold F_X8_isClient at h
  refine Ev.iload_n (q := 1) ⟨dX8_isClient_0, rfl⟩ rfl rfl ?_
  refine Ev.iconst ⟨dX8_isClient_1, rfl⟩ (inRd rfl) ?_
  refine Ev.aload_n (q := 0) ⟨dX8_isClient_2, rfl⟩ rfl rfl ?_
  refine Ev.getRk (C2 := 27) (r := 0) fX8_13 rfl (by decide) (by decide) ⟨dX8_isClient_3, rfl⟩ ?_
  refine Ev.iconst ⟨dX8_isClient_6, rfl⟩ (inRd rfl) ?_
  obtain ⟨c1, h⟩ := ckI_s h
  refine Ev.iaload (by decide) c1.1 c1.2 ⟨dX8_isClient_7, rfl⟩ ?_
  refine Ev.iconst ⟨dX8_isClient_8, rfl⟩ (inRd rfl) ?_
  obtain ⟨c2, h⟩ := ckR_s h
  refine Ev.isub ⟨dX8_isClient_9, rfl⟩ c2 ?_
  obtain ⟨r4, hv3, h⟩ := bnd_s h
  refine Ev.callS1 (mc1 := 0) (ms1 := 0) (v := vi r4) (h1 := hq D x) sX8_53 (c_X8_in Θ D z _ _ _ _ _ hv3) rfl rfl ⟨by decide, by decide, Nat.le_of_eq (Nat.zero_add _), Nat.le_of_eq (Nat.zero_add _), Nat.le_of_ble_eq_true rfl⟩ ⟨dX8_isClient_10, rfl⟩ ?_
  clear hv3
  obtain ⟨c5, h⟩ := ckZ_s h
  obtain rfl := Option.some.inj h
  exact Ev.ireturn (ty := .boolean) ⟨dX8_isClient_13, rfl⟩ rfl (nz c5) ⟨rfl, rfl⟩

def F_X8_isNode (z : Nat) (v0 : Nat) (v1 : Int) (x : Mm) : Option (Int) := ckI (3 : Int) 5366 <| ckR (((x.1 27 0 ((3 : Int)).toNat) - (1 : Int))) <| (F_X8_in z (v1) ((0 : Int)) (((x.1 27 0 ((3 : Int)).toNat) - (1 : Int))) x).bind fun r4 => ckZ (r4) <| some (r4)
set_option maxHeartbeats 4000000 in
set_option maxRecDepth 20000 in
theorem c_X8_isNode (Θ : GC) (D : Nat → Nat → Prop) (z : Nat) (v0 : Nat) (v1 : Int) (x : Mm) (y) (h : F_X8_isNode z v0 v1 x = some y) : Cal Θ mX8_isNode 1 22 0 0 [vr 8 (v0 + 1), vi (v1)] (hq D x) (Ret (vi y) (hq D x)) := by
  refine Cal.of (by decide +kernel) rfl rfl (Nat.le_of_ble_eq_true rfl) ?_
  show Ev Θ mX8_isNode 1 22 0 0 0 [(0, vr 8 (v0 + 1)), (1, vi (v1))] [] (hq D x) (Ret (vi y) (hq D x))
  unfold F_X8_isNode at h
  refine Ev.iload_n (q := 1) ⟨dX8_isNode_0, rfl⟩ rfl rfl ?_
  refine Ev.iconst ⟨dX8_isNode_1, rfl⟩ (inRd rfl) ?_
  refine Ev.aload_n (q := 0) ⟨dX8_isNode_2, rfl⟩ rfl rfl ?_
  refine Ev.getRk (C2 := 27) (r := 0) fX8_13 rfl (by decide) (by decide) ⟨dX8_isNode_3, rfl⟩ ?_
  refine Ev.iconst ⟨dX8_isNode_6, rfl⟩ (inRd rfl) ?_
  obtain ⟨c1, h⟩ := ckI_s h
  refine Ev.iaload (by decide) c1.1 c1.2 ⟨dX8_isNode_7, rfl⟩ ?_
  refine Ev.iconst ⟨dX8_isNode_8, rfl⟩ (inRd rfl) ?_
  obtain ⟨c2, h⟩ := ckR_s h
  refine Ev.isub ⟨dX8_isNode_9, rfl⟩ c2 ?_
  obtain ⟨r4, hv3, h⟩ := bnd_s h
  refine Ev.callS1 (mc1 := 0) (ms1 := 0) (v := vi r4) (h1 := hq D x) sX8_53 (c_X8_in Θ D z _ _ _ _ _ hv3) rfl rfl ⟨by decide, by decide, Nat.le_of_eq (Nat.zero_add _), Nat.le_of_eq (Nat.zero_add _), Nat.le_of_ble_eq_true rfl⟩ ⟨dX8_isNode_10, rfl⟩ ?_
  clear hv3
  obtain ⟨c5, h⟩ := ckZ_s h
  obtain rfl := Option.some.inj h
  exact Ev.ireturn (ty := .boolean) ⟨dX8_isNode_13, rfl⟩ rfl (nz c5) ⟨rfl, rfl⟩

def F_X8_isField (z : Nat) (v0 : Nat) (v1 : Int) (x : Mm) : Option (Int) := ckI (1 : Int) 5366 <| ckR (((x.1 27 0 ((1 : Int)).toNat) - (1 : Int))) <| (F_X8_in z (v1) ((0 : Int)) (((x.1 27 0 ((1 : Int)).toNat) - (1 : Int))) x).bind fun r4 => ckZ (r4) <| some (r4)
set_option maxHeartbeats 4000000 in
set_option maxRecDepth 20000 in
theorem c_X8_isField (Θ : GC) (D : Nat → Nat → Prop) (z : Nat) (v0 : Nat) (v1 : Int) (x : Mm) (y) (h : F_X8_isField z v0 v1 x = some y) : Cal Θ mX8_isField 1 22 0 0 [vr 8 (v0 + 1), vi (v1)] (hq D x) (Ret (vi y) (hq D x)) := by
  refine Cal.of (by decide +kernel) rfl rfl (Nat.le_of_ble_eq_true rfl) ?_
  show Ev Θ mX8_isField 1 22 0 0 0 [(0, vr 8 (v0 + 1)), (1, vi (v1))] [] (hq D x) (Ret (vi y) (hq D x))
  unfold F_X8_isField at h
  refine Ev.iload_n (q := 1) ⟨dX8_isField_0, rfl⟩ rfl rfl ?_
  refine Ev.iconst ⟨dX8_isField_1, rfl⟩ (inRd rfl) ?_
  refine Ev.aload_n (q := 0) ⟨dX8_isField_2, rfl⟩ rfl rfl ?_
  refine Ev.getRk (C2 := 27) (r := 0) fX8_13 rfl (by decide) (by decide) ⟨dX8_isField_3, rfl⟩ ?_
  refine Ev.iconst ⟨dX8_isField_6, rfl⟩ (inRd rfl) ?_
  obtain ⟨c1, h⟩ := ckI_s h
  refine Ev.iaload (by decide) c1.1 c1.2 ⟨dX8_isField_7, rfl⟩ ?_
  refine Ev.iconst ⟨dX8_isField_8, rfl⟩ (inRd rfl) ?_
  obtain ⟨c2, h⟩ := ckR_s h
  refine Ev.isub ⟨dX8_isField_9, rfl⟩ c2 ?_
  obtain ⟨r4, hv3, h⟩ := bnd_s h
  refine Ev.callS1 (mc1 := 0) (ms1 := 0) (v := vi r4) (h1 := hq D x) sX8_53 (c_X8_in Θ D z _ _ _ _ _ hv3) rfl rfl ⟨by decide, by decide, Nat.le_of_eq (Nat.zero_add _), Nat.le_of_eq (Nat.zero_add _), Nat.le_of_ble_eq_true rfl⟩ ⟨dX8_isField_10, rfl⟩ ?_
  clear hv3
  obtain ⟨c5, h⟩ := ckZ_s h
  obtain rfl := Option.some.inj h
  exact Ev.ireturn (ty := .boolean) ⟨dX8_isField_13, rfl⟩ rfl (nz c5) ⟨rfl, rfl⟩

def F_X8_hasLease (z : Nat) (v0 : Nat) (v1 : Int) (x : Mm) : Option (Int) := ckR (((3 : Int) * v1)) <| ckR (((611 : Int) + ((3 : Int) * v1))) <| ckI ((611 : Int) + ((3 : Int) * v1)) 5366 <| if (x.1 27 0 (((611 : Int) + ((3 : Int) * v1))).toNat) = (-1 : Int) then (some ((0 : Int))) else (some ((1 : Int)))
set_option maxHeartbeats 4000000 in
set_option maxRecDepth 20000 in
theorem c_X8_hasLease (Θ : GC) (D : Nat → Nat → Prop) (z : Nat) (v0 : Nat) (v1 : Int) (x : Mm) (y) (h : F_X8_hasLease z v0 v1 x = some y) : Cal Θ mX8_hasLease 0 0 0 0 [vr 8 (v0 + 1), vi (v1)] (hq D x) (Ret (vi y) (hq D x)) := by
  refine Cal.of (by decide +kernel) rfl rfl (Nat.le_of_ble_eq_true rfl) ?_
  show Ev Θ mX8_hasLease 0 0 0 0 0 [(0, vr 8 (v0 + 1)), (1, vi (v1))] [] (hq D x) (Ret (vi y) (hq D x))
  unfold F_X8_hasLease at h
  refine Ev.aload_n (q := 0) ⟨dX8_hasLease_0, rfl⟩ rfl rfl ?_
  refine Ev.getRk (C2 := 27) (r := 0) fX8_13 rfl (by decide) (by decide) ⟨dX8_hasLease_1, rfl⟩ ?_
  refine Ev.sipush ⟨dX8_hasLease_4, rfl⟩ (inRd rfl) (by decide) ?_
  refine Ev.iconst ⟨dX8_hasLease_7, rfl⟩ (inRd rfl) ?_
  refine Ev.iload_n (q := 1) ⟨dX8_hasLease_8, rfl⟩ rfl rfl ?_
  obtain ⟨c1, h⟩ := ckR_s h
  refine Ev.imul ⟨dX8_hasLease_9, rfl⟩ c1 ?_
  obtain ⟨c2, h⟩ := ckR_s h
  refine Ev.iadd ⟨dX8_hasLease_10, rfl⟩ c2 ?_
  obtain ⟨c3, h⟩ := ckI_s h
  refine Ev.iaload (by decide) c3.1 c3.2 ⟨dX8_hasLease_11, rfl⟩ ?_
  refine Ev.iconst ⟨dX8_hasLease_12, rfl⟩ (inRd rfl) ?_
  refine Ev.icmp_eq jX8_hasLease_13 (fun hc => ?_) (fun hc => ?_)
  · replace h := (if_pos hc).symm.trans h; clear hc
    refine Ev.iconst ⟨dX8_hasLease_20, rfl⟩ (inRd rfl) ?_
    obtain rfl := Option.some.inj h
    exact Ev.ireturn (ty := .boolean) ⟨dX8_hasLease_21, rfl⟩ rfl rfl ⟨rfl, rfl⟩
  · replace h := (if_neg hc).symm.trans h; clear hc
    refine Ev.iconst ⟨dX8_hasLease_16, rfl⟩ (inRd rfl) ?_
    refine Ev.goto jX8_hasLease_17 ?_
    obtain rfl := Option.some.inj h
    exact Ev.ireturn (ty := .boolean) ⟨dX8_hasLease_21, rfl⟩ rfl rfl ⟨rfl, rfl⟩

def F_X8_isAlive (z : Nat) (v0 : Nat) (v1 : Int) (x : Mm) : Option (Int) := ckR (((191 : Int) + v1)) <| ckI ((191 : Int) + v1) 5366 <| if (x.1 27 0 (((191 : Int) + v1)).toNat) = (1 : Int) then (some ((1 : Int))) else (some ((0 : Int)))
set_option maxHeartbeats 4000000 in
set_option maxRecDepth 20000 in
theorem c_X8_isAlive (Θ : GC) (D : Nat → Nat → Prop) (z : Nat) (v0 : Nat) (v1 : Int) (x : Mm) (y) (h : F_X8_isAlive z v0 v1 x = some y) : Cal Θ mX8_isAlive 0 0 0 0 [vr 8 (v0 + 1), vi (v1)] (hq D x) (Ret (vi y) (hq D x)) := by
  refine Cal.of (by decide +kernel) rfl rfl (Nat.le_of_ble_eq_true rfl) ?_
  show Ev Θ mX8_isAlive 0 0 0 0 0 [(0, vr 8 (v0 + 1)), (1, vi (v1))] [] (hq D x) (Ret (vi y) (hq D x))
  unfold F_X8_isAlive at h
  refine Ev.aload_n (q := 0) ⟨dX8_isAlive_0, rfl⟩ rfl rfl ?_
  refine Ev.getRk (C2 := 27) (r := 0) fX8_13 rfl (by decide) (by decide) ⟨dX8_isAlive_1, rfl⟩ ?_
  refine Ev.sipush ⟨dX8_isAlive_4, rfl⟩ (inRd rfl) (by decide) ?_
  refine Ev.iload_n (q := 1) ⟨dX8_isAlive_7, rfl⟩ rfl rfl ?_
  obtain ⟨c1, h⟩ := ckR_s h
  refine Ev.iadd ⟨dX8_isAlive_8, rfl⟩ c1 ?_
  obtain ⟨c2, h⟩ := ckI_s h
  refine Ev.iaload (by decide) c2.1 c2.2 ⟨dX8_isAlive_9, rfl⟩ ?_
  refine Ev.iconst ⟨dX8_isAlive_10, rfl⟩ (inRd rfl) ?_
  refine Ev.icmp_ne jX8_isAlive_11 (fun hc => ?_) (fun hc => ?_)
  · replace h := (if_neg hc).symm.trans h; clear hc
    refine Ev.iconst ⟨dX8_isAlive_18, rfl⟩ (inRd rfl) ?_
    obtain rfl := Option.some.inj h
    exact Ev.ireturn (ty := .boolean) ⟨dX8_isAlive_19, rfl⟩ rfl rfl ⟨rfl, rfl⟩
  · replace h := (if_pos hc).symm.trans h; clear hc
    refine Ev.iconst ⟨dX8_isAlive_14, rfl⟩ (inRd rfl) ?_
    refine Ev.goto jX8_isAlive_15 ?_
    obtain rfl := Option.some.inj h
    exact Ev.ireturn (ty := .boolean) ⟨dX8_isAlive_19, rfl⟩ rfl rfl ⟨rfl, rfl⟩

def F_X8_partOf (z : Nat) (v0 : Int) (v1 : Int) (v2 : Int) (x : Mm) : Option (Int) := ckR (((900 : Int) * v0)) <| ckR (((866 : Int) + ((900 : Int) * v0))) <| ckR ((((866 : Int) + ((900 : Int) * v0)) + v1)) <| ckR (((((866 : Int) + ((900 : Int) * v0)) + v1) + v2)) <| some (((((866 : Int) + ((900 : Int) * v0)) + v1) + v2))
set_option maxHeartbeats 4000000 in
set_option maxRecDepth 20000 in
theorem c_X8_partOf (Θ : GC) (D : Nat → Nat → Prop) (z : Nat) (v0 : Int) (v1 : Int) (v2 : Int) (x : Mm) (y) (h : F_X8_partOf z v0 v1 v2 x = some y) : Cal Θ mX8_partOf 0 0 0 0 [vi (v0), vi (v1), vi (v2)] (hq D x) (Ret (vi y) (hq D x)) := by
  refine Cal.of (by decide +kernel) rfl rfl (Nat.le_of_ble_eq_true rfl) ?_
  show Ev Θ mX8_partOf 0 0 0 0 0 [(0, vi (v0)), (1, vi (v1)), (2, vi (v2))] [] (hq D x) (Ret (vi y) (hq D x))
  unfold F_X8_partOf at h
  refine Ev.sipush ⟨dX8_partOf_0, rfl⟩ (inRd rfl) (by decide) ?_
  refine Ev.sipush ⟨dX8_partOf_3, rfl⟩ (inRd rfl) (by decide) ?_
  refine Ev.iload_n (q := 0) ⟨dX8_partOf_6, rfl⟩ rfl rfl ?_
  obtain ⟨c1, h⟩ := ckR_s h
  refine Ev.imul ⟨dX8_partOf_7, rfl⟩ c1 ?_
  obtain ⟨c2, h⟩ := ckR_s h
  refine Ev.iadd ⟨dX8_partOf_8, rfl⟩ c2 ?_
  refine Ev.iload_n (q := 1) ⟨dX8_partOf_9, rfl⟩ rfl rfl ?_
  obtain ⟨c3, h⟩ := ckR_s h
  refine Ev.iadd ⟨dX8_partOf_10, rfl⟩ c3 ?_
  refine Ev.iload_n (q := 2) ⟨dX8_partOf_11, rfl⟩ rfl rfl ?_
  obtain ⟨c4, h⟩ := ckR_s h
  refine Ev.iadd ⟨dX8_partOf_12, rfl⟩ c4 ?_
  obtain rfl := Option.some.inj h
  exact Ev.ireturn (ty := .int) ⟨dX8_partOf_13, rfl⟩ rfl rfl ⟨rfl, rfl⟩

def F_X8_is (z : Nat) (v0 : Nat) (v1 : Int) (v2 : Int) (v3 : Int) (x : Mm) : Option (Int) := (F_X8_partOf z (v1) (v2) (v3) x).bind fun r2 => ckI r2 5366 <| if (x.1 27 0 (r2).toNat) = (1 : Int) then (some ((1 : Int))) else (some ((0 : Int)))
set_option maxHeartbeats 4000000 in
set_option maxRecDepth 20000 in
theorem c_X8_is (Θ : GC) (D : Nat → Nat → Prop) (z : Nat) (v0 : Nat) (v1 : Int) (v2 : Int) (v3 : Int) (x : Mm) (y) (h : F_X8_is z v0 v1 v2 v3 x = some y) : Cal Θ mX8_is 1 22 0 0 [vr 8 (v0 + 1), vi (v1), vi (v2), vi (v3)] (hq D x) (Ret (vi y) (hq D x)) := by
  refine Cal.of (by decide +kernel) rfl rfl (Nat.le_of_ble_eq_true rfl) ?_
  show Ev Θ mX8_is 1 22 0 0 0 [(0, vr 8 (v0 + 1)), (1, vi (v1)), (2, vi (v2)), (3, vi (v3))] [] (hq D x) (Ret (vi y) (hq D x))
  unfold F_X8_is at h
  refine Ev.aload_n (q := 0) ⟨dX8_is_0, rfl⟩ rfl rfl ?_
  refine Ev.getRk (C2 := 27) (r := 0) fX8_13 rfl (by decide) (by decide) ⟨dX8_is_1, rfl⟩ ?_
  refine Ev.iload_n (q := 1) ⟨dX8_is_4, rfl⟩ rfl rfl ?_
  refine Ev.iload_n (q := 2) ⟨dX8_is_5, rfl⟩ rfl rfl ?_
  refine Ev.iload_n (q := 3) ⟨dX8_is_6, rfl⟩ rfl rfl ?_
  obtain ⟨r2, hv1, h⟩ := bnd_s h
  refine Ev.callS1 (mc1 := 0) (ms1 := 0) (v := vi r2) (h1 := hq D x) sX8_173 (c_X8_partOf Θ D z _ _ _ _ _ hv1) rfl rfl ⟨by decide, by decide, Nat.le_of_eq (Nat.zero_add _), Nat.le_of_eq (Nat.zero_add _), Nat.le_of_ble_eq_true rfl⟩ ⟨dX8_is_7, rfl⟩ ?_
  clear hv1
  obtain ⟨c3, h⟩ := ckI_s h
  refine Ev.iaload (by decide) c3.1 c3.2 ⟨dX8_is_10, rfl⟩ ?_
  refine Ev.iconst ⟨dX8_is_11, rfl⟩ (inRd rfl) ?_
  refine Ev.icmp_ne jX8_is_12 (fun hc => ?_) (fun hc => ?_)
  · replace h := (if_neg hc).symm.trans h; clear hc
    refine Ev.iconst ⟨dX8_is_19, rfl⟩ (inRd rfl) ?_
    obtain rfl := Option.some.inj h
    exact Ev.ireturn (ty := .boolean) ⟨dX8_is_20, rfl⟩ rfl rfl ⟨rfl, rfl⟩
  · replace h := (if_pos hc).symm.trans h; clear hc
    refine Ev.iconst ⟨dX8_is_15, rfl⟩ (inRd rfl) ?_
    refine Ev.goto jX8_is_16 ?_
    obtain rfl := Option.some.inj h
    exact Ev.ireturn (ty := .boolean) ⟨dX8_is_20, rfl⟩ rfl rfl ⟨rfl, rfl⟩

def F_X8_old (z : Nat) (v0 : Nat) (v1 : Int) (v2 : Int) (v3 : Int) (x : Mm) : Option (Int) := ckR (((6 : Int) * v2)) <| ckR ((((6 : Int) * v2) + v3)) <| (F_X8_partOf z (v1) ((180 : Int)) ((((6 : Int) * v2) + v3)) x).bind fun r4 => ckI r4 5366 <| some ((x.1 27 0 (r4).toNat))
set_option maxHeartbeats 4000000 in
set_option maxRecDepth 20000 in
theorem c_X8_old (Θ : GC) (D : Nat → Nat → Prop) (z : Nat) (v0 : Nat) (v1 : Int) (v2 : Int) (v3 : Int) (x : Mm) (y) (h : F_X8_old z v0 v1 v2 v3 x = some y) : Cal Θ mX8_old 1 22 0 0 [vr 8 (v0 + 1), vi (v1), vi (v2), vi (v3)] (hq D x) (Ret (vi y) (hq D x)) := by
  refine Cal.of (by decide +kernel) rfl rfl (Nat.le_of_ble_eq_true rfl) ?_
  show Ev Θ mX8_old 1 22 0 0 0 [(0, vr 8 (v0 + 1)), (1, vi (v1)), (2, vi (v2)), (3, vi (v3))] [] (hq D x) (Ret (vi y) (hq D x))
  unfold F_X8_old at h
  refine Ev.aload_n (q := 0) ⟨dX8_old_0, rfl⟩ rfl rfl ?_
  refine Ev.getRk (C2 := 27) (r := 0) fX8_13 rfl (by decide) (by decide) ⟨dX8_old_1, rfl⟩ ?_
  refine Ev.iload_n (q := 1) ⟨dX8_old_4, rfl⟩ rfl rfl ?_
  refine Ev.sipush ⟨dX8_old_5, rfl⟩ (inRd rfl) (by decide) ?_
  refine Ev.bipush ⟨dX8_old_8, rfl⟩ (inRd rfl) (by decide) ?_
  refine Ev.iload_n (q := 2) ⟨dX8_old_10, rfl⟩ rfl rfl ?_
  obtain ⟨c1, h⟩ := ckR_s h
  refine Ev.imul ⟨dX8_old_11, rfl⟩ c1 ?_
  refine Ev.iload_n (q := 3) ⟨dX8_old_12, rfl⟩ rfl rfl ?_
  obtain ⟨c2, h⟩ := ckR_s h
  refine Ev.iadd ⟨dX8_old_13, rfl⟩ c2 ?_
  obtain ⟨r4, hv3, h⟩ := bnd_s h
  refine Ev.callS1 (mc1 := 0) (ms1 := 0) (v := vi r4) (h1 := hq D x) sX8_173 (c_X8_partOf Θ D z _ _ _ _ _ hv3) rfl rfl ⟨by decide, by decide, Nat.le_of_eq (Nat.zero_add _), Nat.le_of_eq (Nat.zero_add _), Nat.le_of_ble_eq_true rfl⟩ ⟨dX8_old_14, rfl⟩ ?_
  clear hv3
  obtain ⟨c5, h⟩ := ckI_s h
  refine Ev.iaload (by decide) c5.1 c5.2 ⟨dX8_old_17, rfl⟩ ?_
  obtain rfl := Option.some.inj h
  exact Ev.ireturn (ty := .int) ⟨dX8_old_18, rfl⟩ rfl rfl ⟨rfl, rfl⟩

def F_X8_fresh (z : Nat) (v0 : Nat) (v1 : Int) (v2 : Int) (v3 : Int) (x : Mm) : Option (Int) := ckR (((6 : Int) * v2)) <| ckR ((((6 : Int) * v2) + v3)) <| (F_X8_partOf z (v1) ((540 : Int)) ((((6 : Int) * v2) + v3)) x).bind fun r4 => ckI r4 5366 <| some ((x.1 27 0 (r4).toNat))
set_option maxHeartbeats 4000000 in
set_option maxRecDepth 20000 in
theorem c_X8_fresh (Θ : GC) (D : Nat → Nat → Prop) (z : Nat) (v0 : Nat) (v1 : Int) (v2 : Int) (v3 : Int) (x : Mm) (y) (h : F_X8_fresh z v0 v1 v2 v3 x = some y) : Cal Θ mX8_fresh 1 22 0 0 [vr 8 (v0 + 1), vi (v1), vi (v2), vi (v3)] (hq D x) (Ret (vi y) (hq D x)) := by
  refine Cal.of (by decide +kernel) rfl rfl (Nat.le_of_ble_eq_true rfl) ?_
  show Ev Θ mX8_fresh 1 22 0 0 0 [(0, vr 8 (v0 + 1)), (1, vi (v1)), (2, vi (v2)), (3, vi (v3))] [] (hq D x) (Ret (vi y) (hq D x))
  unfold F_X8_fresh at h
  refine Ev.aload_n (q := 0) ⟨dX8_fresh_0, rfl⟩ rfl rfl ?_
  refine Ev.getRk (C2 := 27) (r := 0) fX8_13 rfl (by decide) (by decide) ⟨dX8_fresh_1, rfl⟩ ?_
  refine Ev.iload_n (q := 1) ⟨dX8_fresh_4, rfl⟩ rfl rfl ?_
  refine Ev.sipush ⟨dX8_fresh_5, rfl⟩ (inRd rfl) (by decide) ?_
  refine Ev.bipush ⟨dX8_fresh_8, rfl⟩ (inRd rfl) (by decide) ?_
  refine Ev.iload_n (q := 2) ⟨dX8_fresh_10, rfl⟩ rfl rfl ?_
  obtain ⟨c1, h⟩ := ckR_s h
  refine Ev.imul ⟨dX8_fresh_11, rfl⟩ c1 ?_
  refine Ev.iload_n (q := 3) ⟨dX8_fresh_12, rfl⟩ rfl rfl ?_
  obtain ⟨c2, h⟩ := ckR_s h
  refine Ev.iadd ⟨dX8_fresh_13, rfl⟩ c2 ?_
  obtain ⟨r4, hv3, h⟩ := bnd_s h
  refine Ev.callS1 (mc1 := 0) (ms1 := 0) (v := vi r4) (h1 := hq D x) sX8_173 (c_X8_partOf Θ D z _ _ _ _ _ hv3) rfl rfl ⟨by decide, by decide, Nat.le_of_eq (Nat.zero_add _), Nat.le_of_eq (Nat.zero_add _), Nat.le_of_ble_eq_true rfl⟩ ⟨dX8_fresh_14, rfl⟩ ?_
  clear hv3
  obtain ⟨c5, h⟩ := ckI_s h
  refine Ev.iaload (by decide) c5.1 c5.2 ⟨dX8_fresh_17, rfl⟩ ?_
  obtain rfl := Option.some.inj h
  exact Ev.ireturn (ty := .int) ⟨dX8_fresh_18, rfl⟩ rfl rfl ⟨rfl, rfl⟩

def F_X8_value (z : Nat) (v0 : Nat) (v1 : Int) (v2 : Int) (x : Mm) : Option (Int) := ckR (((6 : Int) * v1)) <| ckR (((251 : Int) + ((6 : Int) * v1))) <| ckR ((((251 : Int) + ((6 : Int) * v1)) + v2)) <| ckI (((251 : Int) + ((6 : Int) * v1)) + v2) 5366 <| some ((x.1 27 0 ((((251 : Int) + ((6 : Int) * v1)) + v2)).toNat))
set_option maxHeartbeats 4000000 in
set_option maxRecDepth 20000 in
theorem c_X8_value (Θ : GC) (D : Nat → Nat → Prop) (z : Nat) (v0 : Nat) (v1 : Int) (v2 : Int) (x : Mm) (y) (h : F_X8_value z v0 v1 v2 x = some y) : Cal Θ mX8_value 0 0 0 0 [vr 8 (v0 + 1), vi (v1), vi (v2)] (hq D x) (Ret (vi y) (hq D x)) := by
  refine Cal.of (by decide +kernel) rfl rfl (Nat.le_of_ble_eq_true rfl) ?_
  show Ev Θ mX8_value 0 0 0 0 0 [(0, vr 8 (v0 + 1)), (1, vi (v1)), (2, vi (v2))] [] (hq D x) (Ret (vi y) (hq D x))
  unfold F_X8_value at h
  refine Ev.aload_n (q := 0) ⟨dX8_value_0, rfl⟩ rfl rfl ?_
  refine Ev.getRk (C2 := 27) (r := 0) fX8_13 rfl (by decide) (by decide) ⟨dX8_value_1, rfl⟩ ?_
  refine Ev.sipush ⟨dX8_value_4, rfl⟩ (inRd rfl) (by decide) ?_
  refine Ev.bipush ⟨dX8_value_7, rfl⟩ (inRd rfl) (by decide) ?_
  refine Ev.iload_n (q := 1) ⟨dX8_value_9, rfl⟩ rfl rfl ?_
  obtain ⟨c1, h⟩ := ckR_s h
  refine Ev.imul ⟨dX8_value_10, rfl⟩ c1 ?_
  obtain ⟨c2, h⟩ := ckR_s h
  refine Ev.iadd ⟨dX8_value_11, rfl⟩ c2 ?_
  refine Ev.iload_n (q := 2) ⟨dX8_value_12, rfl⟩ rfl rfl ?_
  obtain ⟨c3, h⟩ := ckR_s h
  refine Ev.iadd ⟨dX8_value_13, rfl⟩ c3 ?_
  obtain ⟨c4, h⟩ := ckI_s h
  refine Ev.iaload (by decide) c4.1 c4.2 ⟨dX8_value_14, rfl⟩ ?_
  obtain rfl := Option.some.inj h
  exact Ev.ireturn (ty := .int) ⟨dX8_value_15, rfl⟩ rfl rfl ⟨rfl, rfl⟩

def F_X8_isWithin_2 (z : Nat) (v0 : Nat) (v1 : Int) (v2 : Int) (x : Mm) : Nat → Int → Option (Int)
  | 0, _ => none
  | k + 1, v3 => if v3 ≤ v2 then (some (v3)) else (ckR (((11 : Int) + v3)) <| ckI ((11 : Int) + v3) 5366 <| F_X8_isWithin_2 z v0 v1 v2 x k ((x.1 27 0 (((11 : Int) + v3)).toNat)))
set_option maxHeartbeats 4000000 in
set_option maxRecDepth 20000 in
theorem e_X8_isWithin_2 (Θ : GC) (D : Nat → Nat → Prop) (z : Nat) (v0 : Nat) (v1 : Int) (v2 : Int) (x : Mm) (Q : Ro → Hp → Prop) (mc ms : Nat) : ∀ (k : Nat) (v3 : Int) (y), F_X8_isWithin_2 z v0 v1 v2 x k v3 = some y → (Ev Θ mX8_isWithin 0 0 mc ms 20 [(0, vr 8 (v0 + 1)), (1, vi (v1)), (2, vi (v2)), (3, vi (y))] [] (hq D x) Q) → Ev Θ mX8_isWithin 0 0 mc ms 2 [(0, vr 8 (v0 + 1)), (1, vi (v1)), (2, vi (v2)), (3, vi (v3))] [] (hq D x) Q := by
  intro k
  induction k with
  | zero => intro v3 y h; exact absurd h (by unfold F_X8_isWithin_2; exact nofun)
  | succ k ih =>
    intro v3 y h k1
    unfold F_X8_isWithin_2 at h
    refine Ev.iload_n (q := 3) ⟨dX8_isWithin_2, rfl⟩ rfl rfl ?_
    refine Ev.iload_n (q := 2) ⟨dX8_isWithin_3, rfl⟩ rfl rfl ?_
    refine Ev.icmp_le jX8_isWithin_4 (fun hc => ?_) (fun hc => ?_)
    · replace h := (if_pos hc).symm.trans h; clear hc
      obtain rfl := Option.some.inj h
      exact k1
    · replace h := (if_neg hc).symm.trans h; clear hc
      refine Ev.aload_n (q := 0) ⟨dX8_isWithin_7, rfl⟩ rfl rfl ?_
      refine Ev.getRk (C2 := 27) (r := 0) fX8_13 rfl (by decide) (by decide) ⟨dX8_isWithin_8, rfl⟩ ?_
      refine Ev.bipush ⟨dX8_isWithin_11, rfl⟩ (inRd rfl) (by decide) ?_
      refine Ev.iload_n (q := 3) ⟨dX8_isWithin_13, rfl⟩ rfl rfl ?_
      obtain ⟨c1, h⟩ := ckR_s h
      refine Ev.iadd ⟨dX8_isWithin_14, rfl⟩ c1 ?_
      obtain ⟨c2, h⟩ := ckI_s h
      refine Ev.iaload (by decide) c2.1 c2.2 ⟨dX8_isWithin_15, rfl⟩ ?_
      refine Ev.istore_n (i := 3) (ls' := [(0, _), (1, _), (2, _), (3, _)]) ⟨dX8_isWithin_16, rfl⟩ rfl (by decide) rfl ?_
      refine Ev.goto jX8_isWithin_17 ?_
      exact ih _ _ h k1
def F_X8_isWithin (z : Nat) (v0 : Nat) (v1 : Int) (v2 : Int) (x : Mm) : Option (Int) := (F_X8_isWithin_2 z (v0) (v1) (v2) x z (v1)).bind fun s3 => if s3 = v2 then (some ((1 : Int))) else (some ((0 : Int)))
set_option maxHeartbeats 4000000 in
set_option maxRecDepth 20000 in
theorem c_X8_isWithin (Θ : GC) (D : Nat → Nat → Prop) (z : Nat) (v0 : Nat) (v1 : Int) (v2 : Int) (x : Mm) (y) (h : F_X8_isWithin z v0 v1 v2 x = some y) : Cal Θ mX8_isWithin 0 0 0 0 [vr 8 (v0 + 1), vi (v1), vi (v2)] (hq D x) (Ret (vi y) (hq D x)) := by
  refine Cal.of (by decide +kernel) rfl rfl (Nat.le_of_ble_eq_true rfl) ?_
  show Ev Θ mX8_isWithin 0 0 0 0 0 [(0, vr 8 (v0 + 1)), (1, vi (v1)), (2, vi (v2))] [] (hq D x) (Ret (vi y) (hq D x))
  unfold F_X8_isWithin at h
  refine Ev.iload_n (q := 1) ⟨dX8_isWithin_0, rfl⟩ rfl rfl ?_
  refine Ev.istore_n (i := 3) (ls' := [(0, _), (1, _), (2, _), (3, _)]) ⟨dX8_isWithin_1, rfl⟩ rfl (by decide) rfl ?_
  obtain ⟨s3, hl, h⟩ := bnd_s h
  refine e_X8_isWithin_2 Θ D z _ _ _ _ _ _ _ _ _ _ hl ?_
  clear hl
  refine Ev.iload_n (q := 3) ⟨dX8_isWithin_20, rfl⟩ rfl rfl ?_
  refine Ev.iload_n (q := 2) ⟨dX8_isWithin_21, rfl⟩ rfl rfl ?_
  refine Ev.icmp_ne jX8_isWithin_22 (fun hc => ?_) (fun hc => ?_)
  · replace h := (if_neg hc).symm.trans h; clear hc
    refine Ev.iconst ⟨dX8_isWithin_29, rfl⟩ (inRd rfl) ?_
    obtain rfl := Option.some.inj h
    exact Ev.ireturn (ty := .boolean) ⟨dX8_isWithin_30, rfl⟩ rfl rfl ⟨rfl, rfl⟩
  · replace h := (if_pos hc).symm.trans h; clear hc
    refine Ev.iconst ⟨dX8_isWithin_25, rfl⟩ (inRd rfl) ?_
    refine Ev.goto jX8_isWithin_26 ?_
    obtain rfl := Option.some.inj h
    exact Ev.ireturn (ty := .boolean) ⟨dX8_isWithin_30, rfl⟩ rfl rfl ⟨rfl, rfl⟩

def F_X8_isBlocker_52 (z : Nat) (v0 : Nat) (v3 : Int) (v5 : Int) (x : Mm) : Option (Int) := (F_X8_isWithin z (v0) (v5) (v3) x).bind fun r7 => if r7 = 0 then ((F_X8_isWithin z (v0) (v3) (v5) x).bind fun r9 => if r9 = 0 then (some ((0 : Int))) else (some ((1 : Int)))) else (some ((1 : Int)))
set_option maxHeartbeats 4000000 in
set_option maxRecDepth 20000 in
theorem e_X8_isBlocker_52 (Θ : GC) (D : Nat → Nat → Prop) (z : Nat) (v0 : Nat) (v3 : Int) (v5 : Int) (x : Mm) (y) (h : F_X8_isBlocker_52 z v0 v3 v5 x = some y) : Ev Θ mX8_isBlocker 1 23 0 0 52 [(0, vr 8 (v0 + 1)), (3, vi (v3)), (5, vi (v5))] [] (hq D x) (Ret (vi y) (hq D x)) := by
  unfold F_X8_isBlocker_52 at h
  refine Ev.aload_n (q := 0) ⟨dX8_isBlocker_52, rfl⟩ rfl rfl ?_
  refine Ev.iload (q := 2) ⟨dX8_isBlocker_53, rfl⟩ rfl ?_
  refine Ev.iload_n (q := 1) ⟨dX8_isBlocker_55, rfl⟩ rfl rfl ?_
  obtain ⟨r7, hv6, h⟩ := bnd_s h
  refine Ev.callV1 (mc1 := 0) (ms1 := 0) (v := vi r7) (h1 := hq D x) vX8_180 (c_X8_isWithin Θ D z _ _ _ _ _ hv6) rfl rfl (by decide) rfl ⟨by decide, by decide, Nat.le_of_eq (Nat.zero_add _), Nat.le_of_eq (Nat.zero_add _), Nat.le_of_ble_eq_true rfl⟩ ⟨dX8_isBlocker_56, rfl⟩ ?_
  clear hv6
  refine Ev.if_ne jX8_isBlocker_59 (fun hc => ?_) (fun hc => ?_)
  · replace h := (if_neg hc).symm.trans h; clear hc
    refine Ev.iconst ⟨dX8_isBlocker_72, rfl⟩ (inRd rfl) ?_
    refine Ev.goto jX8_isBlocker_73 ?_
    obtain rfl := Option.some.inj h
    exact Ev.ireturn (ty := .boolean) ⟨dX8_isBlocker_77, rfl⟩ rfl rfl ⟨rfl, rfl⟩
  · replace h := (if_pos hc).symm.trans h; clear hc
    refine Ev.aload_n (q := 0) ⟨dX8_isBlocker_62, rfl⟩ rfl rfl ?_
    refine Ev.iload_n (q := 1) ⟨dX8_isBlocker_63, rfl⟩ rfl rfl ?_
    refine Ev.iload (q := 2) ⟨dX8_isBlocker_64, rfl⟩ rfl ?_
    obtain ⟨r9, hv8, h⟩ := bnd_s h
    refine Ev.callV1 (mc1 := 0) (ms1 := 0) (v := vi r9) (h1 := hq D x) vX8_180 (c_X8_isWithin Θ D z _ _ _ _ _ hv8) rfl rfl (by decide) rfl ⟨by decide, by decide, Nat.le_of_eq (Nat.zero_add _), Nat.le_of_eq (Nat.zero_add _), Nat.le_of_ble_eq_true rfl⟩ ⟨dX8_isBlocker_66, rfl⟩ ?_
    clear hv8
    refine Ev.if_eq jX8_isBlocker_69 (fun hc => ?_) (fun hc => ?_)
    · replace h := (if_pos hc).symm.trans h; clear hc
      refine Ev.iconst ⟨dX8_isBlocker_76, rfl⟩ (inRd rfl) ?_
      obtain rfl := Option.some.inj h
      exact Ev.ireturn (ty := .boolean) ⟨dX8_isBlocker_77, rfl⟩ rfl rfl ⟨rfl, rfl⟩
    · replace h := (if_neg hc).symm.trans h; clear hc
      refine Ev.iconst ⟨dX8_isBlocker_72, rfl⟩ (inRd rfl) ?_
      refine Ev.goto jX8_isBlocker_73 ?_
      obtain rfl := Option.some.inj h
      exact Ev.ireturn (ty := .boolean) ⟨dX8_isBlocker_77, rfl⟩ rfl rfl ⟨rfl, rfl⟩
def F_X8_isBlocker (z : Nat) (v0 : Nat) (v1 : Int) (v2 : Int) (v3 : Int) (v4 : Int) (x : Mm) : Option (Int) := if v1 = v2 then (some ((0 : Int))) else ((F_X8_hasLease z (v0) (v1) x).bind fun r2 => if r2 = 0 then (some ((0 : Int))) else (ckR (((3 : Int) * v1)) <| ckR (((611 : Int) + ((3 : Int) * v1))) <| ckI ((611 : Int) + ((3 : Int) * v1)) 5366 <| if v4 = 0 then (ckR (((3 : Int) * v1)) <| ckR (((611 : Int) + ((3 : Int) * v1))) <| ckR ((((611 : Int) + ((3 : Int) * v1)) + (2 : Int))) <| ckI (((611 : Int) + ((3 : Int) * v1)) + (2 : Int)) 5366 <| if (x.1 27 0 ((((611 : Int) + ((3 : Int) * v1)) + (2 : Int))).toNat) = (1 : Int) then (F_X8_isBlocker_52 z (v0) (v3) ((x.1 27 0 (((611 : Int) + ((3 : Int) * v1))).toNat)) x) else (some ((0 : Int)))) else (F_X8_isBlocker_52 z (v0) (v3) ((x.1 27 0 (((611 : Int) + ((3 : Int) * v1))).toNat)) x)))
set_option maxHeartbeats 4000000 in
set_option maxRecDepth 20000 in
theorem c_X8_isBlocker (Θ : GC) (D : Nat → Nat → Prop) (z : Nat) (v0 : Nat) (v1 : Int) (v2 : Int) (v3 : Int) (v4 : Int) (x : Mm) (y) (h : F_X8_isBlocker z v0 v1 v2 v3 v4 x = some y) : Cal Θ mX8_isBlocker 1 23 0 0 [vr 8 (v0 + 1), vi (v1), vi (v2), vi (v3), vi (v4)] (hq D x) (Ret (vi y) (hq D x)) := by
  refine Cal.of (by decide +kernel) rfl rfl (Nat.le_of_ble_eq_true rfl) ?_
  show Ev Θ mX8_isBlocker 1 23 0 0 0 [(0, vr 8 (v0 + 1)), (1, vi (v1)), (2, vi (v2)), (3, vi (v3)), (4, vi (v4))] [] (hq D x) (Ret (vi y) (hq D x))
  unfold F_X8_isBlocker at h
  refine Ev.iload_n (q := 1) ⟨dX8_isBlocker_0, rfl⟩ rfl rfl ?_
  refine Ev.iload_n (q := 2) ⟨dX8_isBlocker_1, rfl⟩ rfl rfl ?_
  refine Ev.icmp_eq jX8_isBlocker_2 (fun hc => ?_) (fun hc => ?_)
  · replace h := (if_pos hc).symm.trans h; clear hc
    refine Ev.iconst ⟨dX8_isBlocker_13, rfl⟩ (inRd rfl) ?_
    obtain rfl := Option.some.inj h
    exact Ev.ireturn (ty := .boolean) ⟨dX8_isBlocker_14, rfl⟩ rfl rfl ⟨rfl, rfl⟩
  · replace h := (if_neg hc).symm.trans h; clear hc
    refine Ev.aload_n (q := 0) ⟨dX8_isBlocker_5, rfl⟩ rfl rfl ?_
    refine Ev.iload_n (q := 1) ⟨dX8_isBlocker_6, rfl⟩ rfl rfl ?_
    obtain ⟨r2, hv1, h⟩ := bnd_s h
    refine Ev.callV1 (mc1 := 0) (ms1 := 0) (v := vi r2) (h1 := hq D x) vX8_177 (c_X8_hasLease Θ D z _ _ _ _ hv1) rfl rfl (by decide) rfl ⟨by decide, by decide, Nat.le_of_eq (Nat.zero_add _), Nat.le_of_eq (Nat.zero_add _), Nat.le_of_ble_eq_true rfl⟩ ⟨dX8_isBlocker_7, rfl⟩ ?_
    clear hv1
    refine Ev.if_ne jX8_isBlocker_10 (fun hc => ?_) (fun hc => ?_)
    · replace h := (if_neg hc).symm.trans h; clear hc
      refine Ev.aload_n (q := 0) ⟨dX8_isBlocker_15, rfl⟩ rfl rfl ?_
      refine Ev.getRk (C2 := 27) (r := 0) fX8_13 rfl (by decide) (by decide) ⟨dX8_isBlocker_16, rfl⟩ ?_
      refine Ev.sipush ⟨dX8_isBlocker_19, rfl⟩ (inRd rfl) (by decide) ?_
      refine Ev.iconst ⟨dX8_isBlocker_22, rfl⟩ (inRd rfl) ?_
      refine Ev.iload_n (q := 1) ⟨dX8_isBlocker_23, rfl⟩ rfl rfl ?_
      obtain ⟨c3, h⟩ := ckR_s h
      refine Ev.imul ⟨dX8_isBlocker_24, rfl⟩ c3 ?_
      obtain ⟨c4, h⟩ := ckR_s h
      refine Ev.iadd ⟨dX8_isBlocker_25, rfl⟩ c4 ?_
      obtain ⟨c5, h⟩ := ckI_s h
      refine Ev.iaload (by decide) c5.1 c5.2 ⟨dX8_isBlocker_26, rfl⟩ ?_
      refine Ev.istore (i := 5) (ls' := [(0, _), (1, _), (2, _), (3, _), (4, _), (5, _)]) ⟨dX8_isBlocker_27, rfl⟩ (by decide) rfl ?_
      refine Ev.iload (q := 4) ⟨dX8_isBlocker_29, rfl⟩ rfl ?_
      refine Ev.if_ne jX8_isBlocker_31 (fun hc => ?_) (fun hc => ?_)
      · replace h := (if_neg hc).symm.trans h; clear hc
        refine Ev.keep [0, 3, 5] rfl ?_
        exact e_X8_isBlocker_52 Θ D z _ _ _ _ _ h
      · replace h := (if_pos hc).symm.trans h; clear hc
        refine Ev.aload_n (q := 0) ⟨dX8_isBlocker_34, rfl⟩ rfl rfl ?_
        refine Ev.getRk (C2 := 27) (r := 0) fX8_13 rfl (by decide) (by decide) ⟨dX8_isBlocker_35, rfl⟩ ?_
        refine Ev.sipush ⟨dX8_isBlocker_38, rfl⟩ (inRd rfl) (by decide) ?_
        refine Ev.iconst ⟨dX8_isBlocker_41, rfl⟩ (inRd rfl) ?_
        refine Ev.iload_n (q := 1) ⟨dX8_isBlocker_42, rfl⟩ rfl rfl ?_
        obtain ⟨c10, h⟩ := ckR_s h
        refine Ev.imul ⟨dX8_isBlocker_43, rfl⟩ c10 ?_
        obtain ⟨c11, h⟩ := ckR_s h
        refine Ev.iadd ⟨dX8_isBlocker_44, rfl⟩ c11 ?_
        refine Ev.iconst ⟨dX8_isBlocker_45, rfl⟩ (inRd rfl) ?_
        obtain ⟨c12, h⟩ := ckR_s h
        refine Ev.iadd ⟨dX8_isBlocker_46, rfl⟩ c12 ?_
        obtain ⟨c13, h⟩ := ckI_s h
        refine Ev.iaload (by decide) c13.1 c13.2 ⟨dX8_isBlocker_47, rfl⟩ ?_
        refine Ev.iconst ⟨dX8_isBlocker_48, rfl⟩ (inRd rfl) ?_
        refine Ev.icmp_ne jX8_isBlocker_49 (fun hc => ?_) (fun hc => ?_)
        · replace h := (if_neg hc).symm.trans h; clear hc
          refine Ev.iconst ⟨dX8_isBlocker_76, rfl⟩ (inRd rfl) ?_
          obtain rfl := Option.some.inj h
          exact Ev.ireturn (ty := .boolean) ⟨dX8_isBlocker_77, rfl⟩ rfl rfl ⟨rfl, rfl⟩
        · replace h := (if_pos hc).symm.trans h; clear hc
          refine Ev.keep [0, 3, 5] rfl ?_
          exact e_X8_isBlocker_52 Θ D z _ _ _ _ _ h
    · replace h := (if_pos hc).symm.trans h; clear hc
      refine Ev.iconst ⟨dX8_isBlocker_13, rfl⟩ (inRd rfl) ?_
      obtain rfl := Option.some.inj h
      exact Ev.ireturn (ty := .boolean) ⟨dX8_isBlocker_14, rfl⟩ rfl rfl ⟨rfl, rfl⟩

def F_X8_blockersOf_6 (z : Nat) (v0 : Nat) (v1 : Int) (v2 : Int) (v3 : Int) (x : Mm) : Nat → Int → Int → Option (Int)
  | 0, _, _ => none
  | k + 1, v4, v5 => ckI (2 : Int) 5366 <| if (x.1 27 0 ((2 : Int)).toNat) ≤ v5 then (some (v4)) else ((F_X8_isBlocker z (v0) (v5) (v1) (v2) (v3) x).bind fun r3 => if r3 = 0 then (ckR ((v5 + 1)) <| F_X8_blockersOf_6 z v0 v1 v2 v3 x k ((bior v4 (0 : Int))) ((v5 + 1))) else (ckI v5 32 <| ckR ((v5 + 1)) <| F_X8_blockersOf_6 z v0 v1 v2 v3 x k ((bior v4 (w32 ((1 : Int) * 2 ^ (v5).toNat)))) ((v5 + 1))))
set_option maxHeartbeats 4000000 in
set_option maxRecDepth 20000 in
theorem e_X8_blockersOf_6 (Θ : GC) (D : Nat → Nat → Prop) (z : Nat) (v0 : Nat) (v1 : Int) (v2 : Int) (v3 : Int) (x : Mm) (Q : Ro → Hp → Prop) (mc ms : Nat) : ∀ (k : Nat) (v4 : Int) (v5 : Int) (y), F_X8_blockersOf_6 z v0 v1 v2 v3 x k v4 v5 = some y → (Ev Θ mX8_blockersOf 2 48 mc ms 48 [(0, vr 8 (v0 + 1)), (1, vi (v1)), (2, vi (v2)), (3, vi (v3)), (4, vi (y))] [] (hq D x) Q) → Ev Θ mX8_blockersOf 2 48 mc ms 6 [(0, vr 8 (v0 + 1)), (1, vi (v1)), (2, vi (v2)), (3, vi (v3)), (4, vi (v4)), (5, vi (v5))] [] (hq D x) Q := by
  intro k
  induction k with
  | zero => intro v4 v5 y h; exact absurd h (by unfold F_X8_blockersOf_6; exact nofun)
  | succ k ih =>
    intro v4 v5 y h k1
    unfold F_X8_blockersOf_6 at h
    refine Ev.iload (q := 5) ⟨dX8_blockersOf_6, rfl⟩ rfl ?_
    refine Ev.aload_n (q := 0) ⟨dX8_blockersOf_8, rfl⟩ rfl rfl ?_
    refine Ev.getRk (C2 := 27) (r := 0) fX8_13 rfl (by decide) (by decide) ⟨dX8_blockersOf_9, rfl⟩ ?_
    refine Ev.iconst ⟨dX8_blockersOf_12, rfl⟩ (inRd rfl) ?_
    obtain ⟨c1, h⟩ := ckI_s h
    refine Ev.iaload (by decide) c1.1 c1.2 ⟨dX8_blockersOf_13, rfl⟩ ?_
    refine Ev.icmp_ge jX8_blockersOf_14 (fun hc => ?_) (fun hc => ?_)
    · replace h := (if_pos hc).symm.trans h; clear hc
      refine Ev.keep [0, 1, 2, 3, 4] rfl ?_
      obtain rfl := Option.some.inj h
      exact k1
    · replace h := (if_neg hc).symm.trans h; clear hc
      refine Ev.iload (q := 4) ⟨dX8_blockersOf_17, rfl⟩ rfl ?_
      refine Ev.aload_n (q := 0) ⟨dX8_blockersOf_19, rfl⟩ rfl rfl ?_
      refine Ev.iload (q := 5) ⟨dX8_blockersOf_20, rfl⟩ rfl ?_
      refine Ev.iload_n (q := 1) ⟨dX8_blockersOf_22, rfl⟩ rfl rfl ?_
      refine Ev.iload_n (q := 2) ⟨dX8_blockersOf_23, rfl⟩ rfl rfl ?_
      refine Ev.iload_n (q := 3) ⟨dX8_blockersOf_24, rfl⟩ rfl rfl ?_
      obtain ⟨r3, hv2, h⟩ := bnd_s h
      refine Ev.callV1 (mc1 := mc) (ms1 := ms) (v := vi r3) (h1 := hq D x) vX8_184 (c_X8_isBlocker Θ D z _ _ _ _ _ _ _ hv2) rfl rfl (by decide) rfl ⟨by decide, by decide, Nat.le_of_eq (Nat.zero_add _), Nat.le_of_eq (Nat.zero_add _), Nat.le_of_ble_eq_true rfl⟩ ⟨dX8_blockersOf_25, rfl⟩ ?_
      clear hv2
      refine Ev.if_eq jX8_blockersOf_28 (fun hc => ?_) (fun hc => ?_)
      · replace h := (if_pos hc).symm.trans h; clear hc
        refine Ev.iconst ⟨dX8_blockersOf_38, rfl⟩ (inRd rfl) ?_
        refine Ev.ior ⟨dX8_blockersOf_39, rfl⟩ ?_
        refine Ev.istore (i := 4) (ls' := [(0, _), (1, _), (2, _), (3, _), (4, _), (5, _)]) ⟨dX8_blockersOf_40, rfl⟩ (by decide) rfl ?_
        obtain ⟨c4, h⟩ := ckR_s h
        refine Ev.iinc (q := 5) (ls' := [(0, _), (1, _), (2, _), (3, _), (4, _), (5, _)]) ⟨dX8_blockersOf_42, rfl⟩ rfl (by decide) c4 rfl ?_
        refine Ev.goto jX8_blockersOf_45 ?_
        exact ih _ _ _ h k1
      · replace h := (if_neg hc).symm.trans h; clear hc
        refine Ev.iconst ⟨dX8_blockersOf_31, rfl⟩ (inRd rfl) ?_
        refine Ev.iload (q := 5) ⟨dX8_blockersOf_32, rfl⟩ rfl ?_
        obtain ⟨c5, h⟩ := ckI_s h
        refine Ev.ishl ⟨dX8_blockersOf_34, rfl⟩ c5.1 c5.2 ?_
        refine Ev.goto jX8_blockersOf_35 ?_
        refine Ev.ior ⟨dX8_blockersOf_39, rfl⟩ ?_
        refine Ev.istore (i := 4) (ls' := [(0, _), (1, _), (2, _), (3, _), (4, _), (5, _)]) ⟨dX8_blockersOf_40, rfl⟩ (by decide) rfl ?_
        obtain ⟨c6, h⟩ := ckR_s h
        refine Ev.iinc (q := 5) (ls' := [(0, _), (1, _), (2, _), (3, _), (4, _), (5, _)]) ⟨dX8_blockersOf_42, rfl⟩ rfl (by decide) c6 rfl ?_
        refine Ev.goto jX8_blockersOf_45 ?_
        exact ih _ _ _ h k1
def F_X8_blockersOf (z : Nat) (v0 : Nat) (v1 : Int) (v2 : Int) (v3 : Int) (x : Mm) : Option (Int) := (F_X8_blockersOf_6 z (v0) (v1) (v2) (v3) x z ((0 : Int)) ((0 : Int))).bind fun s7 => some (s7)
set_option maxHeartbeats 4000000 in
set_option maxRecDepth 20000 in
theorem c_X8_blockersOf (Θ : GC) (D : Nat → Nat → Prop) (z : Nat) (v0 : Nat) (v1 : Int) (v2 : Int) (v3 : Int) (x : Mm) (y) (h : F_X8_blockersOf z v0 v1 v2 v3 x = some y) : Cal Θ mX8_blockersOf 2 48 0 0 [vr 8 (v0 + 1), vi (v1), vi (v2), vi (v3)] (hq D x) (Ret (vi y) (hq D x)) := by
  refine Cal.of (by decide +kernel) rfl rfl (Nat.le_of_ble_eq_true rfl) ?_
  show Ev Θ mX8_blockersOf 2 48 0 0 0 [(0, vr 8 (v0 + 1)), (1, vi (v1)), (2, vi (v2)), (3, vi (v3))] [] (hq D x) (Ret (vi y) (hq D x))
  unfold F_X8_blockersOf at h
  refine Ev.iconst ⟨dX8_blockersOf_0, rfl⟩ (inRd rfl) ?_
  refine Ev.istore (i := 4) (ls' := [(0, _), (1, _), (2, _), (3, _), (4, _)]) ⟨dX8_blockersOf_1, rfl⟩ (by decide) rfl ?_
  refine Ev.iconst ⟨dX8_blockersOf_3, rfl⟩ (inRd rfl) ?_
  refine Ev.istore (i := 5) (ls' := [(0, _), (1, _), (2, _), (3, _), (4, _), (5, _)]) ⟨dX8_blockersOf_4, rfl⟩ (by decide) rfl ?_
  obtain ⟨s7, hl, h⟩ := bnd_s h
  refine e_X8_blockersOf_6 Θ D z _ _ _ _ _ _ _ _ _ _ _ _ hl ?_
  clear hl
  refine Ev.iload (q := 4) ⟨dX8_blockersOf_48, rfl⟩ rfl ?_
  obtain rfl := Option.some.inj h
  exact Ev.ireturn (ty := .int) ⟨dX8_blockersOf_50, rfl⟩ rfl rfl ⟨rfl, rfl⟩

def F_X8_lease_247 (z : Nat) (v0 : Nat) (v1 : Int) (v2 : Int) (v3 : Int) (v5 : Int) (v6 : Int) : Nat → Int → Mm → Option (Mm)
  | 0, _, _ => none
  | k + 1, v7, x => if (6 : Int) ≤ v7 then (some (x)) else (ckR (((6 : Int) * v5)) <| ckR ((((6 : Int) * v5) + v7)) <| (F_X8_partOf z (v1) ((180 : Int)) ((((6 : Int) * v5) + v7)) x).bind fun r48 => (F_X8_value z (v0) (v5) (v7) x).bind fun r50 => ckR ((v6 * r50)) <| ckI r48 5366 <| (some (wI x 27 0 (r48).toNat ((v6 * r50)))).bind fun x53 => ckR (((6 : Int) * v5)) <| ckR ((((6 : Int) * v5) + v7)) <| (F_X8_partOf z (v1) ((540 : Int)) ((((6 : Int) * v5) + v7)) x53).bind fun r57 => (F_X8_value z (v0) (v5) (v7) x53).bind fun r59 => ckR ((v6 * r59)) <| ckI r57 5366 <| (some (wI x53 27 0 (r57).toNat ((v6 * r59)))).bind fun x62 => ckR ((v7 + 1)) <| F_X8_lease_247 z v0 v1 v2 v3 v5 v6 k ((v7 + 1)) x62)
set_option maxHeartbeats 4000000 in
set_option maxRecDepth 20000 in
theorem e_X8_lease_247 (Θ : GC) (D : Nat → Nat → Prop) (z : Nat) (v0 : Nat) (v1 : Int) (v2 : Int) (v3 : Int) (v5 : Int) (v6 : Int) (Q : Ro → Hp → Prop) (mc ms : Nat) : ∀ (k : Nat) (v7 : Int) (x : Mm) (y), F_X8_lease_247 z v0 v1 v2 v3 v5 v6 k v7 x = some y → (Ev Θ mX8_lease 3 73 mc ms 322 [(0, vr 8 (v0 + 1)), (1, vi (v1)), (2, vi (v2)), (3, vi (v3)), (5, vi (v5)), (6, vi (v6))] [] (hq D y) Q) → Ev Θ mX8_lease 3 73 mc ms 247 [(0, vr 8 (v0 + 1)), (1, vi (v1)), (2, vi (v2)), (3, vi (v3)), (5, vi (v5)), (6, vi (v6)), (7, vi (v7))] [] (hq D x) Q := by
  intro k
  induction k with
  | zero => intro v7 x y h; exact absurd h (by unfold F_X8_lease_247; exact nofun)
  | succ k ih =>
    intro v7 x y h k1
    unfold F_X8_lease_247 at h
    refine Ev.iload (q := 6) ⟨dX8_lease_247, rfl⟩ rfl ?_
    refine Ev.bipush ⟨dX8_lease_249, rfl⟩ (inRd rfl) (by decide) ?_
    refine Ev.icmp_ge jX8_lease_251 (fun hc => ?_) (fun hc => ?_)
    · replace h := (if_pos hc).symm.trans h; clear hc
      refine Ev.keep [0, 1, 2, 3, 4, 5] rfl ?_
      obtain rfl := Option.some.inj h
      exact k1
    · replace h := (if_neg hc).symm.trans h; clear hc
      refine Ev.aload_n (q := 0) ⟨dX8_lease_254, rfl⟩ rfl rfl ?_
      refine Ev.getRk (C2 := 27) (r := 0) fX8_13 rfl (by decide) (by decide) ⟨dX8_lease_255, rfl⟩ ?_
      refine Ev.iload_n (q := 1) ⟨dX8_lease_258, rfl⟩ rfl rfl ?_
      refine Ev.sipush ⟨dX8_lease_259, rfl⟩ (inRd rfl) (by decide) ?_
      refine Ev.bipush ⟨dX8_lease_262, rfl⟩ (inRd rfl) (by decide) ?_
      refine Ev.iload (q := 4) ⟨dX8_lease_264, rfl⟩ rfl ?_
      obtain ⟨c45, h⟩ := ckR_s h
      refine Ev.imul ⟨dX8_lease_266, rfl⟩ c45 ?_
      refine Ev.iload (q := 6) ⟨dX8_lease_267, rfl⟩ rfl ?_
      obtain ⟨c46, h⟩ := ckR_s h
      refine Ev.iadd ⟨dX8_lease_269, rfl⟩ c46 ?_
      obtain ⟨r48, hv47, h⟩ := bnd_s h
      refine Ev.callS1 (mc1 := mc) (ms1 := ms) (v := vi r48) (h1 := hq D x) sX8_173 (c_X8_partOf Θ D z _ _ _ _ _ hv47) rfl rfl ⟨by decide, by decide, Nat.le_of_eq (Nat.zero_add _), Nat.le_of_eq (Nat.zero_add _), Nat.le_of_ble_eq_true rfl⟩ ⟨dX8_lease_270, rfl⟩ ?_
      clear hv47
      refine Ev.iload (q := 5) ⟨dX8_lease_273, rfl⟩ rfl ?_
      refine Ev.aload_n (q := 0) ⟨dX8_lease_275, rfl⟩ rfl rfl ?_
      refine Ev.iload (q := 4) ⟨dX8_lease_276, rfl⟩ rfl ?_
      refine Ev.iload (q := 6) ⟨dX8_lease_278, rfl⟩ rfl ?_
      obtain ⟨r50, hv49, h⟩ := bnd_s h
      refine Ev.callV1 (mc1 := mc) (ms1 := ms) (v := vi r50) (h1 := hq D x) vX8_203 (c_X8_value Θ D z _ _ _ _ _ hv49) rfl rfl (by decide) rfl ⟨by decide, by decide, Nat.le_of_eq (Nat.zero_add _), Nat.le_of_eq (Nat.zero_add _), Nat.le_of_ble_eq_true rfl⟩ ⟨dX8_lease_280, rfl⟩ ?_
      clear hv49
      obtain ⟨c51, h⟩ := ckR_s h
      refine Ev.imul ⟨dX8_lease_283, rfl⟩ c51 ?_
      obtain ⟨c52, h⟩ := ckI_s h
      obtain ⟨x53, ex, h⟩ := bnd_s h
      refine Ev.iastore (by decide) c52.1 c52.2 ⟨dX8_lease_284, rfl⟩ ?_
      refine Ev.cast ?_ rfl rfl (hqI ex)
      clear ex
      refine Ev.aload_n (q := 0) ⟨dX8_lease_285, rfl⟩ rfl rfl ?_
      refine Ev.getRk (C2 := 27) (r := 0) fX8_13 rfl (by decide) (by decide) ⟨dX8_lease_286, rfl⟩ ?_
      refine Ev.iload_n (q := 1) ⟨dX8_lease_289, rfl⟩ rfl rfl ?_
      refine Ev.sipush ⟨dX8_lease_290, rfl⟩ (inRd rfl) (by decide) ?_
      refine Ev.bipush ⟨dX8_lease_293, rfl⟩ (inRd rfl) (by decide) ?_
      refine Ev.iload (q := 4) ⟨dX8_lease_295, rfl⟩ rfl ?_
      obtain ⟨c54, h⟩ := ckR_s h
      refine Ev.imul ⟨dX8_lease_297, rfl⟩ c54 ?_
      refine Ev.iload (q := 6) ⟨dX8_lease_298, rfl⟩ rfl ?_
      obtain ⟨c55, h⟩ := ckR_s h
      refine Ev.iadd ⟨dX8_lease_300, rfl⟩ c55 ?_
      obtain ⟨r57, hv56, h⟩ := bnd_s h
      refine Ev.callS1 (mc1 := mc) (ms1 := ms) (v := vi r57) (h1 := hq D x53) sX8_173 (c_X8_partOf Θ D z _ _ _ _ _ hv56) rfl rfl ⟨by decide, by decide, Nat.le_of_eq (Nat.zero_add _), Nat.le_of_eq (Nat.zero_add _), Nat.le_of_ble_eq_true rfl⟩ ⟨dX8_lease_301, rfl⟩ ?_
      clear hv56
      refine Ev.iload (q := 5) ⟨dX8_lease_304, rfl⟩ rfl ?_
      refine Ev.aload_n (q := 0) ⟨dX8_lease_306, rfl⟩ rfl rfl ?_
      refine Ev.iload (q := 4) ⟨dX8_lease_307, rfl⟩ rfl ?_
      refine Ev.iload (q := 6) ⟨dX8_lease_309, rfl⟩ rfl ?_
      obtain ⟨r59, hv58, h⟩ := bnd_s h
      refine Ev.callV1 (mc1 := mc) (ms1 := ms) (v := vi r59) (h1 := hq D x53) vX8_203 (c_X8_value Θ D z _ _ _ _ _ hv58) rfl rfl (by decide) rfl ⟨by decide, by decide, Nat.le_of_eq (Nat.zero_add _), Nat.le_of_eq (Nat.zero_add _), Nat.le_of_ble_eq_true rfl⟩ ⟨dX8_lease_311, rfl⟩ ?_
      clear hv58
      obtain ⟨c60, h⟩ := ckR_s h
      refine Ev.imul ⟨dX8_lease_314, rfl⟩ c60 ?_
      obtain ⟨c61, h⟩ := ckI_s h
      obtain ⟨x62, ex, h⟩ := bnd_s h
      refine Ev.iastore (by decide) c61.1 c61.2 ⟨dX8_lease_315, rfl⟩ ?_
      refine Ev.cast ?_ rfl rfl (hqI ex)
      clear ex
      obtain ⟨c63, h⟩ := ckR_s h
      refine Ev.iinc (q := 6) (ls' := [(0, _), (1, _), (2, _), (3, _), (5, _), (6, _), (7, _)]) ⟨dX8_lease_316, rfl⟩ rfl (by decide) c63 rfl ?_
      refine Ev.goto jX8_lease_319 ?_
      exact ih _ _ _ h k1

def F_X8_lease_157 (z : Nat) (v0 : Nat) (v1 : Int) (v2 : Int) (v3 : Int) : Nat → Int → Mm → Option (Mm)
  | 0, _, _ => none
  | k + 1, v5, x => if (60 : Int) ≤ v5 then (some (x)) else (ckI (3 : Int) 5366 <| if (x.1 27 0 ((3 : Int)).toNat) ≤ v5 then ((F_X8_partOf z (v1) ((0 : Int)) (v5) x).bind fun r34 => ckI r34 5366 <| (some (wI x 27 0 (r34).toNat ((0 : Int)))).bind fun x36 => (F_X8_partOf z (v1) ((60 : Int)) (v5) x36).bind fun r38 => ckI r38 5366 <| (some (wI x36 27 0 (r38).toNat ((0 : Int)))).bind fun x40 => (F_X8_partOf z (v1) ((120 : Int)) (v5) x40).bind fun r42 => ckI r42 5366 <| (some (wI x40 27 0 (r42).toNat ((0 : Int)))).bind fun x44 => (F_X8_lease_247 z (v0) (v1) (v2) (v3) (v5) ((0 : Int)) z ((0 : Int)) x44).bind fun s64 => ckR ((v5 + 1)) <| F_X8_lease_157 z v0 v1 v2 v3 k ((v5 + 1)) s64) else ((F_X8_isAlive z (v0) (v5) x).bind fun r67 => if r67 = 0 then ((F_X8_partOf z (v1) ((0 : Int)) (v5) x).bind fun r69 => ckI r69 5366 <| (some (wI x 27 0 (r69).toNat ((0 : Int)))).bind fun x71 => (F_X8_partOf z (v1) ((60 : Int)) (v5) x71).bind fun r73 => ckI r73 5366 <| (some (wI x71 27 0 (r73).toNat ((0 : Int)))).bind fun x75 => (F_X8_partOf z (v1) ((120 : Int)) (v5) x75).bind fun r77 => ckI r77 5366 <| (some (wI x75 27 0 (r77).toNat ((0 : Int)))).bind fun x79 => (F_X8_lease_247 z (v0) (v1) (v2) (v3) (v5) ((0 : Int)) z ((0 : Int)) x79).bind fun s80 => ckR ((v5 + 1)) <| F_X8_lease_157 z v0 v1 v2 v3 k ((v5 + 1)) s80) else ((F_X8_isWithin z (v0) (v5) (v2) x).bind fun r83 => if r83 = 0 then ((F_X8_partOf z (v1) ((0 : Int)) (v5) x).bind fun r85 => ckI r85 5366 <| (some (wI x 27 0 (r85).toNat ((0 : Int)))).bind fun x87 => (F_X8_partOf z (v1) ((60 : Int)) (v5) x87).bind fun r89 => ckI r89 5366 <| (some (wI x87 27 0 (r89).toNat ((0 : Int)))).bind fun x91 => (F_X8_partOf z (v1) ((120 : Int)) (v5) x91).bind fun r93 => ckI r93 5366 <| (some (wI x91 27 0 (r93).toNat ((0 : Int)))).bind fun x95 => (F_X8_lease_247 z (v0) (v1) (v2) (v3) (v5) ((0 : Int)) z ((0 : Int)) x95).bind fun s96 => ckR ((v5 + 1)) <| F_X8_lease_157 z v0 v1 v2 v3 k ((v5 + 1)) s96) else ((F_X8_partOf z (v1) ((0 : Int)) (v5) x).bind fun r99 => ckI r99 5366 <| (some (wI x 27 0 (r99).toNat ((1 : Int)))).bind fun x101 => (F_X8_partOf z (v1) ((60 : Int)) (v5) x101).bind fun r103 => ckI r103 5366 <| (some (wI x101 27 0 (r103).toNat ((1 : Int)))).bind fun x105 => (F_X8_partOf z (v1) ((120 : Int)) (v5) x105).bind fun r107 => ckI r107 5366 <| (some (wI x105 27 0 (r107).toNat ((0 : Int)))).bind fun x109 => (F_X8_lease_247 z (v0) (v1) (v2) (v3) (v5) ((1 : Int)) z ((0 : Int)) x109).bind fun s110 => ckR ((v5 + 1)) <| F_X8_lease_157 z v0 v1 v2 v3 k ((v5 + 1)) s110))))
set_option maxHeartbeats 4000000 in
set_option maxRecDepth 20000 in
theorem e_X8_lease_157 (Θ : GC) (D : Nat → Nat → Prop) (z : Nat) (v0 : Nat) (v1 : Int) (v2 : Int) (v3 : Int) (Q : Ro → Hp → Prop) (mc ms : Nat) : ∀ (k : Nat) (v5 : Int) (x : Mm) (y), F_X8_lease_157 z v0 v1 v2 v3 k v5 x = some y → (Ev Θ mX8_lease 3 73 mc ms 328 [(0, vr 8 (v0 + 1)), (1, vi (v1)), (2, vi (v2)), (3, vi (v3))] [] (hq D y) Q) → Ev Θ mX8_lease 3 73 mc ms 157 [(0, vr 8 (v0 + 1)), (1, vi (v1)), (2, vi (v2)), (3, vi (v3)), (5, vi (v5))] [] (hq D x) Q := by
  intro k
  induction k with
  | zero => intro v5 x y h; exact absurd h (by unfold F_X8_lease_157; exact nofun)
  | succ k ih =>
    intro v5 x y h k1
    unfold F_X8_lease_157 at h
    refine Ev.iload (q := 4) ⟨dX8_lease_157, rfl⟩ rfl ?_
    refine Ev.bipush ⟨dX8_lease_159, rfl⟩ (inRd rfl) (by decide) ?_
    refine Ev.icmp_ge jX8_lease_161 (fun hc => ?_) (fun hc => ?_)
    · replace h := (if_pos hc).symm.trans h; clear hc
      refine Ev.keep [0, 1, 2, 3] rfl ?_
      obtain rfl := Option.some.inj h
      exact k1
    · replace h := (if_neg hc).symm.trans h; clear hc
      refine Ev.iload (q := 4) ⟨dX8_lease_164, rfl⟩ rfl ?_
      refine Ev.aload_n (q := 0) ⟨dX8_lease_166, rfl⟩ rfl rfl ?_
      refine Ev.getRk (C2 := 27) (r := 0) fX8_13 rfl (by decide) (by decide) ⟨dX8_lease_167, rfl⟩ ?_
      refine Ev.iconst ⟨dX8_lease_170, rfl⟩ (inRd rfl) ?_
      obtain ⟨c32, h⟩ := ckI_s h
      refine Ev.iaload (by decide) c32.1 c32.2 ⟨dX8_lease_171, rfl⟩ ?_
      refine Ev.icmp_ge jX8_lease_172 (fun hc => ?_) (fun hc => ?_)
      · replace h := (if_pos hc).symm.trans h; clear hc
        refine Ev.iconst ⟨dX8_lease_198, rfl⟩ (inRd rfl) ?_
        refine Ev.istore (i := 6) (ls' := [(0, _), (1, _), (2, _), (3, _), (5, _), (6, _)]) ⟨dX8_lease_199, rfl⟩ (by decide) rfl ?_
        refine Ev.aload_n (q := 0) ⟨dX8_lease_201, rfl⟩ rfl rfl ?_
        refine Ev.getRk (C2 := 27) (r := 0) fX8_13 rfl (by decide) (by decide) ⟨dX8_lease_202, rfl⟩ ?_
        refine Ev.iload_n (q := 1) ⟨dX8_lease_205, rfl⟩ rfl rfl ?_
        refine Ev.iconst ⟨dX8_lease_206, rfl⟩ (inRd rfl) ?_
        refine Ev.iload (q := 4) ⟨dX8_lease_207, rfl⟩ rfl ?_
        obtain ⟨r34, hv33, h⟩ := bnd_s h
        refine Ev.callS1 (mc1 := mc) (ms1 := ms) (v := vi r34) (h1 := hq D x) sX8_173 (c_X8_partOf Θ D z _ _ _ _ _ hv33) rfl rfl ⟨by decide, by decide, Nat.le_of_eq (Nat.zero_add _), Nat.le_of_eq (Nat.zero_add _), Nat.le_of_ble_eq_true rfl⟩ ⟨dX8_lease_209, rfl⟩ ?_
        clear hv33
        refine Ev.iload (q := 5) ⟨dX8_lease_212, rfl⟩ rfl ?_
        obtain ⟨c35, h⟩ := ckI_s h
        obtain ⟨x36, ex, h⟩ := bnd_s h
        refine Ev.iastore (by decide) c35.1 c35.2 ⟨dX8_lease_214, rfl⟩ ?_
        refine Ev.cast ?_ rfl rfl (hqI ex)
        clear ex
        refine Ev.aload_n (q := 0) ⟨dX8_lease_215, rfl⟩ rfl rfl ?_
        refine Ev.getRk (C2 := 27) (r := 0) fX8_13 rfl (by decide) (by decide) ⟨dX8_lease_216, rfl⟩ ?_
        refine Ev.iload_n (q := 1) ⟨dX8_lease_219, rfl⟩ rfl rfl ?_
        refine Ev.bipush ⟨dX8_lease_220, rfl⟩ (inRd rfl) (by decide) ?_
        refine Ev.iload (q := 4) ⟨dX8_lease_222, rfl⟩ rfl ?_
        obtain ⟨r38, hv37, h⟩ := bnd_s h
        refine Ev.callS1 (mc1 := mc) (ms1 := ms) (v := vi r38) (h1 := hq D x36) sX8_173 (c_X8_partOf Θ D z _ _ _ _ _ hv37) rfl rfl ⟨by decide, by decide, Nat.le_of_eq (Nat.zero_add _), Nat.le_of_eq (Nat.zero_add _), Nat.le_of_ble_eq_true rfl⟩ ⟨dX8_lease_224, rfl⟩ ?_
        clear hv37
        refine Ev.iload (q := 5) ⟨dX8_lease_227, rfl⟩ rfl ?_
        obtain ⟨c39, h⟩ := ckI_s h
        obtain ⟨x40, ex, h⟩ := bnd_s h
        refine Ev.iastore (by decide) c39.1 c39.2 ⟨dX8_lease_229, rfl⟩ ?_
        refine Ev.cast ?_ rfl rfl (hqI ex)
        clear ex
        refine Ev.aload_n (q := 0) ⟨dX8_lease_230, rfl⟩ rfl rfl ?_
        refine Ev.getRk (C2 := 27) (r := 0) fX8_13 rfl (by decide) (by decide) ⟨dX8_lease_231, rfl⟩ ?_
        refine Ev.iload_n (q := 1) ⟨dX8_lease_234, rfl⟩ rfl rfl ?_
        refine Ev.bipush ⟨dX8_lease_235, rfl⟩ (inRd rfl) (by decide) ?_
        refine Ev.iload (q := 4) ⟨dX8_lease_237, rfl⟩ rfl ?_
        obtain ⟨r42, hv41, h⟩ := bnd_s h
        refine Ev.callS1 (mc1 := mc) (ms1 := ms) (v := vi r42) (h1 := hq D x40) sX8_173 (c_X8_partOf Θ D z _ _ _ _ _ hv41) rfl rfl ⟨by decide, by decide, Nat.le_of_eq (Nat.zero_add _), Nat.le_of_eq (Nat.zero_add _), Nat.le_of_ble_eq_true rfl⟩ ⟨dX8_lease_239, rfl⟩ ?_
        clear hv41
        refine Ev.iconst ⟨dX8_lease_242, rfl⟩ (inRd rfl) ?_
        obtain ⟨c43, h⟩ := ckI_s h
        obtain ⟨x44, ex, h⟩ := bnd_s h
        refine Ev.iastore (by decide) c43.1 c43.2 ⟨dX8_lease_243, rfl⟩ ?_
        refine Ev.cast ?_ rfl rfl (hqI ex)
        clear ex
        refine Ev.iconst ⟨dX8_lease_244, rfl⟩ (inRd rfl) ?_
        refine Ev.istore (i := 7) (ls' := [(0, _), (1, _), (2, _), (3, _), (5, _), (6, _), (7, _)]) ⟨dX8_lease_245, rfl⟩ (by decide) rfl ?_
        obtain ⟨s64, hl, h⟩ := bnd_s h
        refine e_X8_lease_247 Θ D z _ _ _ _ _ _ _ _ _ _ _ _ _ hl ?_
        clear hl
        obtain ⟨c65, h⟩ := ckR_s h
        refine Ev.iinc (q := 4) (ls' := [(0, _), (1, _), (2, _), (3, _), (5, _), (6, _)]) ⟨dX8_lease_322, rfl⟩ rfl (by decide) c65 rfl ?_
        refine Ev.goto jX8_lease_325 ?_
        refine Ev.keep [0, 1, 2, 3, 4] rfl ?_
        exact ih _ _ _ h k1
      · replace h := (if_neg hc).symm.trans h; clear hc
        refine Ev.aload_n (q := 0) ⟨dX8_lease_175, rfl⟩ rfl rfl ?_
        refine Ev.iload (q := 4) ⟨dX8_lease_176, rfl⟩ rfl ?_
        obtain ⟨r67, hv66, h⟩ := bnd_s h
        refine Ev.callV1 (mc1 := mc) (ms1 := ms) (v := vi r67) (h1 := hq D x) vX8_194 (c_X8_isAlive Θ D z _ _ _ _ hv66) rfl rfl (by decide) rfl ⟨by decide, by decide, Nat.le_of_eq (Nat.zero_add _), Nat.le_of_eq (Nat.zero_add _), Nat.le_of_ble_eq_true rfl⟩ ⟨dX8_lease_178, rfl⟩ ?_
        clear hv66
        refine Ev.if_eq jX8_lease_181 (fun hc => ?_) (fun hc => ?_)
        · replace h := (if_pos hc).symm.trans h; clear hc
          refine Ev.iconst ⟨dX8_lease_198, rfl⟩ (inRd rfl) ?_
          refine Ev.istore (i := 6) (ls' := [(0, _), (1, _), (2, _), (3, _), (5, _), (6, _)]) ⟨dX8_lease_199, rfl⟩ (by decide) rfl ?_
          refine Ev.aload_n (q := 0) ⟨dX8_lease_201, rfl⟩ rfl rfl ?_
          refine Ev.getRk (C2 := 27) (r := 0) fX8_13 rfl (by decide) (by decide) ⟨dX8_lease_202, rfl⟩ ?_
          refine Ev.iload_n (q := 1) ⟨dX8_lease_205, rfl⟩ rfl rfl ?_
          refine Ev.iconst ⟨dX8_lease_206, rfl⟩ (inRd rfl) ?_
          refine Ev.iload (q := 4) ⟨dX8_lease_207, rfl⟩ rfl ?_
          obtain ⟨r69, hv68, h⟩ := bnd_s h
          refine Ev.callS1 (mc1 := mc) (ms1 := ms) (v := vi r69) (h1 := hq D x) sX8_173 (c_X8_partOf Θ D z _ _ _ _ _ hv68) rfl rfl ⟨by decide, by decide, Nat.le_of_eq (Nat.zero_add _), Nat.le_of_eq (Nat.zero_add _), Nat.le_of_ble_eq_true rfl⟩ ⟨dX8_lease_209, rfl⟩ ?_
          clear hv68
          refine Ev.iload (q := 5) ⟨dX8_lease_212, rfl⟩ rfl ?_
          obtain ⟨c70, h⟩ := ckI_s h
          obtain ⟨x71, ex, h⟩ := bnd_s h
          refine Ev.iastore (by decide) c70.1 c70.2 ⟨dX8_lease_214, rfl⟩ ?_
          refine Ev.cast ?_ rfl rfl (hqI ex)
          clear ex
          refine Ev.aload_n (q := 0) ⟨dX8_lease_215, rfl⟩ rfl rfl ?_
          refine Ev.getRk (C2 := 27) (r := 0) fX8_13 rfl (by decide) (by decide) ⟨dX8_lease_216, rfl⟩ ?_
          refine Ev.iload_n (q := 1) ⟨dX8_lease_219, rfl⟩ rfl rfl ?_
          refine Ev.bipush ⟨dX8_lease_220, rfl⟩ (inRd rfl) (by decide) ?_
          refine Ev.iload (q := 4) ⟨dX8_lease_222, rfl⟩ rfl ?_
          obtain ⟨r73, hv72, h⟩ := bnd_s h
          refine Ev.callS1 (mc1 := mc) (ms1 := ms) (v := vi r73) (h1 := hq D x71) sX8_173 (c_X8_partOf Θ D z _ _ _ _ _ hv72) rfl rfl ⟨by decide, by decide, Nat.le_of_eq (Nat.zero_add _), Nat.le_of_eq (Nat.zero_add _), Nat.le_of_ble_eq_true rfl⟩ ⟨dX8_lease_224, rfl⟩ ?_
          clear hv72
          refine Ev.iload (q := 5) ⟨dX8_lease_227, rfl⟩ rfl ?_
          obtain ⟨c74, h⟩ := ckI_s h
          obtain ⟨x75, ex, h⟩ := bnd_s h
          refine Ev.iastore (by decide) c74.1 c74.2 ⟨dX8_lease_229, rfl⟩ ?_
          refine Ev.cast ?_ rfl rfl (hqI ex)
          clear ex
          refine Ev.aload_n (q := 0) ⟨dX8_lease_230, rfl⟩ rfl rfl ?_
          refine Ev.getRk (C2 := 27) (r := 0) fX8_13 rfl (by decide) (by decide) ⟨dX8_lease_231, rfl⟩ ?_
          refine Ev.iload_n (q := 1) ⟨dX8_lease_234, rfl⟩ rfl rfl ?_
          refine Ev.bipush ⟨dX8_lease_235, rfl⟩ (inRd rfl) (by decide) ?_
          refine Ev.iload (q := 4) ⟨dX8_lease_237, rfl⟩ rfl ?_
          obtain ⟨r77, hv76, h⟩ := bnd_s h
          refine Ev.callS1 (mc1 := mc) (ms1 := ms) (v := vi r77) (h1 := hq D x75) sX8_173 (c_X8_partOf Θ D z _ _ _ _ _ hv76) rfl rfl ⟨by decide, by decide, Nat.le_of_eq (Nat.zero_add _), Nat.le_of_eq (Nat.zero_add _), Nat.le_of_ble_eq_true rfl⟩ ⟨dX8_lease_239, rfl⟩ ?_
          clear hv76
          refine Ev.iconst ⟨dX8_lease_242, rfl⟩ (inRd rfl) ?_
          obtain ⟨c78, h⟩ := ckI_s h
          obtain ⟨x79, ex, h⟩ := bnd_s h
          refine Ev.iastore (by decide) c78.1 c78.2 ⟨dX8_lease_243, rfl⟩ ?_
          refine Ev.cast ?_ rfl rfl (hqI ex)
          clear ex
          refine Ev.iconst ⟨dX8_lease_244, rfl⟩ (inRd rfl) ?_
          refine Ev.istore (i := 7) (ls' := [(0, _), (1, _), (2, _), (3, _), (5, _), (6, _), (7, _)]) ⟨dX8_lease_245, rfl⟩ (by decide) rfl ?_
          obtain ⟨s80, hl, h⟩ := bnd_s h
          refine e_X8_lease_247 Θ D z _ _ _ _ _ _ _ _ _ _ _ _ _ hl ?_
          clear hl
          obtain ⟨c81, h⟩ := ckR_s h
          refine Ev.iinc (q := 4) (ls' := [(0, _), (1, _), (2, _), (3, _), (5, _), (6, _)]) ⟨dX8_lease_322, rfl⟩ rfl (by decide) c81 rfl ?_
          refine Ev.goto jX8_lease_325 ?_
          refine Ev.keep [0, 1, 2, 3, 4] rfl ?_
          exact ih _ _ _ h k1
        · replace h := (if_neg hc).symm.trans h; clear hc
          refine Ev.aload_n (q := 0) ⟨dX8_lease_184, rfl⟩ rfl rfl ?_
          refine Ev.iload (q := 4) ⟨dX8_lease_185, rfl⟩ rfl ?_
          refine Ev.iload_n (q := 2) ⟨dX8_lease_187, rfl⟩ rfl rfl ?_
          obtain ⟨r83, hv82, h⟩ := bnd_s h
          refine Ev.callV1 (mc1 := mc) (ms1 := ms) (v := vi r83) (h1 := hq D x) vX8_180 (c_X8_isWithin Θ D z _ _ _ _ _ hv82) rfl rfl (by decide) rfl ⟨by decide, by decide, Nat.le_of_eq (Nat.zero_add _), Nat.le_of_eq (Nat.zero_add _), Nat.le_of_ble_eq_true rfl⟩ ⟨dX8_lease_188, rfl⟩ ?_
          clear hv82
          refine Ev.if_eq jX8_lease_191 (fun hc => ?_) (fun hc => ?_)
          · replace h := (if_pos hc).symm.trans h; clear hc
            refine Ev.iconst ⟨dX8_lease_198, rfl⟩ (inRd rfl) ?_
            refine Ev.istore (i := 6) (ls' := [(0, _), (1, _), (2, _), (3, _), (5, _), (6, _)]) ⟨dX8_lease_199, rfl⟩ (by decide) rfl ?_
            refine Ev.aload_n (q := 0) ⟨dX8_lease_201, rfl⟩ rfl rfl ?_
            refine Ev.getRk (C2 := 27) (r := 0) fX8_13 rfl (by decide) (by decide) ⟨dX8_lease_202, rfl⟩ ?_
            refine Ev.iload_n (q := 1) ⟨dX8_lease_205, rfl⟩ rfl rfl ?_
            refine Ev.iconst ⟨dX8_lease_206, rfl⟩ (inRd rfl) ?_
            refine Ev.iload (q := 4) ⟨dX8_lease_207, rfl⟩ rfl ?_
            obtain ⟨r85, hv84, h⟩ := bnd_s h
            refine Ev.callS1 (mc1 := mc) (ms1 := ms) (v := vi r85) (h1 := hq D x) sX8_173 (c_X8_partOf Θ D z _ _ _ _ _ hv84) rfl rfl ⟨by decide, by decide, Nat.le_of_eq (Nat.zero_add _), Nat.le_of_eq (Nat.zero_add _), Nat.le_of_ble_eq_true rfl⟩ ⟨dX8_lease_209, rfl⟩ ?_
            clear hv84
            refine Ev.iload (q := 5) ⟨dX8_lease_212, rfl⟩ rfl ?_
            obtain ⟨c86, h⟩ := ckI_s h
            obtain ⟨x87, ex, h⟩ := bnd_s h
            refine Ev.iastore (by decide) c86.1 c86.2 ⟨dX8_lease_214, rfl⟩ ?_
            refine Ev.cast ?_ rfl rfl (hqI ex)
            clear ex
            refine Ev.aload_n (q := 0) ⟨dX8_lease_215, rfl⟩ rfl rfl ?_
            refine Ev.getRk (C2 := 27) (r := 0) fX8_13 rfl (by decide) (by decide) ⟨dX8_lease_216, rfl⟩ ?_
            refine Ev.iload_n (q := 1) ⟨dX8_lease_219, rfl⟩ rfl rfl ?_
            refine Ev.bipush ⟨dX8_lease_220, rfl⟩ (inRd rfl) (by decide) ?_
            refine Ev.iload (q := 4) ⟨dX8_lease_222, rfl⟩ rfl ?_
            obtain ⟨r89, hv88, h⟩ := bnd_s h
            refine Ev.callS1 (mc1 := mc) (ms1 := ms) (v := vi r89) (h1 := hq D x87) sX8_173 (c_X8_partOf Θ D z _ _ _ _ _ hv88) rfl rfl ⟨by decide, by decide, Nat.le_of_eq (Nat.zero_add _), Nat.le_of_eq (Nat.zero_add _), Nat.le_of_ble_eq_true rfl⟩ ⟨dX8_lease_224, rfl⟩ ?_
            clear hv88
            refine Ev.iload (q := 5) ⟨dX8_lease_227, rfl⟩ rfl ?_
            obtain ⟨c90, h⟩ := ckI_s h
            obtain ⟨x91, ex, h⟩ := bnd_s h
            refine Ev.iastore (by decide) c90.1 c90.2 ⟨dX8_lease_229, rfl⟩ ?_
            refine Ev.cast ?_ rfl rfl (hqI ex)
            clear ex
            refine Ev.aload_n (q := 0) ⟨dX8_lease_230, rfl⟩ rfl rfl ?_
            refine Ev.getRk (C2 := 27) (r := 0) fX8_13 rfl (by decide) (by decide) ⟨dX8_lease_231, rfl⟩ ?_
            refine Ev.iload_n (q := 1) ⟨dX8_lease_234, rfl⟩ rfl rfl ?_
            refine Ev.bipush ⟨dX8_lease_235, rfl⟩ (inRd rfl) (by decide) ?_
            refine Ev.iload (q := 4) ⟨dX8_lease_237, rfl⟩ rfl ?_
            obtain ⟨r93, hv92, h⟩ := bnd_s h
            refine Ev.callS1 (mc1 := mc) (ms1 := ms) (v := vi r93) (h1 := hq D x91) sX8_173 (c_X8_partOf Θ D z _ _ _ _ _ hv92) rfl rfl ⟨by decide, by decide, Nat.le_of_eq (Nat.zero_add _), Nat.le_of_eq (Nat.zero_add _), Nat.le_of_ble_eq_true rfl⟩ ⟨dX8_lease_239, rfl⟩ ?_
            clear hv92
            refine Ev.iconst ⟨dX8_lease_242, rfl⟩ (inRd rfl) ?_
            obtain ⟨c94, h⟩ := ckI_s h
            obtain ⟨x95, ex, h⟩ := bnd_s h
            refine Ev.iastore (by decide) c94.1 c94.2 ⟨dX8_lease_243, rfl⟩ ?_
            refine Ev.cast ?_ rfl rfl (hqI ex)
            clear ex
            refine Ev.iconst ⟨dX8_lease_244, rfl⟩ (inRd rfl) ?_
            refine Ev.istore (i := 7) (ls' := [(0, _), (1, _), (2, _), (3, _), (5, _), (6, _), (7, _)]) ⟨dX8_lease_245, rfl⟩ (by decide) rfl ?_
            obtain ⟨s96, hl, h⟩ := bnd_s h
            refine e_X8_lease_247 Θ D z _ _ _ _ _ _ _ _ _ _ _ _ _ hl ?_
            clear hl
            obtain ⟨c97, h⟩ := ckR_s h
            refine Ev.iinc (q := 4) (ls' := [(0, _), (1, _), (2, _), (3, _), (5, _), (6, _)]) ⟨dX8_lease_322, rfl⟩ rfl (by decide) c97 rfl ?_
            refine Ev.goto jX8_lease_325 ?_
            refine Ev.keep [0, 1, 2, 3, 4] rfl ?_
            exact ih _ _ _ h k1
          · replace h := (if_neg hc).symm.trans h; clear hc
            refine Ev.iconst ⟨dX8_lease_194, rfl⟩ (inRd rfl) ?_
            refine Ev.goto jX8_lease_195 ?_
            refine Ev.istore (i := 6) (ls' := [(0, _), (1, _), (2, _), (3, _), (5, _), (6, _)]) ⟨dX8_lease_199, rfl⟩ (by decide) rfl ?_
            refine Ev.aload_n (q := 0) ⟨dX8_lease_201, rfl⟩ rfl rfl ?_
            refine Ev.getRk (C2 := 27) (r := 0) fX8_13 rfl (by decide) (by decide) ⟨dX8_lease_202, rfl⟩ ?_
            refine Ev.iload_n (q := 1) ⟨dX8_lease_205, rfl⟩ rfl rfl ?_
            refine Ev.iconst ⟨dX8_lease_206, rfl⟩ (inRd rfl) ?_
            refine Ev.iload (q := 4) ⟨dX8_lease_207, rfl⟩ rfl ?_
            obtain ⟨r99, hv98, h⟩ := bnd_s h
            refine Ev.callS1 (mc1 := mc) (ms1 := ms) (v := vi r99) (h1 := hq D x) sX8_173 (c_X8_partOf Θ D z _ _ _ _ _ hv98) rfl rfl ⟨by decide, by decide, Nat.le_of_eq (Nat.zero_add _), Nat.le_of_eq (Nat.zero_add _), Nat.le_of_ble_eq_true rfl⟩ ⟨dX8_lease_209, rfl⟩ ?_
            clear hv98
            refine Ev.iload (q := 5) ⟨dX8_lease_212, rfl⟩ rfl ?_
            obtain ⟨c100, h⟩ := ckI_s h
            obtain ⟨x101, ex, h⟩ := bnd_s h
            refine Ev.iastore (by decide) c100.1 c100.2 ⟨dX8_lease_214, rfl⟩ ?_
            refine Ev.cast ?_ rfl rfl (hqI ex)
            clear ex
            refine Ev.aload_n (q := 0) ⟨dX8_lease_215, rfl⟩ rfl rfl ?_
            refine Ev.getRk (C2 := 27) (r := 0) fX8_13 rfl (by decide) (by decide) ⟨dX8_lease_216, rfl⟩ ?_
            refine Ev.iload_n (q := 1) ⟨dX8_lease_219, rfl⟩ rfl rfl ?_
            refine Ev.bipush ⟨dX8_lease_220, rfl⟩ (inRd rfl) (by decide) ?_
            refine Ev.iload (q := 4) ⟨dX8_lease_222, rfl⟩ rfl ?_
            obtain ⟨r103, hv102, h⟩ := bnd_s h
            refine Ev.callS1 (mc1 := mc) (ms1 := ms) (v := vi r103) (h1 := hq D x101) sX8_173 (c_X8_partOf Θ D z _ _ _ _ _ hv102) rfl rfl ⟨by decide, by decide, Nat.le_of_eq (Nat.zero_add _), Nat.le_of_eq (Nat.zero_add _), Nat.le_of_ble_eq_true rfl⟩ ⟨dX8_lease_224, rfl⟩ ?_
            clear hv102
            refine Ev.iload (q := 5) ⟨dX8_lease_227, rfl⟩ rfl ?_
            obtain ⟨c104, h⟩ := ckI_s h
            obtain ⟨x105, ex, h⟩ := bnd_s h
            refine Ev.iastore (by decide) c104.1 c104.2 ⟨dX8_lease_229, rfl⟩ ?_
            refine Ev.cast ?_ rfl rfl (hqI ex)
            clear ex
            refine Ev.aload_n (q := 0) ⟨dX8_lease_230, rfl⟩ rfl rfl ?_
            refine Ev.getRk (C2 := 27) (r := 0) fX8_13 rfl (by decide) (by decide) ⟨dX8_lease_231, rfl⟩ ?_
            refine Ev.iload_n (q := 1) ⟨dX8_lease_234, rfl⟩ rfl rfl ?_
            refine Ev.bipush ⟨dX8_lease_235, rfl⟩ (inRd rfl) (by decide) ?_
            refine Ev.iload (q := 4) ⟨dX8_lease_237, rfl⟩ rfl ?_
            obtain ⟨r107, hv106, h⟩ := bnd_s h
            refine Ev.callS1 (mc1 := mc) (ms1 := ms) (v := vi r107) (h1 := hq D x105) sX8_173 (c_X8_partOf Θ D z _ _ _ _ _ hv106) rfl rfl ⟨by decide, by decide, Nat.le_of_eq (Nat.zero_add _), Nat.le_of_eq (Nat.zero_add _), Nat.le_of_ble_eq_true rfl⟩ ⟨dX8_lease_239, rfl⟩ ?_
            clear hv106
            refine Ev.iconst ⟨dX8_lease_242, rfl⟩ (inRd rfl) ?_
            obtain ⟨c108, h⟩ := ckI_s h
            obtain ⟨x109, ex, h⟩ := bnd_s h
            refine Ev.iastore (by decide) c108.1 c108.2 ⟨dX8_lease_243, rfl⟩ ?_
            refine Ev.cast ?_ rfl rfl (hqI ex)
            clear ex
            refine Ev.iconst ⟨dX8_lease_244, rfl⟩ (inRd rfl) ?_
            refine Ev.istore (i := 7) (ls' := [(0, _), (1, _), (2, _), (3, _), (5, _), (6, _), (7, _)]) ⟨dX8_lease_245, rfl⟩ (by decide) rfl ?_
            obtain ⟨s110, hl, h⟩ := bnd_s h
            refine e_X8_lease_247 Θ D z _ _ _ _ _ _ _ _ _ _ _ _ _ hl ?_
            clear hl
            obtain ⟨c111, h⟩ := ckR_s h
            refine Ev.iinc (q := 4) (ls' := [(0, _), (1, _), (2, _), (3, _), (5, _), (6, _)]) ⟨dX8_lease_322, rfl⟩ rfl (by decide) c111 rfl ?_
            refine Ev.goto jX8_lease_325 ?_
            refine Ev.keep [0, 1, 2, 3, 4] rfl ?_
            exact ih _ _ _ h k1

def F_X8_lease_153 (z : Nat) (v0 : Nat) (v1 : Int) (v2 : Int) (v3 : Int) (u0 : Int) (u1 : Int) (u2 : Nat) (x : Mm) : Option (Int × Mm) := ckI u1 5366 <| (some (wI x 27 u2 (u1).toNat (u0))).bind fun x31 => (F_X8_lease_157 z (v0) (v1) (v2) (v3) z ((0 : Int)) x31).bind fun s112 => ckI (0 : Int) 5366 <| ckR (((s112.1 27 0 ((0 : Int)).toNat) + v3)) <| some ((((s112.1 27 0 ((0 : Int)).toNat) + v3), s112))
set_option maxHeartbeats 4000000 in
set_option maxRecDepth 20000 in
theorem e_X8_lease_153 (Θ : GC) (D : Nat → Nat → Prop) (z : Nat) (v0 : Nat) (v1 : Int) (v2 : Int) (v3 : Int) (u0 : Int) (u1 : Int) (u2 : Nat) (x : Mm) (y) (h : F_X8_lease_153 z v0 v1 v2 v3 u0 u1 u2 x = some y) : Ev Θ mX8_lease 3 73 0 0 153 [(0, vr 8 (v0 + 1)), (1, vi (v1)), (2, vi (v2)), (3, vi (v3))] [vi (u0), vi (u1), vr 27 (u2 + 1)] (hq D x) (Ret (vi y.1) (hq D y.2)) := by
  unfold F_X8_lease_153 at h
  obtain ⟨c30, h⟩ := ckI_s h
  obtain ⟨x31, ex, h⟩ := bnd_s h
  refine Ev.iastore (by decide) c30.1 c30.2 ⟨dX8_lease_153, rfl⟩ ?_
  refine Ev.cast ?_ rfl rfl (hqI ex)
  clear ex
  refine Ev.iconst ⟨dX8_lease_154, rfl⟩ (inRd rfl) ?_
  refine Ev.istore (i := 5) (ls' := [(0, _), (1, _), (2, _), (3, _), (5, _)]) ⟨dX8_lease_155, rfl⟩ (by decide) rfl ?_
  obtain ⟨s112, hl, h⟩ := bnd_s h
  refine e_X8_lease_157 Θ D z _ _ _ _ _ _ _ _ _ _ _ hl ?_
  clear hl
  refine Ev.aload_n (q := 0) ⟨dX8_lease_328, rfl⟩ rfl rfl ?_
  refine Ev.getRk (C2 := 27) (r := 0) fX8_13 rfl (by decide) (by decide) ⟨dX8_lease_329, rfl⟩ ?_
  refine Ev.iconst ⟨dX8_lease_332, rfl⟩ (inRd rfl) ?_
  obtain ⟨c113, h⟩ := ckI_s h
  refine Ev.iaload (by decide) c113.1 c113.2 ⟨dX8_lease_333, rfl⟩ ?_
  refine Ev.iload_n (q := 3) ⟨dX8_lease_334, rfl⟩ rfl rfl ?_
  obtain ⟨c114, h⟩ := ckR_s h
  refine Ev.iadd ⟨dX8_lease_335, rfl⟩ c114 ?_
  obtain rfl := Option.some.inj h
  exact Ev.ireturn (ty := .int) ⟨dX8_lease_336, rfl⟩ rfl rfl ⟨rfl, rfl⟩

def F_X8_lease_82 (z : Nat) (v0 : Nat) (v1 : Int) (v2 : Int) (v3 : Int) (v4 : Int) (u0 : Int) (u1 : Nat) (x : Mm) : Option (Int × Mm) := (F_X8_fails z (u1) (u0) ((3 : Int)) x).bind fun r13 => if r13.1 = 0 then ((F_X8_record z (v0) r13.2).bind fun r15 => ckR (((3 : Int) * v1)) <| ckR (((611 : Int) + ((3 : Int) * v1))) <| ckI ((611 : Int) + ((3 : Int) * v1)) 5366 <| (some (wI r15 27 0 (((611 : Int) + ((3 : Int) * v1))).toNat (v2))).bind fun x19 => ckR (((3 : Int) * v1)) <| ckR (((611 : Int) + ((3 : Int) * v1))) <| ckR ((((611 : Int) + ((3 : Int) * v1)) + (1 : Int))) <| ckI (0 : Int) 5366 <| ckR (((x19.1 27 0 ((0 : Int)).toNat) + v3)) <| ckI (((611 : Int) + ((3 : Int) * v1)) + (1 : Int)) 5366 <| (some (wI x19 27 0 ((((611 : Int) + ((3 : Int) * v1)) + (1 : Int))).toNat (((x19.1 27 0 ((0 : Int)).toNat) + v3)))).bind fun x26 => ckR (((3 : Int) * v1)) <| ckR (((611 : Int) + ((3 : Int) * v1))) <| ckR ((((611 : Int) + ((3 : Int) * v1)) + (2 : Int))) <| if v4 = 0 then (F_X8_lease_153 z (v0) (v1) (v2) (v3) ((0 : Int)) ((((611 : Int) + ((3 : Int) * v1)) + (2 : Int))) (0) x26) else (F_X8_lease_153 z (v0) (v1) (v2) (v3) ((1 : Int)) ((((611 : Int) + ((3 : Int) * v1)) + (2 : Int))) (0) x26)) else (some (((0 : Int), r13.2)))
set_option maxHeartbeats 4000000 in
set_option maxRecDepth 20000 in
theorem e_X8_lease_82 (Θ : GC) (D : Nat → Nat → Prop) (z : Nat) (v0 : Nat) (v1 : Int) (v2 : Int) (v3 : Int) (v4 : Int) (u0 : Int) (u1 : Nat) (x : Mm) (y) (h : F_X8_lease_82 z v0 v1 v2 v3 v4 u0 u1 x = some y) : Ev Θ mX8_lease 3 73 0 0 82 [(0, vr 8 (v0 + 1)), (1, vi (v1)), (2, vi (v2)), (3, vi (v3)), (4, vi (v4))] [vi (u0), vr 8 (u1 + 1)] (hq D x) (Ret (vi y.1) (hq D y.2)) := by
  unfold F_X8_lease_82 at h
  refine Ev.iconst ⟨dX8_lease_82, rfl⟩ (inRd rfl) ?_
  obtain ⟨r13, hv12, h⟩ := bnd_s h
  refine Ev.callV1 (mc1 := 0) (ms1 := 0) (v := vi r13.1) (h1 := hq D r13.2) vX8_49 (c_X8_fails Θ D z _ _ _ _ _ hv12) rfl rfl (by decide) rfl ⟨by decide, by decide, Nat.le_of_eq (Nat.zero_add _), Nat.le_of_eq (Nat.zero_add _), Nat.le_of_ble_eq_true rfl⟩ ⟨dX8_lease_83, rfl⟩ ?_
  clear hv12
  refine Ev.if_eq jX8_lease_86 (fun hc => ?_) (fun hc => ?_)
  · replace h := (if_pos hc).symm.trans h; clear hc
    refine Ev.aload_n (q := 0) ⟨dX8_lease_91, rfl⟩ rfl rfl ?_
    obtain ⟨r15, hv14, h⟩ := bnd_s h
    refine Ev.callVN (mc1 := 0) (ms1 := 0) (h1 := hq D r15) vX8_201 (c_X8_record Θ D z _ _ _ hv14) rfl rfl (by decide) rfl ⟨by decide, by decide, Nat.le_of_eq (Nat.zero_add _), Nat.le_of_eq (Nat.zero_add _), Nat.le_of_ble_eq_true rfl⟩ ⟨dX8_lease_92, rfl⟩ ?_
    clear hv14
    refine Ev.aload_n (q := 0) ⟨dX8_lease_95, rfl⟩ rfl rfl ?_
    refine Ev.getRk (C2 := 27) (r := 0) fX8_13 rfl (by decide) (by decide) ⟨dX8_lease_96, rfl⟩ ?_
    refine Ev.sipush ⟨dX8_lease_99, rfl⟩ (inRd rfl) (by decide) ?_
    refine Ev.iconst ⟨dX8_lease_102, rfl⟩ (inRd rfl) ?_
    refine Ev.iload_n (q := 1) ⟨dX8_lease_103, rfl⟩ rfl rfl ?_
    obtain ⟨c16, h⟩ := ckR_s h
    refine Ev.imul ⟨dX8_lease_104, rfl⟩ c16 ?_
    obtain ⟨c17, h⟩ := ckR_s h
    refine Ev.iadd ⟨dX8_lease_105, rfl⟩ c17 ?_
    refine Ev.iload_n (q := 2) ⟨dX8_lease_106, rfl⟩ rfl rfl ?_
    obtain ⟨c18, h⟩ := ckI_s h
    obtain ⟨x19, ex, h⟩ := bnd_s h
    refine Ev.iastore (by decide) c18.1 c18.2 ⟨dX8_lease_107, rfl⟩ ?_
    refine Ev.cast ?_ rfl rfl (hqI ex)
    clear ex
    refine Ev.aload_n (q := 0) ⟨dX8_lease_108, rfl⟩ rfl rfl ?_
    refine Ev.getRk (C2 := 27) (r := 0) fX8_13 rfl (by decide) (by decide) ⟨dX8_lease_109, rfl⟩ ?_
    refine Ev.sipush ⟨dX8_lease_112, rfl⟩ (inRd rfl) (by decide) ?_
    refine Ev.iconst ⟨dX8_lease_115, rfl⟩ (inRd rfl) ?_
    refine Ev.iload_n (q := 1) ⟨dX8_lease_116, rfl⟩ rfl rfl ?_
    obtain ⟨c20, h⟩ := ckR_s h
    refine Ev.imul ⟨dX8_lease_117, rfl⟩ c20 ?_
    obtain ⟨c21, h⟩ := ckR_s h
    refine Ev.iadd ⟨dX8_lease_118, rfl⟩ c21 ?_
    refine Ev.iconst ⟨dX8_lease_119, rfl⟩ (inRd rfl) ?_
    obtain ⟨c22, h⟩ := ckR_s h
    refine Ev.iadd ⟨dX8_lease_120, rfl⟩ c22 ?_
    refine Ev.aload_n (q := 0) ⟨dX8_lease_121, rfl⟩ rfl rfl ?_
    refine Ev.getRk (C2 := 27) (r := 0) fX8_13 rfl (by decide) (by decide) ⟨dX8_lease_122, rfl⟩ ?_
    refine Ev.iconst ⟨dX8_lease_125, rfl⟩ (inRd rfl) ?_
    obtain ⟨c23, h⟩ := ckI_s h
    refine Ev.iaload (by decide) c23.1 c23.2 ⟨dX8_lease_126, rfl⟩ ?_
    refine Ev.iload_n (q := 3) ⟨dX8_lease_127, rfl⟩ rfl rfl ?_
    obtain ⟨c24, h⟩ := ckR_s h
    refine Ev.iadd ⟨dX8_lease_128, rfl⟩ c24 ?_
    obtain ⟨c25, h⟩ := ckI_s h
    obtain ⟨x26, ex, h⟩ := bnd_s h
    refine Ev.iastore (by decide) c25.1 c25.2 ⟨dX8_lease_129, rfl⟩ ?_
    refine Ev.cast ?_ rfl rfl (hqI ex)
    clear ex
    refine Ev.aload_n (q := 0) ⟨dX8_lease_130, rfl⟩ rfl rfl ?_
    refine Ev.getRk (C2 := 27) (r := 0) fX8_13 rfl (by decide) (by decide) ⟨dX8_lease_131, rfl⟩ ?_
    refine Ev.sipush ⟨dX8_lease_134, rfl⟩ (inRd rfl) (by decide) ?_
    refine Ev.iconst ⟨dX8_lease_137, rfl⟩ (inRd rfl) ?_
    refine Ev.iload_n (q := 1) ⟨dX8_lease_138, rfl⟩ rfl rfl ?_
    obtain ⟨c27, h⟩ := ckR_s h
    refine Ev.imul ⟨dX8_lease_139, rfl⟩ c27 ?_
    obtain ⟨c28, h⟩ := ckR_s h
    refine Ev.iadd ⟨dX8_lease_140, rfl⟩ c28 ?_
    refine Ev.iconst ⟨dX8_lease_141, rfl⟩ (inRd rfl) ?_
    obtain ⟨c29, h⟩ := ckR_s h
    refine Ev.iadd ⟨dX8_lease_142, rfl⟩ c29 ?_
    refine Ev.iload (q := 4) ⟨dX8_lease_143, rfl⟩ rfl ?_
    refine Ev.if_eq jX8_lease_145 (fun hc => ?_) (fun hc => ?_)
    · replace h := (if_pos hc).symm.trans h; clear hc
      refine Ev.iconst ⟨dX8_lease_152, rfl⟩ (inRd rfl) ?_
      refine Ev.keep [0, 1, 2, 3] rfl ?_
      exact e_X8_lease_153 Θ D z _ _ _ _ _ _ _ _ _ h
    · replace h := (if_neg hc).symm.trans h; clear hc
      refine Ev.iconst ⟨dX8_lease_148, rfl⟩ (inRd rfl) ?_
      refine Ev.goto jX8_lease_149 ?_
      refine Ev.keep [0, 1, 2, 3] rfl ?_
      exact e_X8_lease_153 Θ D z _ _ _ _ _ _ _ _ _ h
  · replace h := (if_neg hc).symm.trans h; clear hc
    refine Ev.iconst ⟨dX8_lease_89, rfl⟩ (inRd rfl) ?_
    obtain rfl := Option.some.inj h
    exact Ev.ireturn (ty := .int) ⟨dX8_lease_90, rfl⟩ rfl rfl ⟨rfl, rfl⟩

def F_X8_lease_81 (z : Nat) (v0 : Nat) (v1 : Int) (v2 : Int) (v3 : Int) (v4 : Int) (u0 : Nat) (x : Mm) : Option (Int × Mm) := F_X8_lease_82 z (v0) (v1) (v2) (v3) (v4) ((0 : Int)) (u0) x
set_option maxHeartbeats 4000000 in
set_option maxRecDepth 20000 in
theorem e_X8_lease_81 (Θ : GC) (D : Nat → Nat → Prop) (z : Nat) (v0 : Nat) (v1 : Int) (v2 : Int) (v3 : Int) (v4 : Int) (u0 : Nat) (x : Mm) (y) (h : F_X8_lease_81 z v0 v1 v2 v3 v4 u0 x = some y) : Ev Θ mX8_lease 3 73 0 0 81 [(0, vr 8 (v0 + 1)), (1, vi (v1)), (2, vi (v2)), (3, vi (v3)), (4, vi (v4))] [vr 8 (u0 + 1)] (hq D x) (Ret (vi y.1) (hq D y.2)) := by
  unfold F_X8_lease_81 at h
  refine Ev.iconst ⟨dX8_lease_81, rfl⟩ (inRd rfl) ?_
  exact e_X8_lease_82 Θ D z _ _ _ _ _ _ _ _ _ h

def F_X8_lease_27 (z : Nat) (v0 : Nat) (v1 : Int) (v2 : Int) (v3 : Int) (v4 : Int) (u0 : Int) (u1 : Nat) (x : Mm) : Option (Int × Mm) := (F_X8_fails z (u1) (u0) ((1 : Int)) x).bind fun r5 => if r5.1 = 0 then ((F_X8_in z (v3) ((1 : Int)) ((100 : Int)) r5.2).bind fun r7 => (F_X8_fails z (v0) (r7) ((2 : Int)) r5.2).bind fun r9 => if r9.1 = 0 then ((F_X8_hasLease z (v0) (v1) r9.2).bind fun r11 => if r11 = 0 then ((F_X8_isAlive z (v0) (v2) r9.2).bind fun r116 => if r116 = 0 then (F_X8_lease_81 z (v0) (v1) (v2) (v3) (v4) (v0) r9.2) else ((F_X8_blockersOf z (v0) (v1) (v2) (v4) r9.2).bind fun r118 => if r118 = 0 then (F_X8_lease_82 z (v0) (v1) (v2) (v3) (v4) ((1 : Int)) (v0) r9.2) else (F_X8_lease_81 z (v0) (v1) (v2) (v3) (v4) (v0) r9.2))) else (F_X8_lease_81 z (v0) (v1) (v2) (v3) (v4) (v0) r9.2)) else (some (((0 : Int), r9.2)))) else (some (((0 : Int), r5.2)))
set_option maxHeartbeats 4000000 in
set_option maxRecDepth 20000 in
theorem e_X8_lease_27 (Θ : GC) (D : Nat → Nat → Prop) (z : Nat) (v0 : Nat) (v1 : Int) (v2 : Int) (v3 : Int) (v4 : Int) (u0 : Int) (u1 : Nat) (x : Mm) (y) (h : F_X8_lease_27 z v0 v1 v2 v3 v4 u0 u1 x = some y) : Ev Θ mX8_lease 3 73 0 0 27 [(0, vr 8 (v0 + 1)), (1, vi (v1)), (2, vi (v2)), (3, vi (v3)), (4, vi (v4))] [vi (u0), vr 8 (u1 + 1)] (hq D x) (Ret (vi y.1) (hq D y.2)) := by
  unfold F_X8_lease_27 at h
  refine Ev.iconst ⟨dX8_lease_27, rfl⟩ (inRd rfl) ?_
  obtain ⟨r5, hv4, h⟩ := bnd_s h
  refine Ev.callV1 (mc1 := 0) (ms1 := 0) (v := vi r5.1) (h1 := hq D r5.2) vX8_49 (c_X8_fails Θ D z _ _ _ _ _ hv4) rfl rfl (by decide) rfl ⟨by decide, by decide, Nat.le_of_eq (Nat.zero_add _), Nat.le_of_eq (Nat.zero_add _), Nat.le_of_ble_eq_true rfl⟩ ⟨dX8_lease_28, rfl⟩ ?_
  clear hv4
  refine Ev.if_ne jX8_lease_31 (fun hc => ?_) (fun hc => ?_)
  · replace h := (if_neg hc).symm.trans h; clear hc
    refine Ev.iconst ⟨dX8_lease_89, rfl⟩ (inRd rfl) ?_
    obtain rfl := Option.some.inj h
    exact Ev.ireturn (ty := .int) ⟨dX8_lease_90, rfl⟩ rfl rfl ⟨rfl, rfl⟩
  · replace h := (if_pos hc).symm.trans h; clear hc
    refine Ev.aload_n (q := 0) ⟨dX8_lease_34, rfl⟩ rfl rfl ?_
    refine Ev.iload_n (q := 3) ⟨dX8_lease_35, rfl⟩ rfl rfl ?_
    refine Ev.iconst ⟨dX8_lease_36, rfl⟩ (inRd rfl) ?_
    refine Ev.bipush ⟨dX8_lease_37, rfl⟩ (inRd rfl) (by decide) ?_
    obtain ⟨r7, hv6, h⟩ := bnd_s h
    refine Ev.callS1 (mc1 := 0) (ms1 := 0) (v := vi r7) (h1 := hq D r5.2) sX8_53 (c_X8_in Θ D z _ _ _ _ _ hv6) rfl rfl ⟨by decide, by decide, Nat.le_of_eq (Nat.zero_add _), Nat.le_of_eq (Nat.zero_add _), Nat.le_of_ble_eq_true rfl⟩ ⟨dX8_lease_39, rfl⟩ ?_
    clear hv6
    refine Ev.iconst ⟨dX8_lease_42, rfl⟩ (inRd rfl) ?_
    obtain ⟨r9, hv8, h⟩ := bnd_s h
    refine Ev.callV1 (mc1 := 0) (ms1 := 0) (v := vi r9.1) (h1 := hq D r9.2) vX8_49 (c_X8_fails Θ D z _ _ _ _ _ hv8) rfl rfl (by decide) rfl ⟨by decide, by decide, Nat.le_of_eq (Nat.zero_add _), Nat.le_of_eq (Nat.zero_add _), Nat.le_of_ble_eq_true rfl⟩ ⟨dX8_lease_43, rfl⟩ ?_
    clear hv8
    refine Ev.if_ne jX8_lease_46 (fun hc => ?_) (fun hc => ?_)
    · replace h := (if_neg hc).symm.trans h; clear hc
      refine Ev.iconst ⟨dX8_lease_89, rfl⟩ (inRd rfl) ?_
      obtain rfl := Option.some.inj h
      exact Ev.ireturn (ty := .int) ⟨dX8_lease_90, rfl⟩ rfl rfl ⟨rfl, rfl⟩
    · replace h := (if_pos hc).symm.trans h; clear hc
      refine Ev.aload_n (q := 0) ⟨dX8_lease_49, rfl⟩ rfl rfl ?_
      refine Ev.aload_n (q := 0) ⟨dX8_lease_50, rfl⟩ rfl rfl ?_
      refine Ev.iload_n (q := 1) ⟨dX8_lease_51, rfl⟩ rfl rfl ?_
      obtain ⟨r11, hv10, h⟩ := bnd_s h
      refine Ev.callV1 (mc1 := 0) (ms1 := 0) (v := vi r11) (h1 := hq D r9.2) vX8_177 (c_X8_hasLease Θ D z _ _ _ _ hv10) rfl rfl (by decide) rfl ⟨by decide, by decide, Nat.le_of_eq (Nat.zero_add _), Nat.le_of_eq (Nat.zero_add _), Nat.le_of_ble_eq_true rfl⟩ ⟨dX8_lease_52, rfl⟩ ?_
      clear hv10
      refine Ev.if_ne jX8_lease_55 (fun hc => ?_) (fun hc => ?_)
      · replace h := (if_neg hc).symm.trans h; clear hc
        exact e_X8_lease_81 Θ D z _ _ _ _ _ _ _ _ h
      · replace h := (if_pos hc).symm.trans h; clear hc
        refine Ev.aload_n (q := 0) ⟨dX8_lease_58, rfl⟩ rfl rfl ?_
        refine Ev.iload_n (q := 2) ⟨dX8_lease_59, rfl⟩ rfl rfl ?_
        obtain ⟨r116, hv115, h⟩ := bnd_s h
        refine Ev.callV1 (mc1 := 0) (ms1 := 0) (v := vi r116) (h1 := hq D r9.2) vX8_194 (c_X8_isAlive Θ D z _ _ _ _ hv115) rfl rfl (by decide) rfl ⟨by decide, by decide, Nat.le_of_eq (Nat.zero_add _), Nat.le_of_eq (Nat.zero_add _), Nat.le_of_ble_eq_true rfl⟩ ⟨dX8_lease_60, rfl⟩ ?_
        clear hv115
        refine Ev.if_eq jX8_lease_63 (fun hc => ?_) (fun hc => ?_)
        · replace h := (if_pos hc).symm.trans h; clear hc
          exact e_X8_lease_81 Θ D z _ _ _ _ _ _ _ _ h
        · replace h := (if_neg hc).symm.trans h; clear hc
          refine Ev.aload_n (q := 0) ⟨dX8_lease_66, rfl⟩ rfl rfl ?_
          refine Ev.iload_n (q := 1) ⟨dX8_lease_67, rfl⟩ rfl rfl ?_
          refine Ev.iload_n (q := 2) ⟨dX8_lease_68, rfl⟩ rfl rfl ?_
          refine Ev.iload (q := 4) ⟨dX8_lease_69, rfl⟩ rfl ?_
          obtain ⟨r118, hv117, h⟩ := bnd_s h
          refine Ev.callV1 (mc1 := 0) (ms1 := 0) (v := vi r118) (h1 := hq D r9.2) vX8_197 (c_X8_blockersOf Θ D z _ _ _ _ _ _ hv117) rfl rfl (by decide) rfl ⟨by decide, by decide, Nat.le_of_eq (Nat.zero_add _), Nat.le_of_eq (Nat.zero_add _), Nat.le_of_ble_eq_true rfl⟩ ⟨dX8_lease_71, rfl⟩ ?_
          clear hv117
          refine Ev.if_ne jX8_lease_74 (fun hc => ?_) (fun hc => ?_)
          · replace h := (if_neg hc).symm.trans h; clear hc
            exact e_X8_lease_81 Θ D z _ _ _ _ _ _ _ _ h
          · replace h := (if_pos hc).symm.trans h; clear hc
            refine Ev.iconst ⟨dX8_lease_77, rfl⟩ (inRd rfl) ?_
            refine Ev.goto jX8_lease_78 ?_
            exact e_X8_lease_82 Θ D z _ _ _ _ _ _ _ _ _ h

def F_X8_lease_26 (z : Nat) (v0 : Nat) (v1 : Int) (v2 : Int) (v3 : Int) (v4 : Int) (u0 : Nat) (x : Mm) : Option (Int × Mm) := F_X8_lease_27 z (v0) (v1) (v2) (v3) (v4) ((0 : Int)) (u0) x
set_option maxHeartbeats 4000000 in
set_option maxRecDepth 20000 in
theorem e_X8_lease_26 (Θ : GC) (D : Nat → Nat → Prop) (z : Nat) (v0 : Nat) (v1 : Int) (v2 : Int) (v3 : Int) (v4 : Int) (u0 : Nat) (x : Mm) (y) (h : F_X8_lease_26 z v0 v1 v2 v3 v4 u0 x = some y) : Ev Θ mX8_lease 3 73 0 0 26 [(0, vr 8 (v0 + 1)), (1, vi (v1)), (2, vi (v2)), (3, vi (v3)), (4, vi (v4))] [vr 8 (u0 + 1)] (hq D x) (Ret (vi y.1) (hq D y.2)) := by
  unfold F_X8_lease_26 at h
  refine Ev.iconst ⟨dX8_lease_26, rfl⟩ (inRd rfl) ?_
  exact e_X8_lease_27 Θ D z _ _ _ _ _ _ _ _ _ h
def F_X8_lease (z : Nat) (v0 : Nat) (v1 : Int) (v2 : Int) (v3 : Int) (v4 : Int) (x : Mm) : Option (Int × Mm) := (some (wI x 8 v0 0 ((0 : Int)))).bind fun x1 => (F_X8_isClient z (v0) (v1) x1).bind fun r3 => if r3 = 0 then (F_X8_lease_26 z (v0) (v1) (v2) (v3) (v4) (v0) x1) else ((F_X8_isNode z (v0) (v2) x1).bind fun r120 => if r120 = 0 then (F_X8_lease_26 z (v0) (v1) (v2) (v3) (v4) (v0) x1) else (F_X8_lease_27 z (v0) (v1) (v2) (v3) (v4) ((1 : Int)) (v0) x1))
set_option maxHeartbeats 4000000 in
set_option maxRecDepth 20000 in
theorem c_X8_lease (Θ : GC) (D : Nat → Nat → Prop) (z : Nat) (v0 : Nat) (v1 : Int) (v2 : Int) (v3 : Int) (v4 : Int) (x : Mm) (y) (h : F_X8_lease z v0 v1 v2 v3 v4 x = some y) : Cal Θ mX8_lease 3 73 0 0 [vr 8 (v0 + 1), vi (v1), vi (v2), vi (v3), vi (v4)] (hq D x) (Ret (vi y.1) (hq D y.2)) := by
  refine Cal.of (by decide +kernel) rfl rfl (Nat.le_of_ble_eq_true rfl) ?_
  show Ev Θ mX8_lease 3 73 0 0 0 [(0, vr 8 (v0 + 1)), (1, vi (v1)), (2, vi (v2)), (3, vi (v3)), (4, vi (v4))] [] (hq D x) (Ret (vi y.1) (hq D y.2))
  unfold F_X8_lease at h
  refine Ev.aload_n (q := 0) ⟨dX8_lease_0, rfl⟩ rfl rfl ?_
  refine Ev.iconst ⟨dX8_lease_1, rfl⟩ (inRd rfl) ?_
  obtain ⟨x1, ex, h⟩ := bnd_s h
  refine Ev.putI fX8_38 ⟨dX8_lease_2, rfl⟩ ?_
  refine Ev.cast ?_ rfl rfl (hqI ex)
  clear ex
  refine Ev.aload_n (q := 0) ⟨dX8_lease_5, rfl⟩ rfl rfl ?_
  refine Ev.aload_n (q := 0) ⟨dX8_lease_6, rfl⟩ rfl rfl ?_
  refine Ev.iload_n (q := 1) ⟨dX8_lease_7, rfl⟩ rfl rfl ?_
  obtain ⟨r3, hv2, h⟩ := bnd_s h
  refine Ev.callV1 (mc1 := 0) (ms1 := 0) (v := vi r3) (h1 := hq D x1) vX8_188 (c_X8_isClient Θ D z _ _ _ _ hv2) rfl rfl (by decide) rfl ⟨by decide, by decide, Nat.le_of_eq (Nat.zero_add _), Nat.le_of_eq (Nat.zero_add _), Nat.le_of_ble_eq_true rfl⟩ ⟨dX8_lease_8, rfl⟩ ?_
  clear hv2
  refine Ev.if_eq jX8_lease_11 (fun hc => ?_) (fun hc => ?_)
  · replace h := (if_pos hc).symm.trans h; clear hc
    exact e_X8_lease_26 Θ D z _ _ _ _ _ _ _ _ h
  · replace h := (if_neg hc).symm.trans h; clear hc
    refine Ev.aload_n (q := 0) ⟨dX8_lease_14, rfl⟩ rfl rfl ?_
    refine Ev.iload_n (q := 2) ⟨dX8_lease_15, rfl⟩ rfl rfl ?_
    obtain ⟨r120, hv119, h⟩ := bnd_s h
    refine Ev.callV1 (mc1 := 0) (ms1 := 0) (v := vi r120) (h1 := hq D x1) vX8_191 (c_X8_isNode Θ D z _ _ _ _ hv119) rfl rfl (by decide) rfl ⟨by decide, by decide, Nat.le_of_eq (Nat.zero_add _), Nat.le_of_eq (Nat.zero_add _), Nat.le_of_ble_eq_true rfl⟩ ⟨dX8_lease_16, rfl⟩ ?_
    clear hv119
    refine Ev.if_eq jX8_lease_19 (fun hc => ?_) (fun hc => ?_)
    · replace h := (if_pos hc).symm.trans h; clear hc
      exact e_X8_lease_26 Θ D z _ _ _ _ _ _ _ _ h
    · replace h := (if_neg hc).symm.trans h; clear hc
      refine Ev.iconst ⟨dX8_lease_22, rfl⟩ (inRd rfl) ?_
      refine Ev.goto jX8_lease_23 ?_
      exact e_X8_lease_27 Θ D z _ _ _ _ _ _ _ _ _ h

def F_X8_renew_72 (z : Nat) (v0 : Nat) (v1 : Int) (v2 : Int) (u0 : Int) (u1 : Nat) (x : Mm) : Option (Int × Mm) := (F_X8_fails z (u1) (u0) ((3 : Int)) x).bind fun r13 => if r13.1 = 0 then ((F_X8_record z (v0) r13.2).bind fun r15 => ckR (((3 : Int) * v1)) <| ckR (((611 : Int) + ((3 : Int) * v1))) <| ckR ((((611 : Int) + ((3 : Int) * v1)) + (1 : Int))) <| ckI (0 : Int) 5366 <| ckR (((r15.1 27 0 ((0 : Int)).toNat) + v2)) <| ckI (((611 : Int) + ((3 : Int) * v1)) + (1 : Int)) 5366 <| (some (wI r15 27 0 ((((611 : Int) + ((3 : Int) * v1)) + (1 : Int))).toNat (((r15.1 27 0 ((0 : Int)).toNat) + v2)))).bind fun x22 => ckI (0 : Int) 5366 <| ckR (((x22.1 27 0 ((0 : Int)).toNat) + v2)) <| some ((((x22.1 27 0 ((0 : Int)).toNat) + v2), x22))) else (some (((0 : Int), r13.2)))
set_option maxHeartbeats 4000000 in
set_option maxRecDepth 20000 in
theorem e_X8_renew_72 (Θ : GC) (D : Nat → Nat → Prop) (z : Nat) (v0 : Nat) (v1 : Int) (v2 : Int) (u0 : Int) (u1 : Nat) (x : Mm) (y) (h : F_X8_renew_72 z v0 v1 v2 u0 u1 x = some y) : Ev Θ mX8_renew 2 43 0 0 72 [(0, vr 8 (v0 + 1)), (1, vi (v1)), (2, vi (v2))] [vi (u0), vr 8 (u1 + 1)] (hq D x) (Ret (vi y.1) (hq D y.2)) := by
  unfold F_X8_renew_72 at h
  refine Ev.iconst ⟨dX8_renew_72, rfl⟩ (inRd rfl) ?_
  obtain ⟨r13, hv12, h⟩ := bnd_s h
  refine Ev.callV1 (mc1 := 0) (ms1 := 0) (v := vi r13.1) (h1 := hq D r13.2) vX8_49 (c_X8_fails Θ D z _ _ _ _ _ hv12) rfl rfl (by decide) rfl ⟨by decide, by decide, Nat.le_of_eq (Nat.zero_add _), Nat.le_of_eq (Nat.zero_add _), Nat.le_of_ble_eq_true rfl⟩ ⟨dX8_renew_73, rfl⟩ ?_
  clear hv12
  refine Ev.if_eq jX8_renew_76 (fun hc => ?_) (fun hc => ?_)
  · replace h := (if_pos hc).symm.trans h; clear hc
    refine Ev.aload_n (q := 0) ⟨dX8_renew_81, rfl⟩ rfl rfl ?_
    obtain ⟨r15, hv14, h⟩ := bnd_s h
    refine Ev.callVN (mc1 := 0) (ms1 := 0) (h1 := hq D r15) vX8_201 (c_X8_record Θ D z _ _ _ hv14) rfl rfl (by decide) rfl ⟨by decide, by decide, Nat.le_of_eq (Nat.zero_add _), Nat.le_of_eq (Nat.zero_add _), Nat.le_of_ble_eq_true rfl⟩ ⟨dX8_renew_82, rfl⟩ ?_
    clear hv14
    refine Ev.aload_n (q := 0) ⟨dX8_renew_85, rfl⟩ rfl rfl ?_
    refine Ev.getRk (C2 := 27) (r := 0) fX8_13 rfl (by decide) (by decide) ⟨dX8_renew_86, rfl⟩ ?_
    refine Ev.sipush ⟨dX8_renew_89, rfl⟩ (inRd rfl) (by decide) ?_
    refine Ev.iconst ⟨dX8_renew_92, rfl⟩ (inRd rfl) ?_
    refine Ev.iload_n (q := 1) ⟨dX8_renew_93, rfl⟩ rfl rfl ?_
    obtain ⟨c16, h⟩ := ckR_s h
    refine Ev.imul ⟨dX8_renew_94, rfl⟩ c16 ?_
    obtain ⟨c17, h⟩ := ckR_s h
    refine Ev.iadd ⟨dX8_renew_95, rfl⟩ c17 ?_
    refine Ev.iconst ⟨dX8_renew_96, rfl⟩ (inRd rfl) ?_
    obtain ⟨c18, h⟩ := ckR_s h
    refine Ev.iadd ⟨dX8_renew_97, rfl⟩ c18 ?_
    refine Ev.aload_n (q := 0) ⟨dX8_renew_98, rfl⟩ rfl rfl ?_
    refine Ev.getRk (C2 := 27) (r := 0) fX8_13 rfl (by decide) (by decide) ⟨dX8_renew_99, rfl⟩ ?_
    refine Ev.iconst ⟨dX8_renew_102, rfl⟩ (inRd rfl) ?_
    obtain ⟨c19, h⟩ := ckI_s h
    refine Ev.iaload (by decide) c19.1 c19.2 ⟨dX8_renew_103, rfl⟩ ?_
    refine Ev.iload_n (q := 2) ⟨dX8_renew_104, rfl⟩ rfl rfl ?_
    obtain ⟨c20, h⟩ := ckR_s h
    refine Ev.iadd ⟨dX8_renew_105, rfl⟩ c20 ?_
    obtain ⟨c21, h⟩ := ckI_s h
    obtain ⟨x22, ex, h⟩ := bnd_s h
    refine Ev.iastore (by decide) c21.1 c21.2 ⟨dX8_renew_106, rfl⟩ ?_
    refine Ev.cast ?_ rfl rfl (hqI ex)
    clear ex
    refine Ev.aload_n (q := 0) ⟨dX8_renew_107, rfl⟩ rfl rfl ?_
    refine Ev.getRk (C2 := 27) (r := 0) fX8_13 rfl (by decide) (by decide) ⟨dX8_renew_108, rfl⟩ ?_
    refine Ev.iconst ⟨dX8_renew_111, rfl⟩ (inRd rfl) ?_
    obtain ⟨c23, h⟩ := ckI_s h
    refine Ev.iaload (by decide) c23.1 c23.2 ⟨dX8_renew_112, rfl⟩ ?_
    refine Ev.iload_n (q := 2) ⟨dX8_renew_113, rfl⟩ rfl rfl ?_
    obtain ⟨c24, h⟩ := ckR_s h
    refine Ev.iadd ⟨dX8_renew_114, rfl⟩ c24 ?_
    obtain rfl := Option.some.inj h
    exact Ev.ireturn (ty := .int) ⟨dX8_renew_115, rfl⟩ rfl rfl ⟨rfl, rfl⟩
  · replace h := (if_neg hc).symm.trans h; clear hc
    refine Ev.iconst ⟨dX8_renew_79, rfl⟩ (inRd rfl) ?_
    obtain rfl := Option.some.inj h
    exact Ev.ireturn (ty := .int) ⟨dX8_renew_80, rfl⟩ rfl rfl ⟨rfl, rfl⟩

def F_X8_renew_71 (z : Nat) (v0 : Nat) (v1 : Int) (v2 : Int) (u0 : Nat) (x : Mm) : Option (Int × Mm) := F_X8_renew_72 z (v0) (v1) (v2) ((0 : Int)) (u0) x
set_option maxHeartbeats 4000000 in
set_option maxRecDepth 20000 in
theorem e_X8_renew_71 (Θ : GC) (D : Nat → Nat → Prop) (z : Nat) (v0 : Nat) (v1 : Int) (v2 : Int) (u0 : Nat) (x : Mm) (y) (h : F_X8_renew_71 z v0 v1 v2 u0 x = some y) : Ev Θ mX8_renew 2 43 0 0 71 [(0, vr 8 (v0 + 1)), (1, vi (v1)), (2, vi (v2))] [vr 8 (u0 + 1)] (hq D x) (Ret (vi y.1) (hq D y.2)) := by
  unfold F_X8_renew_71 at h
  refine Ev.iconst ⟨dX8_renew_71, rfl⟩ (inRd rfl) ?_
  exact e_X8_renew_72 Θ D z _ _ _ _ _ _ _ h
def F_X8_renew (z : Nat) (v0 : Nat) (v1 : Int) (v2 : Int) (x : Mm) : Option (Int × Mm) := (some (wI x 8 v0 0 ((0 : Int)))).bind fun x1 => (F_X8_isClient z (v0) (v1) x1).bind fun r3 => (F_X8_fails z (v0) (r3) ((1 : Int)) x1).bind fun r5 => if r5.1 = 0 then ((F_X8_in z (v2) ((1 : Int)) ((100 : Int)) r5.2).bind fun r7 => (F_X8_fails z (v0) (r7) ((2 : Int)) r5.2).bind fun r9 => if r9.1 = 0 then ((F_X8_hasLease z (v0) (v1) r9.2).bind fun r11 => if r11 = 0 then (F_X8_renew_71 z (v0) (v1) (v2) (v0) r9.2) else (ckI (0 : Int) 5366 <| ckR (((r9.2.1 27 0 ((0 : Int)).toNat) + v2)) <| ckR (((3 : Int) * v1)) <| ckR (((611 : Int) + ((3 : Int) * v1))) <| ckR ((((611 : Int) + ((3 : Int) * v1)) + (1 : Int))) <| ckI (((611 : Int) + ((3 : Int) * v1)) + (1 : Int)) 5366 <| if ((r9.2.1 27 0 ((0 : Int)).toNat) + v2) ≤ (r9.2.1 27 0 ((((611 : Int) + ((3 : Int) * v1)) + (1 : Int))).toNat) then (F_X8_renew_71 z (v0) (v1) (v2) (v0) r9.2) else (F_X8_renew_72 z (v0) (v1) (v2) ((1 : Int)) (v0) r9.2))) else (some (((0 : Int), r9.2)))) else (some (((0 : Int), r5.2)))
set_option maxHeartbeats 4000000 in
set_option maxRecDepth 20000 in
theorem c_X8_renew (Θ : GC) (D : Nat → Nat → Prop) (z : Nat) (v0 : Nat) (v1 : Int) (v2 : Int) (x : Mm) (y) (h : F_X8_renew z v0 v1 v2 x = some y) : Cal Θ mX8_renew 2 43 0 0 [vr 8 (v0 + 1), vi (v1), vi (v2)] (hq D x) (Ret (vi y.1) (hq D y.2)) := by
  refine Cal.of (by decide +kernel) rfl rfl (Nat.le_of_ble_eq_true rfl) ?_
  show Ev Θ mX8_renew 2 43 0 0 0 [(0, vr 8 (v0 + 1)), (1, vi (v1)), (2, vi (v2))] [] (hq D x) (Ret (vi y.1) (hq D y.2))
  unfold F_X8_renew at h
  refine Ev.aload_n (q := 0) ⟨dX8_renew_0, rfl⟩ rfl rfl ?_
  refine Ev.iconst ⟨dX8_renew_1, rfl⟩ (inRd rfl) ?_
  obtain ⟨x1, ex, h⟩ := bnd_s h
  refine Ev.putI fX8_38 ⟨dX8_renew_2, rfl⟩ ?_
  refine Ev.cast ?_ rfl rfl (hqI ex)
  clear ex
  refine Ev.aload_n (q := 0) ⟨dX8_renew_5, rfl⟩ rfl rfl ?_
  refine Ev.aload_n (q := 0) ⟨dX8_renew_6, rfl⟩ rfl rfl ?_
  refine Ev.iload_n (q := 1) ⟨dX8_renew_7, rfl⟩ rfl rfl ?_
  obtain ⟨r3, hv2, h⟩ := bnd_s h
  refine Ev.callV1 (mc1 := 0) (ms1 := 0) (v := vi r3) (h1 := hq D x1) vX8_188 (c_X8_isClient Θ D z _ _ _ _ hv2) rfl rfl (by decide) rfl ⟨by decide, by decide, Nat.le_of_eq (Nat.zero_add _), Nat.le_of_eq (Nat.zero_add _), Nat.le_of_ble_eq_true rfl⟩ ⟨dX8_renew_8, rfl⟩ ?_
  clear hv2
  refine Ev.iconst ⟨dX8_renew_11, rfl⟩ (inRd rfl) ?_
  obtain ⟨r5, hv4, h⟩ := bnd_s h
  refine Ev.callV1 (mc1 := 0) (ms1 := 0) (v := vi r5.1) (h1 := hq D r5.2) vX8_49 (c_X8_fails Θ D z _ _ _ _ _ hv4) rfl rfl (by decide) rfl ⟨by decide, by decide, Nat.le_of_eq (Nat.zero_add _), Nat.le_of_eq (Nat.zero_add _), Nat.le_of_ble_eq_true rfl⟩ ⟨dX8_renew_12, rfl⟩ ?_
  clear hv4
  refine Ev.if_ne jX8_renew_15 (fun hc => ?_) (fun hc => ?_)
  · replace h := (if_neg hc).symm.trans h; clear hc
    refine Ev.iconst ⟨dX8_renew_79, rfl⟩ (inRd rfl) ?_
    obtain rfl := Option.some.inj h
    exact Ev.ireturn (ty := .int) ⟨dX8_renew_80, rfl⟩ rfl rfl ⟨rfl, rfl⟩
  · replace h := (if_pos hc).symm.trans h; clear hc
    refine Ev.aload_n (q := 0) ⟨dX8_renew_18, rfl⟩ rfl rfl ?_
    refine Ev.iload_n (q := 2) ⟨dX8_renew_19, rfl⟩ rfl rfl ?_
    refine Ev.iconst ⟨dX8_renew_20, rfl⟩ (inRd rfl) ?_
    refine Ev.bipush ⟨dX8_renew_21, rfl⟩ (inRd rfl) (by decide) ?_
    obtain ⟨r7, hv6, h⟩ := bnd_s h
    refine Ev.callS1 (mc1 := 0) (ms1 := 0) (v := vi r7) (h1 := hq D r5.2) sX8_53 (c_X8_in Θ D z _ _ _ _ _ hv6) rfl rfl ⟨by decide, by decide, Nat.le_of_eq (Nat.zero_add _), Nat.le_of_eq (Nat.zero_add _), Nat.le_of_ble_eq_true rfl⟩ ⟨dX8_renew_23, rfl⟩ ?_
    clear hv6
    refine Ev.iconst ⟨dX8_renew_26, rfl⟩ (inRd rfl) ?_
    obtain ⟨r9, hv8, h⟩ := bnd_s h
    refine Ev.callV1 (mc1 := 0) (ms1 := 0) (v := vi r9.1) (h1 := hq D r9.2) vX8_49 (c_X8_fails Θ D z _ _ _ _ _ hv8) rfl rfl (by decide) rfl ⟨by decide, by decide, Nat.le_of_eq (Nat.zero_add _), Nat.le_of_eq (Nat.zero_add _), Nat.le_of_ble_eq_true rfl⟩ ⟨dX8_renew_27, rfl⟩ ?_
    clear hv8
    refine Ev.if_ne jX8_renew_30 (fun hc => ?_) (fun hc => ?_)
    · replace h := (if_neg hc).symm.trans h; clear hc
      refine Ev.iconst ⟨dX8_renew_79, rfl⟩ (inRd rfl) ?_
      obtain rfl := Option.some.inj h
      exact Ev.ireturn (ty := .int) ⟨dX8_renew_80, rfl⟩ rfl rfl ⟨rfl, rfl⟩
    · replace h := (if_pos hc).symm.trans h; clear hc
      refine Ev.aload_n (q := 0) ⟨dX8_renew_33, rfl⟩ rfl rfl ?_
      refine Ev.aload_n (q := 0) ⟨dX8_renew_34, rfl⟩ rfl rfl ?_
      refine Ev.iload_n (q := 1) ⟨dX8_renew_35, rfl⟩ rfl rfl ?_
      obtain ⟨r11, hv10, h⟩ := bnd_s h
      refine Ev.callV1 (mc1 := 0) (ms1 := 0) (v := vi r11) (h1 := hq D r9.2) vX8_177 (c_X8_hasLease Θ D z _ _ _ _ hv10) rfl rfl (by decide) rfl ⟨by decide, by decide, Nat.le_of_eq (Nat.zero_add _), Nat.le_of_eq (Nat.zero_add _), Nat.le_of_ble_eq_true rfl⟩ ⟨dX8_renew_36, rfl⟩ ?_
      clear hv10
      refine Ev.if_eq jX8_renew_39 (fun hc => ?_) (fun hc => ?_)
      · replace h := (if_pos hc).symm.trans h; clear hc
        exact e_X8_renew_71 Θ D z _ _ _ _ _ _ h
      · replace h := (if_neg hc).symm.trans h; clear hc
        refine Ev.aload_n (q := 0) ⟨dX8_renew_42, rfl⟩ rfl rfl ?_
        refine Ev.getRk (C2 := 27) (r := 0) fX8_13 rfl (by decide) (by decide) ⟨dX8_renew_43, rfl⟩ ?_
        refine Ev.iconst ⟨dX8_renew_46, rfl⟩ (inRd rfl) ?_
        obtain ⟨c25, h⟩ := ckI_s h
        refine Ev.iaload (by decide) c25.1 c25.2 ⟨dX8_renew_47, rfl⟩ ?_
        refine Ev.iload_n (q := 2) ⟨dX8_renew_48, rfl⟩ rfl rfl ?_
        obtain ⟨c26, h⟩ := ckR_s h
        refine Ev.iadd ⟨dX8_renew_49, rfl⟩ c26 ?_
        refine Ev.aload_n (q := 0) ⟨dX8_renew_50, rfl⟩ rfl rfl ?_
        refine Ev.getRk (C2 := 27) (r := 0) fX8_13 rfl (by decide) (by decide) ⟨dX8_renew_51, rfl⟩ ?_
        refine Ev.sipush ⟨dX8_renew_54, rfl⟩ (inRd rfl) (by decide) ?_
        refine Ev.iconst ⟨dX8_renew_57, rfl⟩ (inRd rfl) ?_
        refine Ev.iload_n (q := 1) ⟨dX8_renew_58, rfl⟩ rfl rfl ?_
        obtain ⟨c27, h⟩ := ckR_s h
        refine Ev.imul ⟨dX8_renew_59, rfl⟩ c27 ?_
        obtain ⟨c28, h⟩ := ckR_s h
        refine Ev.iadd ⟨dX8_renew_60, rfl⟩ c28 ?_
        refine Ev.iconst ⟨dX8_renew_61, rfl⟩ (inRd rfl) ?_
        obtain ⟨c29, h⟩ := ckR_s h
        refine Ev.iadd ⟨dX8_renew_62, rfl⟩ c29 ?_
        obtain ⟨c30, h⟩ := ckI_s h
        refine Ev.iaload (by decide) c30.1 c30.2 ⟨dX8_renew_63, rfl⟩ ?_
        refine Ev.icmp_le jX8_renew_64 (fun hc => ?_) (fun hc => ?_)
        · replace h := (if_pos hc).symm.trans h; clear hc
          exact e_X8_renew_71 Θ D z _ _ _ _ _ _ h
        · replace h := (if_neg hc).symm.trans h; clear hc
          refine Ev.iconst ⟨dX8_renew_67, rfl⟩ (inRd rfl) ?_
          refine Ev.goto jX8_renew_68 ?_
          exact e_X8_renew_72 Θ D z _ _ _ _ _ _ _ h

def F_X8_setField_100 (z : Nat) (v0 : Nat) (v1 : Int) (v2 : Int) (v3 : Int) (v4 : Int) (u0 : Int) (u1 : Nat) (x : Mm) : Option (Int × Mm) := (F_X8_fails z (u1) (u0) ((3 : Int)) x).bind fun r13 => if r13.1 = 0 then ((F_X8_record z (v0) r13.2).bind fun r15 => (F_X8_fresh z (v0) (v1) (v2) (v3) r15).bind fun r17 => ckR (((6 : Int) * v2)) <| ckR ((((6 : Int) * v2) + v3)) <| (F_X8_partOf z (v1) ((540 : Int)) ((((6 : Int) * v2) + v3)) r15).bind fun r21 => ckI r21 5366 <| (some (wI r15 27 0 (r21).toNat (v4))).bind fun x23 => some ((r17, x23))) else (some (((0 : Int), r13.2)))
set_option maxHeartbeats 4000000 in
set_option maxRecDepth 20000 in
theorem e_X8_setField_100 (Θ : GC) (D : Nat → Nat → Prop) (z : Nat) (v0 : Nat) (v1 : Int) (v2 : Int) (v3 : Int) (v4 : Int) (u0 : Int) (u1 : Nat) (x : Mm) (y) (h : F_X8_setField_100 z v0 v1 v2 v3 v4 u0 u1 x = some y) : Ev Θ mX8_setField 2 45 0 0 100 [(0, vr 8 (v0 + 1)), (1, vi (v1)), (2, vi (v2)), (3, vi (v3)), (4, vi (v4))] [vi (u0), vr 8 (u1 + 1)] (hq D x) (Ret (vi y.1) (hq D y.2)) := by
  unfold F_X8_setField_100 at h
  refine Ev.iconst ⟨dX8_setField_100, rfl⟩ (inRd rfl) ?_
  obtain ⟨r13, hv12, h⟩ := bnd_s h
  refine Ev.callV1 (mc1 := 0) (ms1 := 0) (v := vi r13.1) (h1 := hq D r13.2) vX8_49 (c_X8_fails Θ D z _ _ _ _ _ hv12) rfl rfl (by decide) rfl ⟨by decide, by decide, Nat.le_of_eq (Nat.zero_add _), Nat.le_of_eq (Nat.zero_add _), Nat.le_of_ble_eq_true rfl⟩ ⟨dX8_setField_101, rfl⟩ ?_
  clear hv12
  refine Ev.if_eq jX8_setField_104 (fun hc => ?_) (fun hc => ?_)
  · replace h := (if_pos hc).symm.trans h; clear hc
    refine Ev.aload_n (q := 0) ⟨dX8_setField_109, rfl⟩ rfl rfl ?_
    obtain ⟨r15, hv14, h⟩ := bnd_s h
    refine Ev.callVN (mc1 := 0) (ms1 := 0) (h1 := hq D r15) vX8_201 (c_X8_record Θ D z _ _ _ hv14) rfl rfl (by decide) rfl ⟨by decide, by decide, Nat.le_of_eq (Nat.zero_add _), Nat.le_of_eq (Nat.zero_add _), Nat.le_of_ble_eq_true rfl⟩ ⟨dX8_setField_110, rfl⟩ ?_
    clear hv14
    refine Ev.aload_n (q := 0) ⟨dX8_setField_113, rfl⟩ rfl rfl ?_
    refine Ev.iload_n (q := 1) ⟨dX8_setField_114, rfl⟩ rfl rfl ?_
    refine Ev.iload_n (q := 2) ⟨dX8_setField_115, rfl⟩ rfl rfl ?_
    refine Ev.iload_n (q := 3) ⟨dX8_setField_116, rfl⟩ rfl rfl ?_
    obtain ⟨r17, hv16, h⟩ := bnd_s h
    refine Ev.callV1 (mc1 := 0) (ms1 := 0) (v := vi r17) (h1 := hq D r15) vX8_212 (c_X8_fresh Θ D z _ _ _ _ _ _ hv16) rfl rfl (by decide) rfl ⟨by decide, by decide, Nat.le_of_eq (Nat.zero_add _), Nat.le_of_eq (Nat.zero_add _), Nat.le_of_ble_eq_true rfl⟩ ⟨dX8_setField_117, rfl⟩ ?_
    clear hv16
    refine Ev.istore (i := 5) (ls' := [(0, _), (1, _), (2, _), (3, _), (4, _), (5, _)]) ⟨dX8_setField_120, rfl⟩ (by decide) rfl ?_
    refine Ev.aload_n (q := 0) ⟨dX8_setField_122, rfl⟩ rfl rfl ?_
    refine Ev.getRk (C2 := 27) (r := 0) fX8_13 rfl (by decide) (by decide) ⟨dX8_setField_123, rfl⟩ ?_
    refine Ev.iload_n (q := 1) ⟨dX8_setField_126, rfl⟩ rfl rfl ?_
    refine Ev.sipush ⟨dX8_setField_127, rfl⟩ (inRd rfl) (by decide) ?_
    refine Ev.bipush ⟨dX8_setField_130, rfl⟩ (inRd rfl) (by decide) ?_
    refine Ev.iload_n (q := 2) ⟨dX8_setField_132, rfl⟩ rfl rfl ?_
    obtain ⟨c18, h⟩ := ckR_s h
    refine Ev.imul ⟨dX8_setField_133, rfl⟩ c18 ?_
    refine Ev.iload_n (q := 3) ⟨dX8_setField_134, rfl⟩ rfl rfl ?_
    obtain ⟨c19, h⟩ := ckR_s h
    refine Ev.iadd ⟨dX8_setField_135, rfl⟩ c19 ?_
    obtain ⟨r21, hv20, h⟩ := bnd_s h
    refine Ev.callS1 (mc1 := 0) (ms1 := 0) (v := vi r21) (h1 := hq D r15) sX8_173 (c_X8_partOf Θ D z _ _ _ _ _ hv20) rfl rfl ⟨by decide, by decide, Nat.le_of_eq (Nat.zero_add _), Nat.le_of_eq (Nat.zero_add _), Nat.le_of_ble_eq_true rfl⟩ ⟨dX8_setField_136, rfl⟩ ?_
    clear hv20
    refine Ev.iload (q := 4) ⟨dX8_setField_139, rfl⟩ rfl ?_
    obtain ⟨c22, h⟩ := ckI_s h
    obtain ⟨x23, ex, h⟩ := bnd_s h
    refine Ev.iastore (by decide) c22.1 c22.2 ⟨dX8_setField_141, rfl⟩ ?_
    refine Ev.cast ?_ rfl rfl (hqI ex)
    clear ex
    refine Ev.iload (q := 5) ⟨dX8_setField_142, rfl⟩ rfl ?_
    obtain rfl := Option.some.inj h
    exact Ev.ireturn (ty := .int) ⟨dX8_setField_144, rfl⟩ rfl rfl ⟨rfl, rfl⟩
  · replace h := (if_neg hc).symm.trans h; clear hc
    refine Ev.iconst ⟨dX8_setField_107, rfl⟩ (inRd rfl) ?_
    obtain rfl := Option.some.inj h
    exact Ev.ireturn (ty := .int) ⟨dX8_setField_108, rfl⟩ rfl rfl ⟨rfl, rfl⟩

def F_X8_setField_99 (z : Nat) (v0 : Nat) (v1 : Int) (v2 : Int) (v3 : Int) (v4 : Int) (u0 : Nat) (x : Mm) : Option (Int × Mm) := F_X8_setField_100 z (v0) (v1) (v2) (v3) (v4) ((0 : Int)) (u0) x
set_option maxHeartbeats 4000000 in
set_option maxRecDepth 20000 in
theorem e_X8_setField_99 (Θ : GC) (D : Nat → Nat → Prop) (z : Nat) (v0 : Nat) (v1 : Int) (v2 : Int) (v3 : Int) (v4 : Int) (u0 : Nat) (x : Mm) (y) (h : F_X8_setField_99 z v0 v1 v2 v3 v4 u0 x = some y) : Ev Θ mX8_setField 2 45 0 0 99 [(0, vr 8 (v0 + 1)), (1, vi (v1)), (2, vi (v2)), (3, vi (v3)), (4, vi (v4))] [vr 8 (u0 + 1)] (hq D x) (Ret (vi y.1) (hq D y.2)) := by
  unfold F_X8_setField_99 at h
  refine Ev.iconst ⟨dX8_setField_99, rfl⟩ (inRd rfl) ?_
  exact e_X8_setField_100 Θ D z _ _ _ _ _ _ _ _ _ h

def F_X8_setField_35 (z : Nat) (v0 : Nat) (v1 : Int) (v2 : Int) (v3 : Int) (v4 : Int) (u0 : Int) (u1 : Nat) (x : Mm) : Option (Int × Mm) := (F_X8_fails z (u1) (u0) ((1 : Int)) x).bind fun r5 => if r5.1 = 0 then ((F_X8_in z (v4) ((-1000000 : Int)) ((1000000 : Int)) r5.2).bind fun r7 => (F_X8_fails z (v0) (r7) ((2 : Int)) r5.2).bind fun r9 => if r9.1 = 0 then ((F_X8_hasLease z (v0) (v1) r9.2).bind fun r11 => if r11 = 0 then (F_X8_setField_99 z (v0) (v1) (v2) (v3) (v4) (v0) r9.2) else ((F_X8_is z (v0) (v1) ((60 : Int)) (v2) r9.2).bind fun r25 => if r25 = 0 then (F_X8_setField_99 z (v0) (v1) (v2) (v3) (v4) (v0) r9.2) else (ckR (((131 : Int) + v2)) <| ckI ((131 : Int) + v2) 5366 <| if (r9.2.1 27 0 (((131 : Int) + v2)).toNat) = (1 : Int) then (F_X8_setField_100 z (v0) (v1) (v2) (v3) (v4) ((1 : Int)) (v0) r9.2) else (F_X8_setField_99 z (v0) (v1) (v2) (v3) (v4) (v0) r9.2)))) else (some (((0 : Int), r9.2)))) else (some (((0 : Int), r5.2)))
set_option maxHeartbeats 4000000 in
set_option maxRecDepth 20000 in
theorem e_X8_setField_35 (Θ : GC) (D : Nat → Nat → Prop) (z : Nat) (v0 : Nat) (v1 : Int) (v2 : Int) (v3 : Int) (v4 : Int) (u0 : Int) (u1 : Nat) (x : Mm) (y) (h : F_X8_setField_35 z v0 v1 v2 v3 v4 u0 u1 x = some y) : Ev Θ mX8_setField 2 45 0 0 35 [(0, vr 8 (v0 + 1)), (1, vi (v1)), (2, vi (v2)), (3, vi (v3)), (4, vi (v4))] [vi (u0), vr 8 (u1 + 1)] (hq D x) (Ret (vi y.1) (hq D y.2)) := by
  unfold F_X8_setField_35 at h
  refine Ev.iconst ⟨dX8_setField_35, rfl⟩ (inRd rfl) ?_
  obtain ⟨r5, hv4, h⟩ := bnd_s h
  refine Ev.callV1 (mc1 := 0) (ms1 := 0) (v := vi r5.1) (h1 := hq D r5.2) vX8_49 (c_X8_fails Θ D z _ _ _ _ _ hv4) rfl rfl (by decide) rfl ⟨by decide, by decide, Nat.le_of_eq (Nat.zero_add _), Nat.le_of_eq (Nat.zero_add _), Nat.le_of_ble_eq_true rfl⟩ ⟨dX8_setField_36, rfl⟩ ?_
  clear hv4
  refine Ev.if_ne jX8_setField_39 (fun hc => ?_) (fun hc => ?_)
  · replace h := (if_neg hc).symm.trans h; clear hc
    refine Ev.iconst ⟨dX8_setField_59, rfl⟩ (inRd rfl) ?_
    obtain rfl := Option.some.inj h
    exact Ev.ireturn (ty := .int) ⟨dX8_setField_60, rfl⟩ rfl rfl ⟨rfl, rfl⟩
  · replace h := (if_pos hc).symm.trans h; clear hc
    refine Ev.aload_n (q := 0) ⟨dX8_setField_42, rfl⟩ rfl rfl ?_
    refine Ev.iload (q := 4) ⟨dX8_setField_43, rfl⟩ rfl ?_
    refine Ev.ldc (n := -1000000) ⟨dX8_setField_45, rfl⟩ (inRd rfl) wX8_208 ?_
    refine Ev.ldc (n := 1000000) ⟨dX8_setField_47, rfl⟩ (inRd rfl) wX8_135 ?_
    obtain ⟨r7, hv6, h⟩ := bnd_s h
    refine Ev.callS1 (mc1 := 0) (ms1 := 0) (v := vi r7) (h1 := hq D r5.2) sX8_53 (c_X8_in Θ D z _ _ _ _ _ hv6) rfl rfl ⟨by decide, by decide, Nat.le_of_eq (Nat.zero_add _), Nat.le_of_eq (Nat.zero_add _), Nat.le_of_ble_eq_true rfl⟩ ⟨dX8_setField_49, rfl⟩ ?_
    clear hv6
    refine Ev.iconst ⟨dX8_setField_52, rfl⟩ (inRd rfl) ?_
    obtain ⟨r9, hv8, h⟩ := bnd_s h
    refine Ev.callV1 (mc1 := 0) (ms1 := 0) (v := vi r9.1) (h1 := hq D r9.2) vX8_49 (c_X8_fails Θ D z _ _ _ _ _ hv8) rfl rfl (by decide) rfl ⟨by decide, by decide, Nat.le_of_eq (Nat.zero_add _), Nat.le_of_eq (Nat.zero_add _), Nat.le_of_ble_eq_true rfl⟩ ⟨dX8_setField_53, rfl⟩ ?_
    clear hv8
    refine Ev.if_eq jX8_setField_56 (fun hc => ?_) (fun hc => ?_)
    · replace h := (if_pos hc).symm.trans h; clear hc
      refine Ev.aload_n (q := 0) ⟨dX8_setField_61, rfl⟩ rfl rfl ?_
      refine Ev.aload_n (q := 0) ⟨dX8_setField_62, rfl⟩ rfl rfl ?_
      refine Ev.iload_n (q := 1) ⟨dX8_setField_63, rfl⟩ rfl rfl ?_
      obtain ⟨r11, hv10, h⟩ := bnd_s h
      refine Ev.callV1 (mc1 := 0) (ms1 := 0) (v := vi r11) (h1 := hq D r9.2) vX8_177 (c_X8_hasLease Θ D z _ _ _ _ hv10) rfl rfl (by decide) rfl ⟨by decide, by decide, Nat.le_of_eq (Nat.zero_add _), Nat.le_of_eq (Nat.zero_add _), Nat.le_of_ble_eq_true rfl⟩ ⟨dX8_setField_64, rfl⟩ ?_
      clear hv10
      refine Ev.if_eq jX8_setField_67 (fun hc => ?_) (fun hc => ?_)
      · replace h := (if_pos hc).symm.trans h; clear hc
        exact e_X8_setField_99 Θ D z _ _ _ _ _ _ _ _ h
      · replace h := (if_neg hc).symm.trans h; clear hc
        refine Ev.aload_n (q := 0) ⟨dX8_setField_70, rfl⟩ rfl rfl ?_
        refine Ev.iload_n (q := 1) ⟨dX8_setField_71, rfl⟩ rfl rfl ?_
        refine Ev.bipush ⟨dX8_setField_72, rfl⟩ (inRd rfl) (by decide) ?_
        refine Ev.iload_n (q := 2) ⟨dX8_setField_74, rfl⟩ rfl rfl ?_
        obtain ⟨r25, hv24, h⟩ := bnd_s h
        refine Ev.callV1 (mc1 := 0) (ms1 := 0) (v := vi r25) (h1 := hq D r9.2) vX8_209 (c_X8_is Θ D z _ _ _ _ _ _ hv24) rfl rfl (by decide) rfl ⟨by decide, by decide, Nat.le_of_eq (Nat.zero_add _), Nat.le_of_eq (Nat.zero_add _), Nat.le_of_ble_eq_true rfl⟩ ⟨dX8_setField_75, rfl⟩ ?_
        clear hv24
        refine Ev.if_eq jX8_setField_78 (fun hc => ?_) (fun hc => ?_)
        · replace h := (if_pos hc).symm.trans h; clear hc
          exact e_X8_setField_99 Θ D z _ _ _ _ _ _ _ _ h
        · replace h := (if_neg hc).symm.trans h; clear hc
          refine Ev.aload_n (q := 0) ⟨dX8_setField_81, rfl⟩ rfl rfl ?_
          refine Ev.getRk (C2 := 27) (r := 0) fX8_13 rfl (by decide) (by decide) ⟨dX8_setField_82, rfl⟩ ?_
          refine Ev.sipush ⟨dX8_setField_85, rfl⟩ (inRd rfl) (by decide) ?_
          refine Ev.iload_n (q := 2) ⟨dX8_setField_88, rfl⟩ rfl rfl ?_
          obtain ⟨c26, h⟩ := ckR_s h
          refine Ev.iadd ⟨dX8_setField_89, rfl⟩ c26 ?_
          obtain ⟨c27, h⟩ := ckI_s h
          refine Ev.iaload (by decide) c27.1 c27.2 ⟨dX8_setField_90, rfl⟩ ?_
          refine Ev.iconst ⟨dX8_setField_91, rfl⟩ (inRd rfl) ?_
          refine Ev.icmp_ne jX8_setField_92 (fun hc => ?_) (fun hc => ?_)
          · replace h := (if_neg hc).symm.trans h; clear hc
            exact e_X8_setField_99 Θ D z _ _ _ _ _ _ _ _ h
          · replace h := (if_pos hc).symm.trans h; clear hc
            refine Ev.iconst ⟨dX8_setField_95, rfl⟩ (inRd rfl) ?_
            refine Ev.goto jX8_setField_96 ?_
            exact e_X8_setField_100 Θ D z _ _ _ _ _ _ _ _ _ h
    · replace h := (if_neg hc).symm.trans h; clear hc
      refine Ev.iconst ⟨dX8_setField_59, rfl⟩ (inRd rfl) ?_
      obtain rfl := Option.some.inj h
      exact Ev.ireturn (ty := .int) ⟨dX8_setField_60, rfl⟩ rfl rfl ⟨rfl, rfl⟩

def F_X8_setField_34 (z : Nat) (v0 : Nat) (v1 : Int) (v2 : Int) (v3 : Int) (v4 : Int) (u0 : Nat) (x : Mm) : Option (Int × Mm) := F_X8_setField_35 z (v0) (v1) (v2) (v3) (v4) ((0 : Int)) (u0) x
set_option maxHeartbeats 4000000 in
set_option maxRecDepth 20000 in
theorem e_X8_setField_34 (Θ : GC) (D : Nat → Nat → Prop) (z : Nat) (v0 : Nat) (v1 : Int) (v2 : Int) (v3 : Int) (v4 : Int) (u0 : Nat) (x : Mm) (y) (h : F_X8_setField_34 z v0 v1 v2 v3 v4 u0 x = some y) : Ev Θ mX8_setField 2 45 0 0 34 [(0, vr 8 (v0 + 1)), (1, vi (v1)), (2, vi (v2)), (3, vi (v3)), (4, vi (v4))] [vr 8 (u0 + 1)] (hq D x) (Ret (vi y.1) (hq D y.2)) := by
  unfold F_X8_setField_34 at h
  refine Ev.iconst ⟨dX8_setField_34, rfl⟩ (inRd rfl) ?_
  exact e_X8_setField_35 Θ D z _ _ _ _ _ _ _ _ _ h
def F_X8_setField (z : Nat) (v0 : Nat) (v1 : Int) (v2 : Int) (v3 : Int) (v4 : Int) (x : Mm) : Option (Int × Mm) := (some (wI x 8 v0 0 ((0 : Int)))).bind fun x1 => (F_X8_isClient z (v0) (v1) x1).bind fun r3 => if r3 = 0 then (F_X8_setField_34 z (v0) (v1) (v2) (v3) (v4) (v0) x1) else ((F_X8_isNode z (v0) (v2) x1).bind fun r29 => if r29 = 0 then (F_X8_setField_34 z (v0) (v1) (v2) (v3) (v4) (v0) x1) else ((F_X8_isField z (v0) (v3) x1).bind fun r31 => if r31 = 0 then (F_X8_setField_34 z (v0) (v1) (v2) (v3) (v4) (v0) x1) else (F_X8_setField_35 z (v0) (v1) (v2) (v3) (v4) ((1 : Int)) (v0) x1)))
set_option maxHeartbeats 4000000 in
set_option maxRecDepth 20000 in
theorem c_X8_setField (Θ : GC) (D : Nat → Nat → Prop) (z : Nat) (v0 : Nat) (v1 : Int) (v2 : Int) (v3 : Int) (v4 : Int) (x : Mm) (y) (h : F_X8_setField z v0 v1 v2 v3 v4 x = some y) : Cal Θ mX8_setField 2 45 0 0 [vr 8 (v0 + 1), vi (v1), vi (v2), vi (v3), vi (v4)] (hq D x) (Ret (vi y.1) (hq D y.2)) := by
  refine Cal.of (by decide +kernel) rfl rfl (Nat.le_of_ble_eq_true rfl) ?_
  show Ev Θ mX8_setField 2 45 0 0 0 [(0, vr 8 (v0 + 1)), (1, vi (v1)), (2, vi (v2)), (3, vi (v3)), (4, vi (v4))] [] (hq D x) (Ret (vi y.1) (hq D y.2))
  unfold F_X8_setField at h
  refine Ev.aload_n (q := 0) ⟨dX8_setField_0, rfl⟩ rfl rfl ?_
  refine Ev.iconst ⟨dX8_setField_1, rfl⟩ (inRd rfl) ?_
  obtain ⟨x1, ex, h⟩ := bnd_s h
  refine Ev.putI fX8_38 ⟨dX8_setField_2, rfl⟩ ?_
  refine Ev.cast ?_ rfl rfl (hqI ex)
  clear ex
  refine Ev.aload_n (q := 0) ⟨dX8_setField_5, rfl⟩ rfl rfl ?_
  refine Ev.aload_n (q := 0) ⟨dX8_setField_6, rfl⟩ rfl rfl ?_
  refine Ev.iload_n (q := 1) ⟨dX8_setField_7, rfl⟩ rfl rfl ?_
  obtain ⟨r3, hv2, h⟩ := bnd_s h
  refine Ev.callV1 (mc1 := 0) (ms1 := 0) (v := vi r3) (h1 := hq D x1) vX8_188 (c_X8_isClient Θ D z _ _ _ _ hv2) rfl rfl (by decide) rfl ⟨by decide, by decide, Nat.le_of_eq (Nat.zero_add _), Nat.le_of_eq (Nat.zero_add _), Nat.le_of_ble_eq_true rfl⟩ ⟨dX8_setField_8, rfl⟩ ?_
  clear hv2
  refine Ev.if_eq jX8_setField_11 (fun hc => ?_) (fun hc => ?_)
  · replace h := (if_pos hc).symm.trans h; clear hc
    exact e_X8_setField_34 Θ D z _ _ _ _ _ _ _ _ h
  · replace h := (if_neg hc).symm.trans h; clear hc
    refine Ev.aload_n (q := 0) ⟨dX8_setField_14, rfl⟩ rfl rfl ?_
    refine Ev.iload_n (q := 2) ⟨dX8_setField_15, rfl⟩ rfl rfl ?_
    obtain ⟨r29, hv28, h⟩ := bnd_s h
    refine Ev.callV1 (mc1 := 0) (ms1 := 0) (v := vi r29) (h1 := hq D x1) vX8_191 (c_X8_isNode Θ D z _ _ _ _ hv28) rfl rfl (by decide) rfl ⟨by decide, by decide, Nat.le_of_eq (Nat.zero_add _), Nat.le_of_eq (Nat.zero_add _), Nat.le_of_ble_eq_true rfl⟩ ⟨dX8_setField_16, rfl⟩ ?_
    clear hv28
    refine Ev.if_eq jX8_setField_19 (fun hc => ?_) (fun hc => ?_)
    · replace h := (if_pos hc).symm.trans h; clear hc
      exact e_X8_setField_34 Θ D z _ _ _ _ _ _ _ _ h
    · replace h := (if_neg hc).symm.trans h; clear hc
      refine Ev.aload_n (q := 0) ⟨dX8_setField_22, rfl⟩ rfl rfl ?_
      refine Ev.iload_n (q := 3) ⟨dX8_setField_23, rfl⟩ rfl rfl ?_
      obtain ⟨r31, hv30, h⟩ := bnd_s h
      refine Ev.callV1 (mc1 := 0) (ms1 := 0) (v := vi r31) (h1 := hq D x1) vX8_205 (c_X8_isField Θ D z _ _ _ _ hv30) rfl rfl (by decide) rfl ⟨by decide, by decide, Nat.le_of_eq (Nat.zero_add _), Nat.le_of_eq (Nat.zero_add _), Nat.le_of_ble_eq_true rfl⟩ ⟨dX8_setField_24, rfl⟩ ?_
      clear hv30
      refine Ev.if_eq jX8_setField_27 (fun hc => ?_) (fun hc => ?_)
      · replace h := (if_pos hc).symm.trans h; clear hc
        exact e_X8_setField_34 Θ D z _ _ _ _ _ _ _ _ h
      · replace h := (if_neg hc).symm.trans h; clear hc
        refine Ev.iconst ⟨dX8_setField_30, rfl⟩ (inRd rfl) ?_
        refine Ev.goto jX8_setField_31 ?_
        exact e_X8_setField_35 Θ D z _ _ _ _ _ _ _ _ _ h

def F_X8_isToAdd_53 (z : Nat) (v0 : Nat) (v1 : Int) (v2 : Int) (v3 : Int) (x : Mm) : Nat → Int → Int → Option (Int)
  | 0, _, _ => none
  | k + 1, v4, v5 => ckI (3 : Int) 5366 <| if (x.1 27 0 ((3 : Int)).toNat) ≤ v5 then (some (v4)) else (if v4 = 0 then (some (v4)) else ((F_X8_is z (v0) (v1) ((60 : Int)) (v5) x).bind fun r5 => if r5 = 0 then (ckR ((v5 + 1)) <| F_X8_isToAdd_53 z v0 v1 v2 v3 x k ((1 : Int)) ((v5 + 1))) else (ckR (((11 : Int) + v5)) <| ckI ((11 : Int) + v5) 5366 <| if (x.1 27 0 (((11 : Int) + v5)).toNat) = v2 then (ckR (((71 : Int) + v5)) <| ckI ((71 : Int) + v5) 5366 <| if (x.1 27 0 (((71 : Int) + v5)).toNat) = v3 then (ckR ((v5 + 1)) <| F_X8_isToAdd_53 z v0 v1 v2 v3 x k ((0 : Int)) ((v5 + 1))) else (ckR ((v5 + 1)) <| F_X8_isToAdd_53 z v0 v1 v2 v3 x k ((1 : Int)) ((v5 + 1)))) else (ckR ((v5 + 1)) <| F_X8_isToAdd_53 z v0 v1 v2 v3 x k ((1 : Int)) ((v5 + 1))))))
set_option maxHeartbeats 4000000 in
set_option maxRecDepth 20000 in
theorem e_X8_isToAdd_53 (Θ : GC) (D : Nat → Nat → Prop) (z : Nat) (v0 : Nat) (v1 : Int) (v2 : Int) (v3 : Int) (x : Mm) (Q : Ro → Hp → Prop) (mc ms : Nat) : ∀ (k : Nat) (v4 : Int) (v5 : Int) (y), F_X8_isToAdd_53 z v0 v1 v2 v3 x k v4 v5 = some y → (Ev Θ mX8_isToAdd 2 45 mc ms 122 [(0, vr 8 (v0 + 1)), (1, vi (v1)), (2, vi (v2)), (3, vi (v3)), (4, vi (y))] [] (hq D x) Q) → Ev Θ mX8_isToAdd 2 45 mc ms 53 [(0, vr 8 (v0 + 1)), (1, vi (v1)), (2, vi (v2)), (3, vi (v3)), (4, vi (v4)), (5, vi (v5))] [] (hq D x) Q := by
  intro k
  induction k with
  | zero => intro v4 v5 y h; exact absurd h (by unfold F_X8_isToAdd_53; exact nofun)
  | succ k ih =>
    intro v4 v5 y h k1
    unfold F_X8_isToAdd_53 at h
    refine Ev.iload (q := 5) ⟨dX8_isToAdd_53, rfl⟩ rfl ?_
    refine Ev.aload_n (q := 0) ⟨dX8_isToAdd_55, rfl⟩ rfl rfl ?_
    refine Ev.getRk (C2 := 27) (r := 0) fX8_13 rfl (by decide) (by decide) ⟨dX8_isToAdd_56, rfl⟩ ?_
    refine Ev.iconst ⟨dX8_isToAdd_59, rfl⟩ (inRd rfl) ?_
    obtain ⟨c3, h⟩ := ckI_s h
    refine Ev.iaload (by decide) c3.1 c3.2 ⟨dX8_isToAdd_60, rfl⟩ ?_
    refine Ev.icmp_ge jX8_isToAdd_61 (fun hc => ?_) (fun hc => ?_)
    · replace h := (if_pos hc).symm.trans h; clear hc
      refine Ev.keep [0, 1, 2, 3, 4] rfl ?_
      obtain rfl := Option.some.inj h
      exact k1
    · replace h := (if_neg hc).symm.trans h; clear hc
      refine Ev.iload (q := 4) ⟨dX8_isToAdd_64, rfl⟩ rfl ?_
      refine Ev.if_eq jX8_isToAdd_66 (fun hc => ?_) (fun hc => ?_)
      · replace h := (if_pos hc).symm.trans h; clear hc
        refine Ev.keep [0, 1, 2, 3, 4] rfl ?_
        obtain rfl := Option.some.inj h
        exact k1
      · replace h := (if_neg hc).symm.trans h; clear hc
        refine Ev.aload_n (q := 0) ⟨dX8_isToAdd_69, rfl⟩ rfl rfl ?_
        refine Ev.iload_n (q := 1) ⟨dX8_isToAdd_70, rfl⟩ rfl rfl ?_
        refine Ev.bipush ⟨dX8_isToAdd_71, rfl⟩ (inRd rfl) (by decide) ?_
        refine Ev.iload (q := 5) ⟨dX8_isToAdd_73, rfl⟩ rfl ?_
        obtain ⟨r5, hv4, h⟩ := bnd_s h
        refine Ev.callV1 (mc1 := mc) (ms1 := ms) (v := vi r5) (h1 := hq D x) vX8_209 (c_X8_is Θ D z _ _ _ _ _ _ hv4) rfl rfl (by decide) rfl ⟨by decide, by decide, Nat.le_of_eq (Nat.zero_add _), Nat.le_of_eq (Nat.zero_add _), Nat.le_of_ble_eq_true rfl⟩ ⟨dX8_isToAdd_75, rfl⟩ ?_
        clear hv4
        refine Ev.if_eq jX8_isToAdd_78 (fun hc => ?_) (fun hc => ?_)
        · replace h := (if_pos hc).symm.trans h; clear hc
          refine Ev.iconst ⟨dX8_isToAdd_109, rfl⟩ (inRd rfl) ?_
          refine Ev.goto jX8_isToAdd_110 ?_
          refine Ev.istore (i := 4) (ls' := [(0, _), (1, _), (2, _), (3, _), (4, _), (5, _)]) ⟨dX8_isToAdd_114, rfl⟩ (by decide) rfl ?_
          obtain ⟨c6, h⟩ := ckR_s h
          refine Ev.iinc (q := 5) (ls' := [(0, _), (1, _), (2, _), (3, _), (4, _), (5, _)]) ⟨dX8_isToAdd_116, rfl⟩ rfl (by decide) c6 rfl ?_
          refine Ev.goto jX8_isToAdd_119 ?_
          exact ih _ _ _ h k1
        · replace h := (if_neg hc).symm.trans h; clear hc
          refine Ev.aload_n (q := 0) ⟨dX8_isToAdd_81, rfl⟩ rfl rfl ?_
          refine Ev.getRk (C2 := 27) (r := 0) fX8_13 rfl (by decide) (by decide) ⟨dX8_isToAdd_82, rfl⟩ ?_
          refine Ev.bipush ⟨dX8_isToAdd_85, rfl⟩ (inRd rfl) (by decide) ?_
          refine Ev.iload (q := 5) ⟨dX8_isToAdd_87, rfl⟩ rfl ?_
          obtain ⟨c7, h⟩ := ckR_s h
          refine Ev.iadd ⟨dX8_isToAdd_89, rfl⟩ c7 ?_
          obtain ⟨c8, h⟩ := ckI_s h
          refine Ev.iaload (by decide) c8.1 c8.2 ⟨dX8_isToAdd_90, rfl⟩ ?_
          refine Ev.iload_n (q := 2) ⟨dX8_isToAdd_91, rfl⟩ rfl rfl ?_
          refine Ev.icmp_ne jX8_isToAdd_92 (fun hc => ?_) (fun hc => ?_)
          · replace h := (if_neg hc).symm.trans h; clear hc
            refine Ev.iconst ⟨dX8_isToAdd_109, rfl⟩ (inRd rfl) ?_
            refine Ev.goto jX8_isToAdd_110 ?_
            refine Ev.istore (i := 4) (ls' := [(0, _), (1, _), (2, _), (3, _), (4, _), (5, _)]) ⟨dX8_isToAdd_114, rfl⟩ (by decide) rfl ?_
            obtain ⟨c9, h⟩ := ckR_s h
            refine Ev.iinc (q := 5) (ls' := [(0, _), (1, _), (2, _), (3, _), (4, _), (5, _)]) ⟨dX8_isToAdd_116, rfl⟩ rfl (by decide) c9 rfl ?_
            refine Ev.goto jX8_isToAdd_119 ?_
            exact ih _ _ _ h k1
          · replace h := (if_pos hc).symm.trans h; clear hc
            refine Ev.aload_n (q := 0) ⟨dX8_isToAdd_95, rfl⟩ rfl rfl ?_
            refine Ev.getRk (C2 := 27) (r := 0) fX8_13 rfl (by decide) (by decide) ⟨dX8_isToAdd_96, rfl⟩ ?_
            refine Ev.bipush ⟨dX8_isToAdd_99, rfl⟩ (inRd rfl) (by decide) ?_
            refine Ev.iload (q := 5) ⟨dX8_isToAdd_101, rfl⟩ rfl ?_
            obtain ⟨c10, h⟩ := ckR_s h
            refine Ev.iadd ⟨dX8_isToAdd_103, rfl⟩ c10 ?_
            obtain ⟨c11, h⟩ := ckI_s h
            refine Ev.iaload (by decide) c11.1 c11.2 ⟨dX8_isToAdd_104, rfl⟩ ?_
            refine Ev.iload_n (q := 3) ⟨dX8_isToAdd_105, rfl⟩ rfl rfl ?_
            refine Ev.icmp_eq jX8_isToAdd_106 (fun hc => ?_) (fun hc => ?_)
            · replace h := (if_pos hc).symm.trans h; clear hc
              refine Ev.iconst ⟨dX8_isToAdd_113, rfl⟩ (inRd rfl) ?_
              refine Ev.istore (i := 4) (ls' := [(0, _), (1, _), (2, _), (3, _), (4, _), (5, _)]) ⟨dX8_isToAdd_114, rfl⟩ (by decide) rfl ?_
              obtain ⟨c12, h⟩ := ckR_s h
              refine Ev.iinc (q := 5) (ls' := [(0, _), (1, _), (2, _), (3, _), (4, _), (5, _)]) ⟨dX8_isToAdd_116, rfl⟩ rfl (by decide) c12 rfl ?_
              refine Ev.goto jX8_isToAdd_119 ?_
              exact ih _ _ _ h k1
            · replace h := (if_neg hc).symm.trans h; clear hc
              refine Ev.iconst ⟨dX8_isToAdd_109, rfl⟩ (inRd rfl) ?_
              refine Ev.goto jX8_isToAdd_110 ?_
              refine Ev.istore (i := 4) (ls' := [(0, _), (1, _), (2, _), (3, _), (4, _), (5, _)]) ⟨dX8_isToAdd_114, rfl⟩ (by decide) rfl ?_
              obtain ⟨c13, h⟩ := ckR_s h
              refine Ev.iinc (q := 5) (ls' := [(0, _), (1, _), (2, _), (3, _), (4, _), (5, _)]) ⟨dX8_isToAdd_116, rfl⟩ rfl (by decide) c13 rfl ?_
              refine Ev.goto jX8_isToAdd_119 ?_
              exact ih _ _ _ h k1

def F_X8_isToAdd_48 (z : Nat) (v0 : Nat) (v1 : Int) (v2 : Int) (v3 : Int) (u0 : Int) (x : Mm) : Option (Int) := (F_X8_isToAdd_53 z (v0) (v1) (v2) (v3) x z (u0) ((0 : Int))).bind fun s14 => ckZ (s14) <| some (s14)
set_option maxHeartbeats 4000000 in
set_option maxRecDepth 20000 in
theorem e_X8_isToAdd_48 (Θ : GC) (D : Nat → Nat → Prop) (z : Nat) (v0 : Nat) (v1 : Int) (v2 : Int) (v3 : Int) (u0 : Int) (x : Mm) (y) (h : F_X8_isToAdd_48 z v0 v1 v2 v3 u0 x = some y) : Ev Θ mX8_isToAdd 2 45 0 0 48 [(0, vr 8 (v0 + 1)), (1, vi (v1)), (2, vi (v2)), (3, vi (v3))] [vi (u0)] (hq D x) (Ret (vi y) (hq D x)) := by
  unfold F_X8_isToAdd_48 at h
  refine Ev.istore (i := 4) (ls' := [(0, _), (1, _), (2, _), (3, _), (4, _)]) ⟨dX8_isToAdd_48, rfl⟩ (by decide) rfl ?_
  refine Ev.iconst ⟨dX8_isToAdd_50, rfl⟩ (inRd rfl) ?_
  refine Ev.istore (i := 5) (ls' := [(0, _), (1, _), (2, _), (3, _), (4, _), (5, _)]) ⟨dX8_isToAdd_51, rfl⟩ (by decide) rfl ?_
  obtain ⟨s14, hl, h⟩ := bnd_s h
  refine e_X8_isToAdd_53 Θ D z _ _ _ _ _ _ _ _ _ _ _ _ hl ?_
  clear hl
  refine Ev.iload (q := 4) ⟨dX8_isToAdd_122, rfl⟩ rfl ?_
  obtain ⟨c15, h⟩ := ckZ_s h
  obtain rfl := Option.some.inj h
  exact Ev.ireturn (ty := .boolean) ⟨dX8_isToAdd_124, rfl⟩ rfl (nz c15) ⟨rfl, rfl⟩

def F_X8_isToAdd_47 (z : Nat) (v0 : Nat) (v1 : Int) (v2 : Int) (v3 : Int) (x : Mm) : Option (Int) := F_X8_isToAdd_48 z (v0) (v1) (v2) (v3) ((0 : Int)) x
set_option maxHeartbeats 4000000 in
set_option maxRecDepth 20000 in
theorem e_X8_isToAdd_47 (Θ : GC) (D : Nat → Nat → Prop) (z : Nat) (v0 : Nat) (v1 : Int) (v2 : Int) (v3 : Int) (x : Mm) (y) (h : F_X8_isToAdd_47 z v0 v1 v2 v3 x = some y) : Ev Θ mX8_isToAdd 2 45 0 0 47 [(0, vr 8 (v0 + 1)), (1, vi (v1)), (2, vi (v2)), (3, vi (v3))] [] (hq D x) (Ret (vi y) (hq D x)) := by
  unfold F_X8_isToAdd_47 at h
  refine Ev.iconst ⟨dX8_isToAdd_47, rfl⟩ (inRd rfl) ?_
  exact e_X8_isToAdd_48 Θ D z _ _ _ _ _ _ _ h
def F_X8_isToAdd (z : Nat) (v0 : Nat) (v1 : Int) (v2 : Int) (v3 : Int) (x : Mm) : Option (Int) := (F_X8_hasLease z (v0) (v1) x).bind fun r2 => if r2 = 0 then (F_X8_isToAdd_47 z (v0) (v1) (v2) (v3) x) else ((F_X8_is z (v0) (v1) ((60 : Int)) (v2) x).bind fun r17 => if r17 = 0 then (F_X8_isToAdd_47 z (v0) (v1) (v2) (v3) x) else (ckR (((131 : Int) + v2)) <| ckI ((131 : Int) + v2) 5366 <| if (x.1 27 0 (((131 : Int) + v2)).toNat) = 0 then (ckI (3 : Int) 5366 <| if (60 : Int) ≤ (x.1 27 0 ((3 : Int)).toNat) then (F_X8_isToAdd_47 z (v0) (v1) (v2) (v3) x) else (F_X8_isToAdd_48 z (v0) (v1) (v2) (v3) ((1 : Int)) x)) else (F_X8_isToAdd_47 z (v0) (v1) (v2) (v3) x)))
set_option maxHeartbeats 4000000 in
set_option maxRecDepth 20000 in
theorem c_X8_isToAdd (Θ : GC) (D : Nat → Nat → Prop) (z : Nat) (v0 : Nat) (v1 : Int) (v2 : Int) (v3 : Int) (x : Mm) (y) (h : F_X8_isToAdd z v0 v1 v2 v3 x = some y) : Cal Θ mX8_isToAdd 2 45 0 0 [vr 8 (v0 + 1), vi (v1), vi (v2), vi (v3)] (hq D x) (Ret (vi y) (hq D x)) := by
  refine Cal.of (by decide +kernel) rfl rfl (Nat.le_of_ble_eq_true rfl) ?_
  show Ev Θ mX8_isToAdd 2 45 0 0 0 [(0, vr 8 (v0 + 1)), (1, vi (v1)), (2, vi (v2)), (3, vi (v3))] [] (hq D x) (Ret (vi y) (hq D x))
  unfold F_X8_isToAdd at h
  refine Ev.aload_n (q := 0) ⟨dX8_isToAdd_0, rfl⟩ rfl rfl ?_
  refine Ev.iload_n (q := 1) ⟨dX8_isToAdd_1, rfl⟩ rfl rfl ?_
  obtain ⟨r2, hv1, h⟩ := bnd_s h
  refine Ev.callV1 (mc1 := 0) (ms1 := 0) (v := vi r2) (h1 := hq D x) vX8_177 (c_X8_hasLease Θ D z _ _ _ _ hv1) rfl rfl (by decide) rfl ⟨by decide, by decide, Nat.le_of_eq (Nat.zero_add _), Nat.le_of_eq (Nat.zero_add _), Nat.le_of_ble_eq_true rfl⟩ ⟨dX8_isToAdd_2, rfl⟩ ?_
  clear hv1
  refine Ev.if_eq jX8_isToAdd_5 (fun hc => ?_) (fun hc => ?_)
  · replace h := (if_pos hc).symm.trans h; clear hc
    exact e_X8_isToAdd_47 Θ D z _ _ _ _ _ _ h
  · replace h := (if_neg hc).symm.trans h; clear hc
    refine Ev.aload_n (q := 0) ⟨dX8_isToAdd_8, rfl⟩ rfl rfl ?_
    refine Ev.iload_n (q := 1) ⟨dX8_isToAdd_9, rfl⟩ rfl rfl ?_
    refine Ev.bipush ⟨dX8_isToAdd_10, rfl⟩ (inRd rfl) (by decide) ?_
    refine Ev.iload_n (q := 2) ⟨dX8_isToAdd_12, rfl⟩ rfl rfl ?_
    obtain ⟨r17, hv16, h⟩ := bnd_s h
    refine Ev.callV1 (mc1 := 0) (ms1 := 0) (v := vi r17) (h1 := hq D x) vX8_209 (c_X8_is Θ D z _ _ _ _ _ _ hv16) rfl rfl (by decide) rfl ⟨by decide, by decide, Nat.le_of_eq (Nat.zero_add _), Nat.le_of_eq (Nat.zero_add _), Nat.le_of_ble_eq_true rfl⟩ ⟨dX8_isToAdd_13, rfl⟩ ?_
    clear hv16
    refine Ev.if_eq jX8_isToAdd_16 (fun hc => ?_) (fun hc => ?_)
    · replace h := (if_pos hc).symm.trans h; clear hc
      exact e_X8_isToAdd_47 Θ D z _ _ _ _ _ _ h
    · replace h := (if_neg hc).symm.trans h; clear hc
      refine Ev.aload_n (q := 0) ⟨dX8_isToAdd_19, rfl⟩ rfl rfl ?_
      refine Ev.getRk (C2 := 27) (r := 0) fX8_13 rfl (by decide) (by decide) ⟨dX8_isToAdd_20, rfl⟩ ?_
      refine Ev.sipush ⟨dX8_isToAdd_23, rfl⟩ (inRd rfl) (by decide) ?_
      refine Ev.iload_n (q := 2) ⟨dX8_isToAdd_26, rfl⟩ rfl rfl ?_
      obtain ⟨c18, h⟩ := ckR_s h
      refine Ev.iadd ⟨dX8_isToAdd_27, rfl⟩ c18 ?_
      obtain ⟨c19, h⟩ := ckI_s h
      refine Ev.iaload (by decide) c19.1 c19.2 ⟨dX8_isToAdd_28, rfl⟩ ?_
      refine Ev.if_ne jX8_isToAdd_29 (fun hc => ?_) (fun hc => ?_)
      · replace h := (if_neg hc).symm.trans h; clear hc
        exact e_X8_isToAdd_47 Θ D z _ _ _ _ _ _ h
      · replace h := (if_pos hc).symm.trans h; clear hc
        refine Ev.aload_n (q := 0) ⟨dX8_isToAdd_32, rfl⟩ rfl rfl ?_
        refine Ev.getRk (C2 := 27) (r := 0) fX8_13 rfl (by decide) (by decide) ⟨dX8_isToAdd_33, rfl⟩ ?_
        refine Ev.iconst ⟨dX8_isToAdd_36, rfl⟩ (inRd rfl) ?_
        obtain ⟨c20, h⟩ := ckI_s h
        refine Ev.iaload (by decide) c20.1 c20.2 ⟨dX8_isToAdd_37, rfl⟩ ?_
        refine Ev.bipush ⟨dX8_isToAdd_38, rfl⟩ (inRd rfl) (by decide) ?_
        refine Ev.icmp_ge jX8_isToAdd_40 (fun hc => ?_) (fun hc => ?_)
        · replace h := (if_pos hc).symm.trans h; clear hc
          exact e_X8_isToAdd_47 Θ D z _ _ _ _ _ _ h
        · replace h := (if_neg hc).symm.trans h; clear hc
          refine Ev.iconst ⟨dX8_isToAdd_43, rfl⟩ (inRd rfl) ?_
          refine Ev.goto jX8_isToAdd_44 ?_
          exact e_X8_isToAdd_48 Θ D z _ _ _ _ _ _ _ h

def F_X8_addNode_131 (z : Nat) (v0 : Nat) (v1 : Int) (v5 : Int) (u0 : Int) (u1 : Int) (u2 : Nat) (x : Mm) : Option (Int × Mm) := ckI u1 5366 <| (some (wI x 27 u2 (u1).toNat (u0))).bind fun x29 => ckR (((191 : Int) + v5)) <| ckI ((191 : Int) + v5) 5366 <| (some (wI x29 27 0 (((191 : Int) + v5)).toNat ((0 : Int)))).bind fun x32 => (F_X8_partOf z (v1) ((60 : Int)) (v5) x32).bind fun r34 => ckI r34 5366 <| (some (wI x32 27 0 (r34).toNat ((1 : Int)))).bind fun x36 => (F_X8_partOf z (v1) ((120 : Int)) (v5) x36).bind fun r38 => ckI r38 5366 <| (some (wI x36 27 0 (r38).toNat ((1 : Int)))).bind fun x40 => some ((v5, x40))
set_option maxHeartbeats 4000000 in
set_option maxRecDepth 20000 in
theorem e_X8_addNode_131 (Θ : GC) (D : Nat → Nat → Prop) (z : Nat) (v0 : Nat) (v1 : Int) (v5 : Int) (u0 : Int) (u1 : Int) (u2 : Nat) (x : Mm) (y) (h : F_X8_addNode_131 z v0 v1 v5 u0 u1 u2 x = some y) : Ev Θ mX8_addNode 3 70 0 0 131 [(0, vr 8 (v0 + 1)), (1, vi (v1)), (5, vi (v5))] [vi (u0), vi (u1), vr 27 (u2 + 1)] (hq D x) (Ret (vi y.1) (hq D y.2)) := by
  unfold F_X8_addNode_131 at h
  obtain ⟨c28, h⟩ := ckI_s h
  obtain ⟨x29, ex, h⟩ := bnd_s h
  refine Ev.iastore (by decide) c28.1 c28.2 ⟨dX8_addNode_131, rfl⟩ ?_
  refine Ev.cast ?_ rfl rfl (hqI ex)
  clear ex
  refine Ev.aload_n (q := 0) ⟨dX8_addNode_132, rfl⟩ rfl rfl ?_
  refine Ev.getRk (C2 := 27) (r := 0) fX8_13 rfl (by decide) (by decide) ⟨dX8_addNode_133, rfl⟩ ?_
  refine Ev.sipush ⟨dX8_addNode_136, rfl⟩ (inRd rfl) (by decide) ?_
  refine Ev.iload (q := 2) ⟨dX8_addNode_139, rfl⟩ rfl ?_
  obtain ⟨c30, h⟩ := ckR_s h
  refine Ev.iadd ⟨dX8_addNode_141, rfl⟩ c30 ?_
  refine Ev.iconst ⟨dX8_addNode_142, rfl⟩ (inRd rfl) ?_
  obtain ⟨c31, h⟩ := ckI_s h
  obtain ⟨x32, ex, h⟩ := bnd_s h
  refine Ev.iastore (by decide) c31.1 c31.2 ⟨dX8_addNode_143, rfl⟩ ?_
  refine Ev.cast ?_ rfl rfl (hqI ex)
  clear ex
  refine Ev.aload_n (q := 0) ⟨dX8_addNode_144, rfl⟩ rfl rfl ?_
  refine Ev.getRk (C2 := 27) (r := 0) fX8_13 rfl (by decide) (by decide) ⟨dX8_addNode_145, rfl⟩ ?_
  refine Ev.iload_n (q := 1) ⟨dX8_addNode_148, rfl⟩ rfl rfl ?_
  refine Ev.bipush ⟨dX8_addNode_149, rfl⟩ (inRd rfl) (by decide) ?_
  refine Ev.iload (q := 2) ⟨dX8_addNode_151, rfl⟩ rfl ?_
  obtain ⟨r34, hv33, h⟩ := bnd_s h
  refine Ev.callS1 (mc1 := 0) (ms1 := 0) (v := vi r34) (h1 := hq D x32) sX8_173 (c_X8_partOf Θ D z _ _ _ _ _ hv33) rfl rfl ⟨by decide, by decide, Nat.le_of_eq (Nat.zero_add _), Nat.le_of_eq (Nat.zero_add _), Nat.le_of_ble_eq_true rfl⟩ ⟨dX8_addNode_153, rfl⟩ ?_
  clear hv33
  refine Ev.iconst ⟨dX8_addNode_156, rfl⟩ (inRd rfl) ?_
  obtain ⟨c35, h⟩ := ckI_s h
  obtain ⟨x36, ex, h⟩ := bnd_s h
  refine Ev.iastore (by decide) c35.1 c35.2 ⟨dX8_addNode_157, rfl⟩ ?_
  refine Ev.cast ?_ rfl rfl (hqI ex)
  clear ex
  refine Ev.aload_n (q := 0) ⟨dX8_addNode_158, rfl⟩ rfl rfl ?_
  refine Ev.getRk (C2 := 27) (r := 0) fX8_13 rfl (by decide) (by decide) ⟨dX8_addNode_159, rfl⟩ ?_
  refine Ev.iload_n (q := 1) ⟨dX8_addNode_162, rfl⟩ rfl rfl ?_
  refine Ev.bipush ⟨dX8_addNode_163, rfl⟩ (inRd rfl) (by decide) ?_
  refine Ev.iload (q := 2) ⟨dX8_addNode_165, rfl⟩ rfl ?_
  obtain ⟨r38, hv37, h⟩ := bnd_s h
  refine Ev.callS1 (mc1 := 0) (ms1 := 0) (v := vi r38) (h1 := hq D x36) sX8_173 (c_X8_partOf Θ D z _ _ _ _ _ hv37) rfl rfl ⟨by decide, by decide, Nat.le_of_eq (Nat.zero_add _), Nat.le_of_eq (Nat.zero_add _), Nat.le_of_ble_eq_true rfl⟩ ⟨dX8_addNode_167, rfl⟩ ?_
  clear hv37
  refine Ev.iconst ⟨dX8_addNode_170, rfl⟩ (inRd rfl) ?_
  obtain ⟨c39, h⟩ := ckI_s h
  obtain ⟨x40, ex, h⟩ := bnd_s h
  refine Ev.iastore (by decide) c39.1 c39.2 ⟨dX8_addNode_171, rfl⟩ ?_
  refine Ev.cast ?_ rfl rfl (hqI ex)
  clear ex
  refine Ev.iload (q := 2) ⟨dX8_addNode_172, rfl⟩ rfl ?_
  obtain rfl := Option.some.inj h
  exact Ev.ireturn (ty := .int) ⟨dX8_addNode_174, rfl⟩ rfl rfl ⟨rfl, rfl⟩

def F_X8_addNode_27 (z : Nat) (v0 : Nat) (v1 : Int) (v2 : Int) (v3 : Int) (v4 : Int) (u0 : Int) (u1 : Nat) (x : Mm) : Option (Int × Mm) := (F_X8_fails z (u1) (u0) ((1 : Int)) x).bind fun r5 => if r5.1 = 0 then ((F_X8_in z (v3) ((0 : Int)) ((999 : Int)) r5.2).bind fun r7 => (F_X8_fails z (v0) (r7) ((2 : Int)) r5.2).bind fun r9 => if r9.1 = 0 then ((F_X8_isToAdd z (v0) (v1) (v2) (v3) r9.2).bind fun r11 => (F_X8_fails z (v0) (r11) ((3 : Int)) r9.2).bind fun r13 => if r13.1 = 0 then ((F_X8_record z (v0) r13.2).bind fun r15 => ckI (3 : Int) 5366 <| ckI (3 : Int) 5366 <| ckR (((r15.1 27 0 ((3 : Int)).toNat) + (1 : Int))) <| ckI (3 : Int) 5366 <| (some (wI r15 27 0 ((3 : Int)).toNat (((r15.1 27 0 ((3 : Int)).toNat) + (1 : Int))))).bind fun x20 => ckR (((11 : Int) + (r15.1 27 0 ((3 : Int)).toNat))) <| ckI ((11 : Int) + (r15.1 27 0 ((3 : Int)).toNat)) 5366 <| (some (wI x20 27 0 (((11 : Int) + (r15.1 27 0 ((3 : Int)).toNat))).toNat (v2))).bind fun x23 => ckR (((71 : Int) + (r15.1 27 0 ((3 : Int)).toNat))) <| ckI ((71 : Int) + (r15.1 27 0 ((3 : Int)).toNat)) 5366 <| (some (wI x23 27 0 (((71 : Int) + (r15.1 27 0 ((3 : Int)).toNat))).toNat (v3))).bind fun x26 => ckR (((131 : Int) + (r15.1 27 0 ((3 : Int)).toNat))) <| if v4 = 0 then (F_X8_addNode_131 z (v0) (v1) ((r15.1 27 0 ((3 : Int)).toNat)) ((0 : Int)) (((131 : Int) + (r15.1 27 0 ((3 : Int)).toNat))) (0) x26) else (F_X8_addNode_131 z (v0) (v1) ((r15.1 27 0 ((3 : Int)).toNat)) ((1 : Int)) (((131 : Int) + (r15.1 27 0 ((3 : Int)).toNat))) (0) x26)) else (some (((0 : Int), r13.2)))) else (some (((0 : Int), r9.2)))) else (some (((0 : Int), r5.2)))
set_option maxHeartbeats 4000000 in
set_option maxRecDepth 20000 in
theorem e_X8_addNode_27 (Θ : GC) (D : Nat → Nat → Prop) (z : Nat) (v0 : Nat) (v1 : Int) (v2 : Int) (v3 : Int) (v4 : Int) (u0 : Int) (u1 : Nat) (x : Mm) (y) (h : F_X8_addNode_27 z v0 v1 v2 v3 v4 u0 u1 x = some y) : Ev Θ mX8_addNode 3 70 0 0 27 [(0, vr 8 (v0 + 1)), (1, vi (v1)), (2, vi (v2)), (3, vi (v3)), (4, vi (v4))] [vi (u0), vr 8 (u1 + 1)] (hq D x) (Ret (vi y.1) (hq D y.2)) := by
  unfold F_X8_addNode_27 at h
  refine Ev.iconst ⟨dX8_addNode_27, rfl⟩ (inRd rfl) ?_
  obtain ⟨r5, hv4, h⟩ := bnd_s h
  refine Ev.callV1 (mc1 := 0) (ms1 := 0) (v := vi r5.1) (h1 := hq D r5.2) vX8_49 (c_X8_fails Θ D z _ _ _ _ _ hv4) rfl rfl (by decide) rfl ⟨by decide, by decide, Nat.le_of_eq (Nat.zero_add _), Nat.le_of_eq (Nat.zero_add _), Nat.le_of_ble_eq_true rfl⟩ ⟨dX8_addNode_28, rfl⟩ ?_
  clear hv4
  refine Ev.if_ne jX8_addNode_31 (fun hc => ?_) (fun hc => ?_)
  · replace h := (if_neg hc).symm.trans h; clear hc
    refine Ev.iconst ⟨dX8_addNode_65, rfl⟩ (inRd rfl) ?_
    obtain rfl := Option.some.inj h
    exact Ev.ireturn (ty := .int) ⟨dX8_addNode_66, rfl⟩ rfl rfl ⟨rfl, rfl⟩
  · replace h := (if_pos hc).symm.trans h; clear hc
    refine Ev.aload_n (q := 0) ⟨dX8_addNode_34, rfl⟩ rfl rfl ?_
    refine Ev.iload_n (q := 3) ⟨dX8_addNode_35, rfl⟩ rfl rfl ?_
    refine Ev.iconst ⟨dX8_addNode_36, rfl⟩ (inRd rfl) ?_
    refine Ev.sipush ⟨dX8_addNode_37, rfl⟩ (inRd rfl) (by decide) ?_
    obtain ⟨r7, hv6, h⟩ := bnd_s h
    refine Ev.callS1 (mc1 := 0) (ms1 := 0) (v := vi r7) (h1 := hq D r5.2) sX8_53 (c_X8_in Θ D z _ _ _ _ _ hv6) rfl rfl ⟨by decide, by decide, Nat.le_of_eq (Nat.zero_add _), Nat.le_of_eq (Nat.zero_add _), Nat.le_of_ble_eq_true rfl⟩ ⟨dX8_addNode_40, rfl⟩ ?_
    clear hv6
    refine Ev.iconst ⟨dX8_addNode_43, rfl⟩ (inRd rfl) ?_
    obtain ⟨r9, hv8, h⟩ := bnd_s h
    refine Ev.callV1 (mc1 := 0) (ms1 := 0) (v := vi r9.1) (h1 := hq D r9.2) vX8_49 (c_X8_fails Θ D z _ _ _ _ _ hv8) rfl rfl (by decide) rfl ⟨by decide, by decide, Nat.le_of_eq (Nat.zero_add _), Nat.le_of_eq (Nat.zero_add _), Nat.le_of_ble_eq_true rfl⟩ ⟨dX8_addNode_44, rfl⟩ ?_
    clear hv8
    refine Ev.if_ne jX8_addNode_47 (fun hc => ?_) (fun hc => ?_)
    · replace h := (if_neg hc).symm.trans h; clear hc
      refine Ev.iconst ⟨dX8_addNode_65, rfl⟩ (inRd rfl) ?_
      obtain rfl := Option.some.inj h
      exact Ev.ireturn (ty := .int) ⟨dX8_addNode_66, rfl⟩ rfl rfl ⟨rfl, rfl⟩
    · replace h := (if_pos hc).symm.trans h; clear hc
      refine Ev.aload_n (q := 0) ⟨dX8_addNode_50, rfl⟩ rfl rfl ?_
      refine Ev.aload_n (q := 0) ⟨dX8_addNode_51, rfl⟩ rfl rfl ?_
      refine Ev.iload_n (q := 1) ⟨dX8_addNode_52, rfl⟩ rfl rfl ?_
      refine Ev.iload_n (q := 2) ⟨dX8_addNode_53, rfl⟩ rfl rfl ?_
      refine Ev.iload_n (q := 3) ⟨dX8_addNode_54, rfl⟩ rfl rfl ?_
      obtain ⟨r11, hv10, h⟩ := bnd_s h
      refine Ev.callV1 (mc1 := 0) (ms1 := 0) (v := vi r11) (h1 := hq D r9.2) vX8_215 (c_X8_isToAdd Θ D z _ _ _ _ _ _ hv10) rfl rfl (by decide) rfl ⟨by decide, by decide, Nat.le_of_eq (Nat.zero_add _), Nat.le_of_eq (Nat.zero_add _), Nat.le_of_ble_eq_true rfl⟩ ⟨dX8_addNode_55, rfl⟩ ?_
      clear hv10
      refine Ev.iconst ⟨dX8_addNode_58, rfl⟩ (inRd rfl) ?_
      obtain ⟨r13, hv12, h⟩ := bnd_s h
      refine Ev.callV1 (mc1 := 0) (ms1 := 0) (v := vi r13.1) (h1 := hq D r13.2) vX8_49 (c_X8_fails Θ D z _ _ _ _ _ hv12) rfl rfl (by decide) rfl ⟨by decide, by decide, Nat.le_of_eq (Nat.zero_add _), Nat.le_of_eq (Nat.zero_add _), Nat.le_of_ble_eq_true rfl⟩ ⟨dX8_addNode_59, rfl⟩ ?_
      clear hv12
      refine Ev.if_eq jX8_addNode_62 (fun hc => ?_) (fun hc => ?_)
      · replace h := (if_pos hc).symm.trans h; clear hc
        refine Ev.aload_n (q := 0) ⟨dX8_addNode_67, rfl⟩ rfl rfl ?_
        obtain ⟨r15, hv14, h⟩ := bnd_s h
        refine Ev.callVN (mc1 := 0) (ms1 := 0) (h1 := hq D r15) vX8_201 (c_X8_record Θ D z _ _ _ hv14) rfl rfl (by decide) rfl ⟨by decide, by decide, Nat.le_of_eq (Nat.zero_add _), Nat.le_of_eq (Nat.zero_add _), Nat.le_of_ble_eq_true rfl⟩ ⟨dX8_addNode_68, rfl⟩ ?_
        clear hv14
        refine Ev.aload_n (q := 0) ⟨dX8_addNode_71, rfl⟩ rfl rfl ?_
        refine Ev.getRk (C2 := 27) (r := 0) fX8_13 rfl (by decide) (by decide) ⟨dX8_addNode_72, rfl⟩ ?_
        refine Ev.iconst ⟨dX8_addNode_75, rfl⟩ (inRd rfl) ?_
        obtain ⟨c16, h⟩ := ckI_s h
        refine Ev.iaload (by decide) c16.1 c16.2 ⟨dX8_addNode_76, rfl⟩ ?_
        refine Ev.istore (i := 5) (ls' := [(0, _), (1, _), (2, _), (3, _), (4, _), (5, _)]) ⟨dX8_addNode_77, rfl⟩ (by decide) rfl ?_
        refine Ev.aload_n (q := 0) ⟨dX8_addNode_79, rfl⟩ rfl rfl ?_
        refine Ev.getRk (C2 := 27) (r := 0) fX8_13 rfl (by decide) (by decide) ⟨dX8_addNode_80, rfl⟩ ?_
        refine Ev.iconst ⟨dX8_addNode_83, rfl⟩ (inRd rfl) ?_
        refine Ev.dup2 ⟨dX8_addNode_84, rfl⟩ rfl rfl ?_
        obtain ⟨c17, h⟩ := ckI_s h
        refine Ev.iaload (by decide) c17.1 c17.2 ⟨dX8_addNode_85, rfl⟩ ?_
        refine Ev.iconst ⟨dX8_addNode_86, rfl⟩ (inRd rfl) ?_
        obtain ⟨c18, h⟩ := ckR_s h
        refine Ev.iadd ⟨dX8_addNode_87, rfl⟩ c18 ?_
        obtain ⟨c19, h⟩ := ckI_s h
        obtain ⟨x20, ex, h⟩ := bnd_s h
        refine Ev.iastore (by decide) c19.1 c19.2 ⟨dX8_addNode_88, rfl⟩ ?_
        refine Ev.cast ?_ rfl rfl (hqI ex)
        clear ex
        refine Ev.aload_n (q := 0) ⟨dX8_addNode_89, rfl⟩ rfl rfl ?_
        refine Ev.getRk (C2 := 27) (r := 0) fX8_13 rfl (by decide) (by decide) ⟨dX8_addNode_90, rfl⟩ ?_
        refine Ev.bipush ⟨dX8_addNode_93, rfl⟩ (inRd rfl) (by decide) ?_
        refine Ev.iload (q := 5) ⟨dX8_addNode_95, rfl⟩ rfl ?_
        obtain ⟨c21, h⟩ := ckR_s h
        refine Ev.iadd ⟨dX8_addNode_97, rfl⟩ c21 ?_
        refine Ev.iload_n (q := 2) ⟨dX8_addNode_98, rfl⟩ rfl rfl ?_
        obtain ⟨c22, h⟩ := ckI_s h
        obtain ⟨x23, ex, h⟩ := bnd_s h
        refine Ev.iastore (by decide) c22.1 c22.2 ⟨dX8_addNode_99, rfl⟩ ?_
        refine Ev.cast ?_ rfl rfl (hqI ex)
        clear ex
        refine Ev.aload_n (q := 0) ⟨dX8_addNode_100, rfl⟩ rfl rfl ?_
        refine Ev.getRk (C2 := 27) (r := 0) fX8_13 rfl (by decide) (by decide) ⟨dX8_addNode_101, rfl⟩ ?_
        refine Ev.bipush ⟨dX8_addNode_104, rfl⟩ (inRd rfl) (by decide) ?_
        refine Ev.iload (q := 5) ⟨dX8_addNode_106, rfl⟩ rfl ?_
        obtain ⟨c24, h⟩ := ckR_s h
        refine Ev.iadd ⟨dX8_addNode_108, rfl⟩ c24 ?_
        refine Ev.iload_n (q := 3) ⟨dX8_addNode_109, rfl⟩ rfl rfl ?_
        obtain ⟨c25, h⟩ := ckI_s h
        obtain ⟨x26, ex, h⟩ := bnd_s h
        refine Ev.iastore (by decide) c25.1 c25.2 ⟨dX8_addNode_110, rfl⟩ ?_
        refine Ev.cast ?_ rfl rfl (hqI ex)
        clear ex
        refine Ev.aload_n (q := 0) ⟨dX8_addNode_111, rfl⟩ rfl rfl ?_
        refine Ev.getRk (C2 := 27) (r := 0) fX8_13 rfl (by decide) (by decide) ⟨dX8_addNode_112, rfl⟩ ?_
        refine Ev.sipush ⟨dX8_addNode_115, rfl⟩ (inRd rfl) (by decide) ?_
        refine Ev.iload (q := 5) ⟨dX8_addNode_118, rfl⟩ rfl ?_
        obtain ⟨c27, h⟩ := ckR_s h
        refine Ev.iadd ⟨dX8_addNode_120, rfl⟩ c27 ?_
        refine Ev.iload (q := 4) ⟨dX8_addNode_121, rfl⟩ rfl ?_
        refine Ev.if_eq jX8_addNode_123 (fun hc => ?_) (fun hc => ?_)
        · replace h := (if_pos hc).symm.trans h; clear hc
          refine Ev.iconst ⟨dX8_addNode_130, rfl⟩ (inRd rfl) ?_
          refine Ev.keep [0, 1, 5] rfl ?_
          exact e_X8_addNode_131 Θ D z _ _ _ _ _ _ _ _ h
        · replace h := (if_neg hc).symm.trans h; clear hc
          refine Ev.iconst ⟨dX8_addNode_126, rfl⟩ (inRd rfl) ?_
          refine Ev.goto jX8_addNode_127 ?_
          refine Ev.keep [0, 1, 5] rfl ?_
          exact e_X8_addNode_131 Θ D z _ _ _ _ _ _ _ _ h
      · replace h := (if_neg hc).symm.trans h; clear hc
        refine Ev.iconst ⟨dX8_addNode_65, rfl⟩ (inRd rfl) ?_
        obtain rfl := Option.some.inj h
        exact Ev.ireturn (ty := .int) ⟨dX8_addNode_66, rfl⟩ rfl rfl ⟨rfl, rfl⟩

def F_X8_addNode_26 (z : Nat) (v0 : Nat) (v1 : Int) (v2 : Int) (v3 : Int) (v4 : Int) (u0 : Nat) (x : Mm) : Option (Int × Mm) := F_X8_addNode_27 z (v0) (v1) (v2) (v3) (v4) ((0 : Int)) (u0) x
set_option maxHeartbeats 4000000 in
set_option maxRecDepth 20000 in
theorem e_X8_addNode_26 (Θ : GC) (D : Nat → Nat → Prop) (z : Nat) (v0 : Nat) (v1 : Int) (v2 : Int) (v3 : Int) (v4 : Int) (u0 : Nat) (x : Mm) (y) (h : F_X8_addNode_26 z v0 v1 v2 v3 v4 u0 x = some y) : Ev Θ mX8_addNode 3 70 0 0 26 [(0, vr 8 (v0 + 1)), (1, vi (v1)), (2, vi (v2)), (3, vi (v3)), (4, vi (v4))] [vr 8 (u0 + 1)] (hq D x) (Ret (vi y.1) (hq D y.2)) := by
  unfold F_X8_addNode_26 at h
  refine Ev.iconst ⟨dX8_addNode_26, rfl⟩ (inRd rfl) ?_
  exact e_X8_addNode_27 Θ D z _ _ _ _ _ _ _ _ _ h
def F_X8_addNode (z : Nat) (v0 : Nat) (v1 : Int) (v2 : Int) (v3 : Int) (v4 : Int) (x : Mm) : Option (Int × Mm) := (some (wI x 8 v0 0 ((0 : Int)))).bind fun x1 => (F_X8_isClient z (v0) (v1) x1).bind fun r3 => if r3 = 0 then (F_X8_addNode_26 z (v0) (v1) (v2) (v3) (v4) (v0) x1) else ((F_X8_isNode z (v0) (v2) x1).bind fun r42 => if r42 = 0 then (F_X8_addNode_26 z (v0) (v1) (v2) (v3) (v4) (v0) x1) else (F_X8_addNode_27 z (v0) (v1) (v2) (v3) (v4) ((1 : Int)) (v0) x1))
set_option maxHeartbeats 4000000 in
set_option maxRecDepth 20000 in
theorem c_X8_addNode (Θ : GC) (D : Nat → Nat → Prop) (z : Nat) (v0 : Nat) (v1 : Int) (v2 : Int) (v3 : Int) (v4 : Int) (x : Mm) (y) (h : F_X8_addNode z v0 v1 v2 v3 v4 x = some y) : Cal Θ mX8_addNode 3 70 0 0 [vr 8 (v0 + 1), vi (v1), vi (v2), vi (v3), vi (v4)] (hq D x) (Ret (vi y.1) (hq D y.2)) := by
  refine Cal.of (by decide +kernel) rfl rfl (Nat.le_of_ble_eq_true rfl) ?_
  show Ev Θ mX8_addNode 3 70 0 0 0 [(0, vr 8 (v0 + 1)), (1, vi (v1)), (2, vi (v2)), (3, vi (v3)), (4, vi (v4))] [] (hq D x) (Ret (vi y.1) (hq D y.2))
  unfold F_X8_addNode at h
  refine Ev.aload_n (q := 0) ⟨dX8_addNode_0, rfl⟩ rfl rfl ?_
  refine Ev.iconst ⟨dX8_addNode_1, rfl⟩ (inRd rfl) ?_
  obtain ⟨x1, ex, h⟩ := bnd_s h
  refine Ev.putI fX8_38 ⟨dX8_addNode_2, rfl⟩ ?_
  refine Ev.cast ?_ rfl rfl (hqI ex)
  clear ex
  refine Ev.aload_n (q := 0) ⟨dX8_addNode_5, rfl⟩ rfl rfl ?_
  refine Ev.aload_n (q := 0) ⟨dX8_addNode_6, rfl⟩ rfl rfl ?_
  refine Ev.iload_n (q := 1) ⟨dX8_addNode_7, rfl⟩ rfl rfl ?_
  obtain ⟨r3, hv2, h⟩ := bnd_s h
  refine Ev.callV1 (mc1 := 0) (ms1 := 0) (v := vi r3) (h1 := hq D x1) vX8_188 (c_X8_isClient Θ D z _ _ _ _ hv2) rfl rfl (by decide) rfl ⟨by decide, by decide, Nat.le_of_eq (Nat.zero_add _), Nat.le_of_eq (Nat.zero_add _), Nat.le_of_ble_eq_true rfl⟩ ⟨dX8_addNode_8, rfl⟩ ?_
  clear hv2
  refine Ev.if_eq jX8_addNode_11 (fun hc => ?_) (fun hc => ?_)
  · replace h := (if_pos hc).symm.trans h; clear hc
    exact e_X8_addNode_26 Θ D z _ _ _ _ _ _ _ _ h
  · replace h := (if_neg hc).symm.trans h; clear hc
    refine Ev.aload_n (q := 0) ⟨dX8_addNode_14, rfl⟩ rfl rfl ?_
    refine Ev.iload_n (q := 2) ⟨dX8_addNode_15, rfl⟩ rfl rfl ?_
    obtain ⟨r42, hv41, h⟩ := bnd_s h
    refine Ev.callV1 (mc1 := 0) (ms1 := 0) (v := vi r42) (h1 := hq D x1) vX8_191 (c_X8_isNode Θ D z _ _ _ _ hv41) rfl rfl (by decide) rfl ⟨by decide, by decide, Nat.le_of_eq (Nat.zero_add _), Nat.le_of_eq (Nat.zero_add _), Nat.le_of_ble_eq_true rfl⟩ ⟨dX8_addNode_16, rfl⟩ ?_
    clear hv41
    refine Ev.if_eq jX8_addNode_19 (fun hc => ?_) (fun hc => ?_)
    · replace h := (if_pos hc).symm.trans h; clear hc
      exact e_X8_addNode_26 Θ D z _ _ _ _ _ _ _ _ h
    · replace h := (if_neg hc).symm.trans h; clear hc
      refine Ev.iconst ⟨dX8_addNode_22, rfl⟩ (inRd rfl) ?_
      refine Ev.goto jX8_addNode_23 ?_
      exact e_X8_addNode_27 Θ D z _ _ _ _ _ _ _ _ _ h

def F_X8_removeNode_93 (z : Nat) (v0 : Nat) (v1 : Int) (v2 : Int) : Nat → Int → Int → Mm → Option (Int × Mm)
  | 0, _, _, _ => none
  | k + 1, v3, v4, x => ckI (3 : Int) 5366 <| if (x.1 27 0 ((3 : Int)).toNat) ≤ v4 then (some ((v3, x))) else ((F_X8_is z (v0) (v1) ((60 : Int)) (v4) x).bind fun r14 => if r14 = 0 then (ckR ((v4 + 1)) <| F_X8_removeNode_93 z v0 v1 v2 k (v3) ((v4 + 1)) x) else ((F_X8_isWithin z (v0) (v4) (v2) x).bind fun r17 => if r17 = 0 then (ckR ((v4 + 1)) <| F_X8_removeNode_93 z v0 v1 v2 k (v3) ((v4 + 1)) x) else ((F_X8_partOf z (v1) ((60 : Int)) (v4) x).bind fun r20 => ckI r20 5366 <| (some (wI x 27 0 (r20).toNat ((0 : Int)))).bind fun x22 => ckR ((v3 + 1)) <| ckR ((v4 + 1)) <| F_X8_removeNode_93 z v0 v1 v2 k ((v3 + 1)) ((v4 + 1)) x22)))
set_option maxHeartbeats 4000000 in
set_option maxRecDepth 20000 in
theorem e_X8_removeNode_93 (Θ : GC) (D : Nat → Nat → Prop) (z : Nat) (v0 : Nat) (v1 : Int) (v2 : Int) (Q : Ro → Hp → Prop) (mc ms : Nat) : ∀ (k : Nat) (v3 : Int) (v4 : Int) (x : Mm) (y), F_X8_removeNode_93 z v0 v1 v2 k v3 v4 x = some y → (Ev Θ mX8_removeNode 2 45 mc ms 149 [(0, vr 8 (v0 + 1)), (1, vi (v1)), (2, vi (v2)), (3, vi (y.1))] [] (hq D y.2) Q) → Ev Θ mX8_removeNode 2 45 mc ms 93 [(0, vr 8 (v0 + 1)), (1, vi (v1)), (2, vi (v2)), (3, vi (v3)), (4, vi (v4))] [] (hq D x) Q := by
  intro k
  induction k with
  | zero => intro v3 v4 x y h; exact absurd h (by unfold F_X8_removeNode_93; exact nofun)
  | succ k ih =>
    intro v3 v4 x y h k1
    unfold F_X8_removeNode_93 at h
    refine Ev.iload (q := 4) ⟨dX8_removeNode_93, rfl⟩ rfl ?_
    refine Ev.aload_n (q := 0) ⟨dX8_removeNode_95, rfl⟩ rfl rfl ?_
    refine Ev.getRk (C2 := 27) (r := 0) fX8_13 rfl (by decide) (by decide) ⟨dX8_removeNode_96, rfl⟩ ?_
    refine Ev.iconst ⟨dX8_removeNode_99, rfl⟩ (inRd rfl) ?_
    obtain ⟨c12, h⟩ := ckI_s h
    refine Ev.iaload (by decide) c12.1 c12.2 ⟨dX8_removeNode_100, rfl⟩ ?_
    refine Ev.icmp_ge jX8_removeNode_101 (fun hc => ?_) (fun hc => ?_)
    · replace h := (if_pos hc).symm.trans h; clear hc
      refine Ev.keep [0, 1, 2, 3] rfl ?_
      obtain rfl := Option.some.inj h
      exact k1
    · replace h := (if_neg hc).symm.trans h; clear hc
      refine Ev.aload_n (q := 0) ⟨dX8_removeNode_104, rfl⟩ rfl rfl ?_
      refine Ev.iload_n (q := 1) ⟨dX8_removeNode_105, rfl⟩ rfl rfl ?_
      refine Ev.bipush ⟨dX8_removeNode_106, rfl⟩ (inRd rfl) (by decide) ?_
      refine Ev.iload (q := 4) ⟨dX8_removeNode_108, rfl⟩ rfl ?_
      obtain ⟨r14, hv13, h⟩ := bnd_s h
      refine Ev.callV1 (mc1 := mc) (ms1 := ms) (v := vi r14) (h1 := hq D x) vX8_209 (c_X8_is Θ D z _ _ _ _ _ _ hv13) rfl rfl (by decide) rfl ⟨by decide, by decide, Nat.le_of_eq (Nat.zero_add _), Nat.le_of_eq (Nat.zero_add _), Nat.le_of_ble_eq_true rfl⟩ ⟨dX8_removeNode_110, rfl⟩ ?_
      clear hv13
      refine Ev.if_eq jX8_removeNode_113 (fun hc => ?_) (fun hc => ?_)
      · replace h := (if_pos hc).symm.trans h; clear hc
        obtain ⟨c15, h⟩ := ckR_s h
        refine Ev.iinc (q := 4) (ls' := [(0, _), (1, _), (2, _), (3, _), (4, _)]) ⟨dX8_removeNode_143, rfl⟩ rfl (by decide) c15 rfl ?_
        refine Ev.goto jX8_removeNode_146 ?_
        exact ih _ _ _ _ h k1
      · replace h := (if_neg hc).symm.trans h; clear hc
        refine Ev.aload_n (q := 0) ⟨dX8_removeNode_116, rfl⟩ rfl rfl ?_
        refine Ev.iload (q := 4) ⟨dX8_removeNode_117, rfl⟩ rfl ?_
        refine Ev.iload_n (q := 2) ⟨dX8_removeNode_119, rfl⟩ rfl rfl ?_
        obtain ⟨r17, hv16, h⟩ := bnd_s h
        refine Ev.callV1 (mc1 := mc) (ms1 := ms) (v := vi r17) (h1 := hq D x) vX8_180 (c_X8_isWithin Θ D z _ _ _ _ _ hv16) rfl rfl (by decide) rfl ⟨by decide, by decide, Nat.le_of_eq (Nat.zero_add _), Nat.le_of_eq (Nat.zero_add _), Nat.le_of_ble_eq_true rfl⟩ ⟨dX8_removeNode_120, rfl⟩ ?_
        clear hv16
        refine Ev.if_eq jX8_removeNode_123 (fun hc => ?_) (fun hc => ?_)
        · replace h := (if_pos hc).symm.trans h; clear hc
          obtain ⟨c18, h⟩ := ckR_s h
          refine Ev.iinc (q := 4) (ls' := [(0, _), (1, _), (2, _), (3, _), (4, _)]) ⟨dX8_removeNode_143, rfl⟩ rfl (by decide) c18 rfl ?_
          refine Ev.goto jX8_removeNode_146 ?_
          exact ih _ _ _ _ h k1
        · replace h := (if_neg hc).symm.trans h; clear hc
          refine Ev.aload_n (q := 0) ⟨dX8_removeNode_126, rfl⟩ rfl rfl ?_
          refine Ev.getRk (C2 := 27) (r := 0) fX8_13 rfl (by decide) (by decide) ⟨dX8_removeNode_127, rfl⟩ ?_
          refine Ev.iload_n (q := 1) ⟨dX8_removeNode_130, rfl⟩ rfl rfl ?_
          refine Ev.bipush ⟨dX8_removeNode_131, rfl⟩ (inRd rfl) (by decide) ?_
          refine Ev.iload (q := 4) ⟨dX8_removeNode_133, rfl⟩ rfl ?_
          obtain ⟨r20, hv19, h⟩ := bnd_s h
          refine Ev.callS1 (mc1 := mc) (ms1 := ms) (v := vi r20) (h1 := hq D x) sX8_173 (c_X8_partOf Θ D z _ _ _ _ _ hv19) rfl rfl ⟨by decide, by decide, Nat.le_of_eq (Nat.zero_add _), Nat.le_of_eq (Nat.zero_add _), Nat.le_of_ble_eq_true rfl⟩ ⟨dX8_removeNode_135, rfl⟩ ?_
          clear hv19
          refine Ev.iconst ⟨dX8_removeNode_138, rfl⟩ (inRd rfl) ?_
          obtain ⟨c21, h⟩ := ckI_s h
          obtain ⟨x22, ex, h⟩ := bnd_s h
          refine Ev.iastore (by decide) c21.1 c21.2 ⟨dX8_removeNode_139, rfl⟩ ?_
          refine Ev.cast ?_ rfl rfl (hqI ex)
          clear ex
          obtain ⟨c23, h⟩ := ckR_s h
          refine Ev.iinc (q := 3) (ls' := [(0, _), (1, _), (2, _), (3, _), (4, _)]) ⟨dX8_removeNode_140, rfl⟩ rfl (by decide) c23 rfl ?_
          obtain ⟨c24, h⟩ := ckR_s h
          refine Ev.iinc (q := 4) (ls' := [(0, _), (1, _), (2, _), (3, _), (4, _)]) ⟨dX8_removeNode_143, rfl⟩ rfl (by decide) c24 rfl ?_
          refine Ev.goto jX8_removeNode_146 ?_
          exact ih _ _ _ _ h k1

def F_X8_removeNode_75 (z : Nat) (v0 : Nat) (v1 : Int) (v2 : Int) (u0 : Int) (u1 : Nat) (x : Mm) : Option (Int × Mm) := (F_X8_fails z (u1) (u0) ((2 : Int)) x).bind fun r9 => if r9.1 = 0 then ((F_X8_record z (v0) r9.2).bind fun r11 => (F_X8_removeNode_93 z (v0) (v1) (v2) z ((0 : Int)) (v2) r11).bind fun s25 => some ((s25.1, s25.2))) else (some (((0 : Int), r9.2)))
set_option maxHeartbeats 4000000 in
set_option maxRecDepth 20000 in
theorem e_X8_removeNode_75 (Θ : GC) (D : Nat → Nat → Prop) (z : Nat) (v0 : Nat) (v1 : Int) (v2 : Int) (u0 : Int) (u1 : Nat) (x : Mm) (y) (h : F_X8_removeNode_75 z v0 v1 v2 u0 u1 x = some y) : Ev Θ mX8_removeNode 2 45 0 0 75 [(0, vr 8 (v0 + 1)), (1, vi (v1)), (2, vi (v2))] [vi (u0), vr 8 (u1 + 1)] (hq D x) (Ret (vi y.1) (hq D y.2)) := by
  unfold F_X8_removeNode_75 at h
  refine Ev.iconst ⟨dX8_removeNode_75, rfl⟩ (inRd rfl) ?_
  obtain ⟨r9, hv8, h⟩ := bnd_s h
  refine Ev.callV1 (mc1 := 0) (ms1 := 0) (v := vi r9.1) (h1 := hq D r9.2) vX8_49 (c_X8_fails Θ D z _ _ _ _ _ hv8) rfl rfl (by decide) rfl ⟨by decide, by decide, Nat.le_of_eq (Nat.zero_add _), Nat.le_of_eq (Nat.zero_add _), Nat.le_of_ble_eq_true rfl⟩ ⟨dX8_removeNode_76, rfl⟩ ?_
  clear hv8
  refine Ev.if_eq jX8_removeNode_79 (fun hc => ?_) (fun hc => ?_)
  · replace h := (if_pos hc).symm.trans h; clear hc
    refine Ev.aload_n (q := 0) ⟨dX8_removeNode_84, rfl⟩ rfl rfl ?_
    obtain ⟨r11, hv10, h⟩ := bnd_s h
    refine Ev.callVN (mc1 := 0) (ms1 := 0) (h1 := hq D r11) vX8_201 (c_X8_record Θ D z _ _ _ hv10) rfl rfl (by decide) rfl ⟨by decide, by decide, Nat.le_of_eq (Nat.zero_add _), Nat.le_of_eq (Nat.zero_add _), Nat.le_of_ble_eq_true rfl⟩ ⟨dX8_removeNode_85, rfl⟩ ?_
    clear hv10
    refine Ev.iconst ⟨dX8_removeNode_88, rfl⟩ (inRd rfl) ?_
    refine Ev.istore_n (i := 3) (ls' := [(0, _), (1, _), (2, _), (3, _)]) ⟨dX8_removeNode_89, rfl⟩ rfl (by decide) rfl ?_
    refine Ev.iload_n (q := 2) ⟨dX8_removeNode_90, rfl⟩ rfl rfl ?_
    refine Ev.istore (i := 4) (ls' := [(0, _), (1, _), (2, _), (3, _), (4, _)]) ⟨dX8_removeNode_91, rfl⟩ (by decide) rfl ?_
    obtain ⟨s25, hl, h⟩ := bnd_s h
    refine e_X8_removeNode_93 Θ D z _ _ _ _ _ _ _ _ _ _ _ hl ?_
    clear hl
    refine Ev.iload_n (q := 3) ⟨dX8_removeNode_149, rfl⟩ rfl rfl ?_
    obtain rfl := Option.some.inj h
    exact Ev.ireturn (ty := .int) ⟨dX8_removeNode_150, rfl⟩ rfl rfl ⟨rfl, rfl⟩
  · replace h := (if_neg hc).symm.trans h; clear hc
    refine Ev.iconst ⟨dX8_removeNode_82, rfl⟩ (inRd rfl) ?_
    obtain rfl := Option.some.inj h
    exact Ev.ireturn (ty := .int) ⟨dX8_removeNode_83, rfl⟩ rfl rfl ⟨rfl, rfl⟩

def F_X8_removeNode_74 (z : Nat) (v0 : Nat) (v1 : Int) (v2 : Int) (u0 : Nat) (x : Mm) : Option (Int × Mm) := F_X8_removeNode_75 z (v0) (v1) (v2) ((0 : Int)) (u0) x
set_option maxHeartbeats 4000000 in
set_option maxRecDepth 20000 in
theorem e_X8_removeNode_74 (Θ : GC) (D : Nat → Nat → Prop) (z : Nat) (v0 : Nat) (v1 : Int) (v2 : Int) (u0 : Nat) (x : Mm) (y) (h : F_X8_removeNode_74 z v0 v1 v2 u0 x = some y) : Ev Θ mX8_removeNode 2 45 0 0 74 [(0, vr 8 (v0 + 1)), (1, vi (v1)), (2, vi (v2))] [vr 8 (u0 + 1)] (hq D x) (Ret (vi y.1) (hq D y.2)) := by
  unfold F_X8_removeNode_74 at h
  refine Ev.iconst ⟨dX8_removeNode_74, rfl⟩ (inRd rfl) ?_
  exact e_X8_removeNode_75 Θ D z _ _ _ _ _ _ _ h

def F_X8_removeNode_27 (z : Nat) (v0 : Nat) (v1 : Int) (v2 : Int) (u0 : Int) (u1 : Nat) (x : Mm) : Option (Int × Mm) := (F_X8_fails z (u1) (u0) ((1 : Int)) x).bind fun r5 => if r5.1 = 0 then ((F_X8_hasLease z (v0) (v1) r5.2).bind fun r7 => if r7 = 0 then (F_X8_removeNode_74 z (v0) (v1) (v2) (v0) r5.2) else ((F_X8_is z (v0) (v1) ((60 : Int)) (v2) r5.2).bind fun r27 => if r27 = 0 then (F_X8_removeNode_74 z (v0) (v1) (v2) (v0) r5.2) else (ckR (((3 : Int) * v1)) <| ckR (((611 : Int) + ((3 : Int) * v1))) <| ckI ((611 : Int) + ((3 : Int) * v1)) 5366 <| if (r5.2.1 27 0 (((611 : Int) + ((3 : Int) * v1))).toNat) = v2 then (F_X8_removeNode_74 z (v0) (v1) (v2) (v0) r5.2) else (F_X8_removeNode_75 z (v0) (v1) (v2) ((1 : Int)) (v0) r5.2)))) else (some (((0 : Int), r5.2)))
set_option maxHeartbeats 4000000 in
set_option maxRecDepth 20000 in
theorem e_X8_removeNode_27 (Θ : GC) (D : Nat → Nat → Prop) (z : Nat) (v0 : Nat) (v1 : Int) (v2 : Int) (u0 : Int) (u1 : Nat) (x : Mm) (y) (h : F_X8_removeNode_27 z v0 v1 v2 u0 u1 x = some y) : Ev Θ mX8_removeNode 2 45 0 0 27 [(0, vr 8 (v0 + 1)), (1, vi (v1)), (2, vi (v2))] [vi (u0), vr 8 (u1 + 1)] (hq D x) (Ret (vi y.1) (hq D y.2)) := by
  unfold F_X8_removeNode_27 at h
  refine Ev.iconst ⟨dX8_removeNode_27, rfl⟩ (inRd rfl) ?_
  obtain ⟨r5, hv4, h⟩ := bnd_s h
  refine Ev.callV1 (mc1 := 0) (ms1 := 0) (v := vi r5.1) (h1 := hq D r5.2) vX8_49 (c_X8_fails Θ D z _ _ _ _ _ hv4) rfl rfl (by decide) rfl ⟨by decide, by decide, Nat.le_of_eq (Nat.zero_add _), Nat.le_of_eq (Nat.zero_add _), Nat.le_of_ble_eq_true rfl⟩ ⟨dX8_removeNode_28, rfl⟩ ?_
  clear hv4
  refine Ev.if_ne jX8_removeNode_31 (fun hc => ?_) (fun hc => ?_)
  · replace h := (if_neg hc).symm.trans h; clear hc
    refine Ev.iconst ⟨dX8_removeNode_82, rfl⟩ (inRd rfl) ?_
    obtain rfl := Option.some.inj h
    exact Ev.ireturn (ty := .int) ⟨dX8_removeNode_83, rfl⟩ rfl rfl ⟨rfl, rfl⟩
  · replace h := (if_pos hc).symm.trans h; clear hc
    refine Ev.aload_n (q := 0) ⟨dX8_removeNode_34, rfl⟩ rfl rfl ?_
    refine Ev.aload_n (q := 0) ⟨dX8_removeNode_35, rfl⟩ rfl rfl ?_
    refine Ev.iload_n (q := 1) ⟨dX8_removeNode_36, rfl⟩ rfl rfl ?_
    obtain ⟨r7, hv6, h⟩ := bnd_s h
    refine Ev.callV1 (mc1 := 0) (ms1 := 0) (v := vi r7) (h1 := hq D r5.2) vX8_177 (c_X8_hasLease Θ D z _ _ _ _ hv6) rfl rfl (by decide) rfl ⟨by decide, by decide, Nat.le_of_eq (Nat.zero_add _), Nat.le_of_eq (Nat.zero_add _), Nat.le_of_ble_eq_true rfl⟩ ⟨dX8_removeNode_37, rfl⟩ ?_
    clear hv6
    refine Ev.if_eq jX8_removeNode_40 (fun hc => ?_) (fun hc => ?_)
    · replace h := (if_pos hc).symm.trans h; clear hc
      exact e_X8_removeNode_74 Θ D z _ _ _ _ _ _ h
    · replace h := (if_neg hc).symm.trans h; clear hc
      refine Ev.aload_n (q := 0) ⟨dX8_removeNode_43, rfl⟩ rfl rfl ?_
      refine Ev.iload_n (q := 1) ⟨dX8_removeNode_44, rfl⟩ rfl rfl ?_
      refine Ev.bipush ⟨dX8_removeNode_45, rfl⟩ (inRd rfl) (by decide) ?_
      refine Ev.iload_n (q := 2) ⟨dX8_removeNode_47, rfl⟩ rfl rfl ?_
      obtain ⟨r27, hv26, h⟩ := bnd_s h
      refine Ev.callV1 (mc1 := 0) (ms1 := 0) (v := vi r27) (h1 := hq D r5.2) vX8_209 (c_X8_is Θ D z _ _ _ _ _ _ hv26) rfl rfl (by decide) rfl ⟨by decide, by decide, Nat.le_of_eq (Nat.zero_add _), Nat.le_of_eq (Nat.zero_add _), Nat.le_of_ble_eq_true rfl⟩ ⟨dX8_removeNode_48, rfl⟩ ?_
      clear hv26
      refine Ev.if_eq jX8_removeNode_51 (fun hc => ?_) (fun hc => ?_)
      · replace h := (if_pos hc).symm.trans h; clear hc
        exact e_X8_removeNode_74 Θ D z _ _ _ _ _ _ h
      · replace h := (if_neg hc).symm.trans h; clear hc
        refine Ev.aload_n (q := 0) ⟨dX8_removeNode_54, rfl⟩ rfl rfl ?_
        refine Ev.getRk (C2 := 27) (r := 0) fX8_13 rfl (by decide) (by decide) ⟨dX8_removeNode_55, rfl⟩ ?_
        refine Ev.sipush ⟨dX8_removeNode_58, rfl⟩ (inRd rfl) (by decide) ?_
        refine Ev.iconst ⟨dX8_removeNode_61, rfl⟩ (inRd rfl) ?_
        refine Ev.iload_n (q := 1) ⟨dX8_removeNode_62, rfl⟩ rfl rfl ?_
        obtain ⟨c28, h⟩ := ckR_s h
        refine Ev.imul ⟨dX8_removeNode_63, rfl⟩ c28 ?_
        obtain ⟨c29, h⟩ := ckR_s h
        refine Ev.iadd ⟨dX8_removeNode_64, rfl⟩ c29 ?_
        obtain ⟨c30, h⟩ := ckI_s h
        refine Ev.iaload (by decide) c30.1 c30.2 ⟨dX8_removeNode_65, rfl⟩ ?_
        refine Ev.iload_n (q := 2) ⟨dX8_removeNode_66, rfl⟩ rfl rfl ?_
        refine Ev.icmp_eq jX8_removeNode_67 (fun hc => ?_) (fun hc => ?_)
        · replace h := (if_pos hc).symm.trans h; clear hc
          exact e_X8_removeNode_74 Θ D z _ _ _ _ _ _ h
        · replace h := (if_neg hc).symm.trans h; clear hc
          refine Ev.iconst ⟨dX8_removeNode_70, rfl⟩ (inRd rfl) ?_
          refine Ev.goto jX8_removeNode_71 ?_
          exact e_X8_removeNode_75 Θ D z _ _ _ _ _ _ _ h

def F_X8_removeNode_26 (z : Nat) (v0 : Nat) (v1 : Int) (v2 : Int) (u0 : Nat) (x : Mm) : Option (Int × Mm) := F_X8_removeNode_27 z (v0) (v1) (v2) ((0 : Int)) (u0) x
set_option maxHeartbeats 4000000 in
set_option maxRecDepth 20000 in
theorem e_X8_removeNode_26 (Θ : GC) (D : Nat → Nat → Prop) (z : Nat) (v0 : Nat) (v1 : Int) (v2 : Int) (u0 : Nat) (x : Mm) (y) (h : F_X8_removeNode_26 z v0 v1 v2 u0 x = some y) : Ev Θ mX8_removeNode 2 45 0 0 26 [(0, vr 8 (v0 + 1)), (1, vi (v1)), (2, vi (v2))] [vr 8 (u0 + 1)] (hq D x) (Ret (vi y.1) (hq D y.2)) := by
  unfold F_X8_removeNode_26 at h
  refine Ev.iconst ⟨dX8_removeNode_26, rfl⟩ (inRd rfl) ?_
  exact e_X8_removeNode_27 Θ D z _ _ _ _ _ _ _ h
def F_X8_removeNode (z : Nat) (v0 : Nat) (v1 : Int) (v2 : Int) (x : Mm) : Option (Int × Mm) := (some (wI x 8 v0 0 ((0 : Int)))).bind fun x1 => (F_X8_isClient z (v0) (v1) x1).bind fun r3 => if r3 = 0 then (F_X8_removeNode_26 z (v0) (v1) (v2) (v0) x1) else ((F_X8_isNode z (v0) (v2) x1).bind fun r32 => if r32 = 0 then (F_X8_removeNode_26 z (v0) (v1) (v2) (v0) x1) else (F_X8_removeNode_27 z (v0) (v1) (v2) ((1 : Int)) (v0) x1))
set_option maxHeartbeats 4000000 in
set_option maxRecDepth 20000 in
theorem c_X8_removeNode (Θ : GC) (D : Nat → Nat → Prop) (z : Nat) (v0 : Nat) (v1 : Int) (v2 : Int) (x : Mm) (y) (h : F_X8_removeNode z v0 v1 v2 x = some y) : Cal Θ mX8_removeNode 2 45 0 0 [vr 8 (v0 + 1), vi (v1), vi (v2)] (hq D x) (Ret (vi y.1) (hq D y.2)) := by
  refine Cal.of (by decide +kernel) rfl rfl (Nat.le_of_ble_eq_true rfl) ?_
  show Ev Θ mX8_removeNode 2 45 0 0 0 [(0, vr 8 (v0 + 1)), (1, vi (v1)), (2, vi (v2))] [] (hq D x) (Ret (vi y.1) (hq D y.2))
  unfold F_X8_removeNode at h
  refine Ev.aload_n (q := 0) ⟨dX8_removeNode_0, rfl⟩ rfl rfl ?_
  refine Ev.iconst ⟨dX8_removeNode_1, rfl⟩ (inRd rfl) ?_
  obtain ⟨x1, ex, h⟩ := bnd_s h
  refine Ev.putI fX8_38 ⟨dX8_removeNode_2, rfl⟩ ?_
  refine Ev.cast ?_ rfl rfl (hqI ex)
  clear ex
  refine Ev.aload_n (q := 0) ⟨dX8_removeNode_5, rfl⟩ rfl rfl ?_
  refine Ev.aload_n (q := 0) ⟨dX8_removeNode_6, rfl⟩ rfl rfl ?_
  refine Ev.iload_n (q := 1) ⟨dX8_removeNode_7, rfl⟩ rfl rfl ?_
  obtain ⟨r3, hv2, h⟩ := bnd_s h
  refine Ev.callV1 (mc1 := 0) (ms1 := 0) (v := vi r3) (h1 := hq D x1) vX8_188 (c_X8_isClient Θ D z _ _ _ _ hv2) rfl rfl (by decide) rfl ⟨by decide, by decide, Nat.le_of_eq (Nat.zero_add _), Nat.le_of_eq (Nat.zero_add _), Nat.le_of_ble_eq_true rfl⟩ ⟨dX8_removeNode_8, rfl⟩ ?_
  clear hv2
  refine Ev.if_eq jX8_removeNode_11 (fun hc => ?_) (fun hc => ?_)
  · replace h := (if_pos hc).symm.trans h; clear hc
    exact e_X8_removeNode_26 Θ D z _ _ _ _ _ _ h
  · replace h := (if_neg hc).symm.trans h; clear hc
    refine Ev.aload_n (q := 0) ⟨dX8_removeNode_14, rfl⟩ rfl rfl ?_
    refine Ev.iload_n (q := 2) ⟨dX8_removeNode_15, rfl⟩ rfl rfl ?_
    obtain ⟨r32, hv31, h⟩ := bnd_s h
    refine Ev.callV1 (mc1 := 0) (ms1 := 0) (v := vi r32) (h1 := hq D x1) vX8_191 (c_X8_isNode Θ D z _ _ _ _ hv31) rfl rfl (by decide) rfl ⟨by decide, by decide, Nat.le_of_eq (Nat.zero_add _), Nat.le_of_eq (Nat.zero_add _), Nat.le_of_ble_eq_true rfl⟩ ⟨dX8_removeNode_16, rfl⟩ ?_
    clear hv31
    refine Ev.if_eq jX8_removeNode_19 (fun hc => ?_) (fun hc => ?_)
    · replace h := (if_pos hc).symm.trans h; clear hc
      exact e_X8_removeNode_26 Θ D z _ _ _ _ _ _ h
    · replace h := (if_neg hc).symm.trans h; clear hc
      refine Ev.iconst ⟨dX8_removeNode_22, rfl⟩ (inRd rfl) ?_
      refine Ev.goto jX8_removeNode_23 ?_
      exact e_X8_removeNode_27 Θ D z _ _ _ _ _ _ _ h

def F_X8_isChanged (z : Nat) (v0 : Nat) (v1 : Int) (v2 : Int) (v3 : Int) (x : Mm) : Option (Int) := (F_X8_is z (v0) (v1) ((0 : Int)) (v2) x).bind fun r2 => if r2 = 0 then (some ((0 : Int))) else ((F_X8_is z (v0) (v1) ((60 : Int)) (v2) x).bind fun r4 => if r4 = 0 then (some ((0 : Int))) else ((F_X8_old z (v0) (v1) (v2) (v3) x).bind fun r6 => (F_X8_fresh z (v0) (v1) (v2) (v3) x).bind fun r8 => if r6 = r8 then (some ((0 : Int))) else (some ((1 : Int)))))
set_option maxHeartbeats 4000000 in
set_option maxRecDepth 20000 in
theorem c_X8_isChanged (Θ : GC) (D : Nat → Nat → Prop) (z : Nat) (v0 : Nat) (v1 : Int) (v2 : Int) (v3 : Int) (x : Mm) (y) (h : F_X8_isChanged z v0 v1 v2 v3 x = some y) : Cal Θ mX8_isChanged 2 45 0 0 [vr 8 (v0 + 1), vi (v1), vi (v2), vi (v3)] (hq D x) (Ret (vi y) (hq D x)) := by
  refine Cal.of (by decide +kernel) rfl rfl (Nat.le_of_ble_eq_true rfl) ?_
  show Ev Θ mX8_isChanged 2 45 0 0 0 [(0, vr 8 (v0 + 1)), (1, vi (v1)), (2, vi (v2)), (3, vi (v3))] [] (hq D x) (Ret (vi y) (hq D x))
  unfold F_X8_isChanged at h
  refine Ev.aload_n (q := 0) ⟨dX8_isChanged_0, rfl⟩ rfl rfl ?_
  refine Ev.iload_n (q := 1) ⟨dX8_isChanged_1, rfl⟩ rfl rfl ?_
  refine Ev.iconst ⟨dX8_isChanged_2, rfl⟩ (inRd rfl) ?_
  refine Ev.iload_n (q := 2) ⟨dX8_isChanged_3, rfl⟩ rfl rfl ?_
  obtain ⟨r2, hv1, h⟩ := bnd_s h
  refine Ev.callV1 (mc1 := 0) (ms1 := 0) (v := vi r2) (h1 := hq D x) vX8_209 (c_X8_is Θ D z _ _ _ _ _ _ hv1) rfl rfl (by decide) rfl ⟨by decide, by decide, Nat.le_of_eq (Nat.zero_add _), Nat.le_of_eq (Nat.zero_add _), Nat.le_of_ble_eq_true rfl⟩ ⟨dX8_isChanged_4, rfl⟩ ?_
  clear hv1
  refine Ev.if_eq jX8_isChanged_7 (fun hc => ?_) (fun hc => ?_)
  · replace h := (if_pos hc).symm.trans h; clear hc
    refine Ev.iconst ⟨dX8_isChanged_42, rfl⟩ (inRd rfl) ?_
    obtain rfl := Option.some.inj h
    exact Ev.ireturn (ty := .boolean) ⟨dX8_isChanged_43, rfl⟩ rfl rfl ⟨rfl, rfl⟩
  · replace h := (if_neg hc).symm.trans h; clear hc
    refine Ev.aload_n (q := 0) ⟨dX8_isChanged_10, rfl⟩ rfl rfl ?_
    refine Ev.iload_n (q := 1) ⟨dX8_isChanged_11, rfl⟩ rfl rfl ?_
    refine Ev.bipush ⟨dX8_isChanged_12, rfl⟩ (inRd rfl) (by decide) ?_
    refine Ev.iload_n (q := 2) ⟨dX8_isChanged_14, rfl⟩ rfl rfl ?_
    obtain ⟨r4, hv3, h⟩ := bnd_s h
    refine Ev.callV1 (mc1 := 0) (ms1 := 0) (v := vi r4) (h1 := hq D x) vX8_209 (c_X8_is Θ D z _ _ _ _ _ _ hv3) rfl rfl (by decide) rfl ⟨by decide, by decide, Nat.le_of_eq (Nat.zero_add _), Nat.le_of_eq (Nat.zero_add _), Nat.le_of_ble_eq_true rfl⟩ ⟨dX8_isChanged_15, rfl⟩ ?_
    clear hv3
    refine Ev.if_eq jX8_isChanged_18 (fun hc => ?_) (fun hc => ?_)
    · replace h := (if_pos hc).symm.trans h; clear hc
      refine Ev.iconst ⟨dX8_isChanged_42, rfl⟩ (inRd rfl) ?_
      obtain rfl := Option.some.inj h
      exact Ev.ireturn (ty := .boolean) ⟨dX8_isChanged_43, rfl⟩ rfl rfl ⟨rfl, rfl⟩
    · replace h := (if_neg hc).symm.trans h; clear hc
      refine Ev.aload_n (q := 0) ⟨dX8_isChanged_21, rfl⟩ rfl rfl ?_
      refine Ev.iload_n (q := 1) ⟨dX8_isChanged_22, rfl⟩ rfl rfl ?_
      refine Ev.iload_n (q := 2) ⟨dX8_isChanged_23, rfl⟩ rfl rfl ?_
      refine Ev.iload_n (q := 3) ⟨dX8_isChanged_24, rfl⟩ rfl rfl ?_
      obtain ⟨r6, hv5, h⟩ := bnd_s h
      refine Ev.callV1 (mc1 := 0) (ms1 := 0) (v := vi r6) (h1 := hq D x) vX8_218 (c_X8_old Θ D z _ _ _ _ _ _ hv5) rfl rfl (by decide) rfl ⟨by decide, by decide, Nat.le_of_eq (Nat.zero_add _), Nat.le_of_eq (Nat.zero_add _), Nat.le_of_ble_eq_true rfl⟩ ⟨dX8_isChanged_25, rfl⟩ ?_
      clear hv5
      refine Ev.aload_n (q := 0) ⟨dX8_isChanged_28, rfl⟩ rfl rfl ?_
      refine Ev.iload_n (q := 1) ⟨dX8_isChanged_29, rfl⟩ rfl rfl ?_
      refine Ev.iload_n (q := 2) ⟨dX8_isChanged_30, rfl⟩ rfl rfl ?_
      refine Ev.iload_n (q := 3) ⟨dX8_isChanged_31, rfl⟩ rfl rfl ?_
      obtain ⟨r8, hv7, h⟩ := bnd_s h
      refine Ev.callV1 (mc1 := 0) (ms1 := 0) (v := vi r8) (h1 := hq D x) vX8_212 (c_X8_fresh Θ D z _ _ _ _ _ _ hv7) rfl rfl (by decide) rfl ⟨by decide, by decide, Nat.le_of_eq (Nat.zero_add _), Nat.le_of_eq (Nat.zero_add _), Nat.le_of_ble_eq_true rfl⟩ ⟨dX8_isChanged_32, rfl⟩ ?_
      clear hv7
      refine Ev.icmp_eq jX8_isChanged_35 (fun hc => ?_) (fun hc => ?_)
      · replace h := (if_pos hc).symm.trans h; clear hc
        refine Ev.iconst ⟨dX8_isChanged_42, rfl⟩ (inRd rfl) ?_
        obtain rfl := Option.some.inj h
        exact Ev.ireturn (ty := .boolean) ⟨dX8_isChanged_43, rfl⟩ rfl rfl ⟨rfl, rfl⟩
      · replace h := (if_neg hc).symm.trans h; clear hc
        refine Ev.iconst ⟨dX8_isChanged_38, rfl⟩ (inRd rfl) ?_
        refine Ev.goto jX8_isChanged_39 ?_
        obtain rfl := Option.some.inj h
        exact Ev.ireturn (ty := .boolean) ⟨dX8_isChanged_43, rfl⟩ rfl rfl ⟨rfl, rfl⟩

def F_X8_changesOf_5 (z : Nat) (v0 : Nat) (v1 : Int) (v2 : Int) (x : Mm) : Nat → Int → Int → Option (Int)
  | 0, _, _ => none
  | k + 1, v3, v4 => ckI (1 : Int) 5366 <| if (x.1 27 0 ((1 : Int)).toNat) ≤ v4 then (some (v3)) else ((F_X8_isChanged z (v0) (v1) (v2) (v4) x).bind fun r3 => if r3 = 0 then (ckR ((v3 + (0 : Int))) <| ckR ((v4 + 1)) <| F_X8_changesOf_5 z v0 v1 v2 x k ((v3 + (0 : Int))) ((v4 + 1))) else (ckR ((v3 + (1 : Int))) <| ckR ((v4 + 1)) <| F_X8_changesOf_5 z v0 v1 v2 x k ((v3 + (1 : Int))) ((v4 + 1))))
set_option maxHeartbeats 4000000 in
set_option maxRecDepth 20000 in
theorem e_X8_changesOf_5 (Θ : GC) (D : Nat → Nat → Prop) (z : Nat) (v0 : Nat) (v1 : Int) (v2 : Int) (x : Mm) (Q : Ro → Hp → Prop) (mc ms : Nat) : ∀ (k : Nat) (v3 : Int) (v4 : Int) (y), F_X8_changesOf_5 z v0 v1 v2 x k v3 v4 = some y → (Ev Θ mX8_changesOf 3 68 mc ms 41 [(0, vr 8 (v0 + 1)), (1, vi (v1)), (2, vi (v2)), (3, vi (y))] [] (hq D x) Q) → Ev Θ mX8_changesOf 3 68 mc ms 5 [(0, vr 8 (v0 + 1)), (1, vi (v1)), (2, vi (v2)), (3, vi (v3)), (4, vi (v4))] [] (hq D x) Q := by
  intro k
  induction k with
  | zero => intro v3 v4 y h; exact absurd h (by unfold F_X8_changesOf_5; exact nofun)
  | succ k ih =>
    intro v3 v4 y h k1
    unfold F_X8_changesOf_5 at h
    refine Ev.iload (q := 4) ⟨dX8_changesOf_5, rfl⟩ rfl ?_
    refine Ev.aload_n (q := 0) ⟨dX8_changesOf_7, rfl⟩ rfl rfl ?_
    refine Ev.getRk (C2 := 27) (r := 0) fX8_13 rfl (by decide) (by decide) ⟨dX8_changesOf_8, rfl⟩ ?_
    refine Ev.iconst ⟨dX8_changesOf_11, rfl⟩ (inRd rfl) ?_
    obtain ⟨c1, h⟩ := ckI_s h
    refine Ev.iaload (by decide) c1.1 c1.2 ⟨dX8_changesOf_12, rfl⟩ ?_
    refine Ev.icmp_ge jX8_changesOf_13 (fun hc => ?_) (fun hc => ?_)
    · replace h := (if_pos hc).symm.trans h; clear hc
      refine Ev.keep [0, 1, 2, 3] rfl ?_
      obtain rfl := Option.some.inj h
      exact k1
    · replace h := (if_neg hc).symm.trans h; clear hc
      refine Ev.iload_n (q := 3) ⟨dX8_changesOf_16, rfl⟩ rfl rfl ?_
      refine Ev.aload_n (q := 0) ⟨dX8_changesOf_17, rfl⟩ rfl rfl ?_
      refine Ev.iload_n (q := 1) ⟨dX8_changesOf_18, rfl⟩ rfl rfl ?_
      refine Ev.iload_n (q := 2) ⟨dX8_changesOf_19, rfl⟩ rfl rfl ?_
      refine Ev.iload (q := 4) ⟨dX8_changesOf_20, rfl⟩ rfl ?_
      obtain ⟨r3, hv2, h⟩ := bnd_s h
      refine Ev.callV1 (mc1 := mc) (ms1 := ms) (v := vi r3) (h1 := hq D x) vX8_221 (c_X8_isChanged Θ D z _ _ _ _ _ _ hv2) rfl rfl (by decide) rfl ⟨by decide, by decide, Nat.le_of_eq (Nat.zero_add _), Nat.le_of_eq (Nat.zero_add _), Nat.le_of_ble_eq_true rfl⟩ ⟨dX8_changesOf_22, rfl⟩ ?_
      clear hv2
      refine Ev.if_eq jX8_changesOf_25 (fun hc => ?_) (fun hc => ?_)
      · replace h := (if_pos hc).symm.trans h; clear hc
        refine Ev.iconst ⟨dX8_changesOf_32, rfl⟩ (inRd rfl) ?_
        obtain ⟨c4, h⟩ := ckR_s h
        refine Ev.iadd ⟨dX8_changesOf_33, rfl⟩ c4 ?_
        refine Ev.istore_n (i := 3) (ls' := [(0, _), (1, _), (2, _), (3, _), (4, _)]) ⟨dX8_changesOf_34, rfl⟩ rfl (by decide) rfl ?_
        obtain ⟨c5, h⟩ := ckR_s h
        refine Ev.iinc (q := 4) (ls' := [(0, _), (1, _), (2, _), (3, _), (4, _)]) ⟨dX8_changesOf_35, rfl⟩ rfl (by decide) c5 rfl ?_
        refine Ev.goto jX8_changesOf_38 ?_
        exact ih _ _ _ h k1
      · replace h := (if_neg hc).symm.trans h; clear hc
        refine Ev.iconst ⟨dX8_changesOf_28, rfl⟩ (inRd rfl) ?_
        refine Ev.goto jX8_changesOf_29 ?_
        obtain ⟨c6, h⟩ := ckR_s h
        refine Ev.iadd ⟨dX8_changesOf_33, rfl⟩ c6 ?_
        refine Ev.istore_n (i := 3) (ls' := [(0, _), (1, _), (2, _), (3, _), (4, _)]) ⟨dX8_changesOf_34, rfl⟩ rfl (by decide) rfl ?_
        obtain ⟨c7, h⟩ := ckR_s h
        refine Ev.iinc (q := 4) (ls' := [(0, _), (1, _), (2, _), (3, _), (4, _)]) ⟨dX8_changesOf_35, rfl⟩ rfl (by decide) c7 rfl ?_
        refine Ev.goto jX8_changesOf_38 ?_
        exact ih _ _ _ h k1
def F_X8_changesOf (z : Nat) (v0 : Nat) (v1 : Int) (v2 : Int) (x : Mm) : Option (Int) := (F_X8_changesOf_5 z (v0) (v1) (v2) x z ((0 : Int)) ((0 : Int))).bind fun s8 => some (s8)
set_option maxHeartbeats 4000000 in
set_option maxRecDepth 20000 in
theorem c_X8_changesOf (Θ : GC) (D : Nat → Nat → Prop) (z : Nat) (v0 : Nat) (v1 : Int) (v2 : Int) (x : Mm) (y) (h : F_X8_changesOf z v0 v1 v2 x = some y) : Cal Θ mX8_changesOf 3 68 0 0 [vr 8 (v0 + 1), vi (v1), vi (v2)] (hq D x) (Ret (vi y) (hq D x)) := by
  refine Cal.of (by decide +kernel) rfl rfl (Nat.le_of_ble_eq_true rfl) ?_
  show Ev Θ mX8_changesOf 3 68 0 0 0 [(0, vr 8 (v0 + 1)), (1, vi (v1)), (2, vi (v2))] [] (hq D x) (Ret (vi y) (hq D x))
  unfold F_X8_changesOf at h
  refine Ev.iconst ⟨dX8_changesOf_0, rfl⟩ (inRd rfl) ?_
  refine Ev.istore_n (i := 3) (ls' := [(0, _), (1, _), (2, _), (3, _)]) ⟨dX8_changesOf_1, rfl⟩ rfl (by decide) rfl ?_
  refine Ev.iconst ⟨dX8_changesOf_2, rfl⟩ (inRd rfl) ?_
  refine Ev.istore (i := 4) (ls' := [(0, _), (1, _), (2, _), (3, _), (4, _)]) ⟨dX8_changesOf_3, rfl⟩ (by decide) rfl ?_
  obtain ⟨s8, hl, h⟩ := bnd_s h
  refine e_X8_changesOf_5 Θ D z _ _ _ _ _ _ _ _ _ _ _ hl ?_
  clear hl
  refine Ev.iload_n (q := 3) ⟨dX8_changesOf_41, rfl⟩ rfl rfl ?_
  obtain rfl := Option.some.inj h
  exact Ev.ireturn (ty := .int) ⟨dX8_changesOf_42, rfl⟩ rfl rfl ⟨rfl, rfl⟩

def F_X8_allChanges_4 (z : Nat) (v0 : Nat) (v1 : Int) (x : Mm) : Nat → Int → Int → Option (Int)
  | 0, _, _ => none
  | k + 1, v2, v3 => ckI (3 : Int) 5366 <| if (x.1 27 0 ((3 : Int)).toNat) ≤ v3 then (some (v2)) else ((F_X8_changesOf z (v0) (v1) (v3) x).bind fun r3 => ckR ((v2 + r3)) <| ckR ((v3 + 1)) <| F_X8_allChanges_4 z v0 v1 x k ((v2 + r3)) ((v3 + 1)))
set_option maxHeartbeats 4000000 in
set_option maxRecDepth 20000 in
theorem e_X8_allChanges_4 (Θ : GC) (D : Nat → Nat → Prop) (z : Nat) (v0 : Nat) (v1 : Int) (x : Mm) (Q : Ro → Hp → Prop) (mc ms : Nat) : ∀ (k : Nat) (v2 : Int) (v3 : Int) (y), F_X8_allChanges_4 z v0 v1 x k v2 v3 = some y → (Ev Θ mX8_allChanges 4 92 mc ms 29 [(0, vr 8 (v0 + 1)), (1, vi (v1)), (2, vi (y))] [] (hq D x) Q) → Ev Θ mX8_allChanges 4 92 mc ms 4 [(0, vr 8 (v0 + 1)), (1, vi (v1)), (2, vi (v2)), (3, vi (v3))] [] (hq D x) Q := by
  intro k
  induction k with
  | zero => intro v2 v3 y h; exact absurd h (by unfold F_X8_allChanges_4; exact nofun)
  | succ k ih =>
    intro v2 v3 y h k1
    unfold F_X8_allChanges_4 at h
    refine Ev.iload_n (q := 3) ⟨dX8_allChanges_4, rfl⟩ rfl rfl ?_
    refine Ev.aload_n (q := 0) ⟨dX8_allChanges_5, rfl⟩ rfl rfl ?_
    refine Ev.getRk (C2 := 27) (r := 0) fX8_13 rfl (by decide) (by decide) ⟨dX8_allChanges_6, rfl⟩ ?_
    refine Ev.iconst ⟨dX8_allChanges_9, rfl⟩ (inRd rfl) ?_
    obtain ⟨c1, h⟩ := ckI_s h
    refine Ev.iaload (by decide) c1.1 c1.2 ⟨dX8_allChanges_10, rfl⟩ ?_
    refine Ev.icmp_ge jX8_allChanges_11 (fun hc => ?_) (fun hc => ?_)
    · replace h := (if_pos hc).symm.trans h; clear hc
      refine Ev.keep [0, 1, 2] rfl ?_
      obtain rfl := Option.some.inj h
      exact k1
    · replace h := (if_neg hc).symm.trans h; clear hc
      refine Ev.iload_n (q := 2) ⟨dX8_allChanges_14, rfl⟩ rfl rfl ?_
      refine Ev.aload_n (q := 0) ⟨dX8_allChanges_15, rfl⟩ rfl rfl ?_
      refine Ev.iload_n (q := 1) ⟨dX8_allChanges_16, rfl⟩ rfl rfl ?_
      refine Ev.iload_n (q := 3) ⟨dX8_allChanges_17, rfl⟩ rfl rfl ?_
      obtain ⟨r3, hv2, h⟩ := bnd_s h
      refine Ev.callV1 (mc1 := mc) (ms1 := ms) (v := vi r3) (h1 := hq D x) vX8_224 (c_X8_changesOf Θ D z _ _ _ _ _ hv2) rfl rfl (by decide) rfl ⟨by decide, by decide, Nat.le_of_eq (Nat.zero_add _), Nat.le_of_eq (Nat.zero_add _), Nat.le_of_ble_eq_true rfl⟩ ⟨dX8_allChanges_18, rfl⟩ ?_
      clear hv2
      obtain ⟨c4, h⟩ := ckR_s h
      refine Ev.iadd ⟨dX8_allChanges_21, rfl⟩ c4 ?_
      refine Ev.istore_n (i := 2) (ls' := [(0, _), (1, _), (2, _), (3, _)]) ⟨dX8_allChanges_22, rfl⟩ rfl (by decide) rfl ?_
      obtain ⟨c5, h⟩ := ckR_s h
      refine Ev.iinc (q := 3) (ls' := [(0, _), (1, _), (2, _), (3, _)]) ⟨dX8_allChanges_23, rfl⟩ rfl (by decide) c5 rfl ?_
      refine Ev.goto jX8_allChanges_26 ?_
      exact ih _ _ _ h k1
def F_X8_allChanges (z : Nat) (v0 : Nat) (v1 : Int) (x : Mm) : Option (Int) := (F_X8_allChanges_4 z (v0) (v1) x z ((0 : Int)) ((0 : Int))).bind fun s6 => some (s6)
set_option maxHeartbeats 4000000 in
set_option maxRecDepth 20000 in
theorem c_X8_allChanges (Θ : GC) (D : Nat → Nat → Prop) (z : Nat) (v0 : Nat) (v1 : Int) (x : Mm) (y) (h : F_X8_allChanges z v0 v1 x = some y) : Cal Θ mX8_allChanges 4 92 0 0 [vr 8 (v0 + 1), vi (v1)] (hq D x) (Ret (vi y) (hq D x)) := by
  refine Cal.of (by decide +kernel) rfl rfl (Nat.le_of_ble_eq_true rfl) ?_
  show Ev Θ mX8_allChanges 4 92 0 0 0 [(0, vr 8 (v0 + 1)), (1, vi (v1))] [] (hq D x) (Ret (vi y) (hq D x))
  unfold F_X8_allChanges at h
  refine Ev.iconst ⟨dX8_allChanges_0, rfl⟩ (inRd rfl) ?_
  refine Ev.istore_n (i := 2) (ls' := [(0, _), (1, _), (2, _)]) ⟨dX8_allChanges_1, rfl⟩ rfl (by decide) rfl ?_
  refine Ev.iconst ⟨dX8_allChanges_2, rfl⟩ (inRd rfl) ?_
  refine Ev.istore_n (i := 3) (ls' := [(0, _), (1, _), (2, _), (3, _)]) ⟨dX8_allChanges_3, rfl⟩ rfl (by decide) rfl ?_
  obtain ⟨s6, hl, h⟩ := bnd_s h
  refine e_X8_allChanges_4 Θ D z _ _ _ _ _ _ _ _ _ _ hl ?_
  clear hl
  refine Ev.iload_n (q := 2) ⟨dX8_allChanges_29, rfl⟩ rfl rfl ?_
  obtain rfl := Option.some.inj h
  exact Ev.ireturn (ty := .int) ⟨dX8_allChanges_30, rfl⟩ rfl rfl ⟨rfl, rfl⟩

def F_X8_dropConflict_19 (z : Nat) (v0 : Nat) (v1 : Int) : Nat → Int → Mm → Option (Mm)
  | 0, _, _ => none
  | k + 1, v2, x => ckI (4 : Int) 5366 <| ckR (((6 : Int) * (x.1 27 0 ((4 : Int)).toNat))) <| ckR (((626 : Int) + ((6 : Int) * (x.1 27 0 ((4 : Int)).toNat)))) <| if ((626 : Int) + ((6 : Int) * (x.1 27 0 ((4 : Int)).toNat))) ≤ v2 then (some (x)) else (ckR ((v2 + (6 : Int))) <| ckI (v2 + (6 : Int)) 5366 <| ckI v2 5366 <| (some (wI x 27 0 (v2).toNat ((x.1 27 0 ((v2 + (6 : Int))).toNat)))).bind fun x13 => ckR ((v2 + 1)) <| F_X8_dropConflict_19 z v0 v1 k ((v2 + 1)) x13)
set_option maxHeartbeats 4000000 in
set_option maxRecDepth 20000 in
theorem e_X8_dropConflict_19 (Θ : GC) (D : Nat → Nat → Prop) (z : Nat) (v0 : Nat) (v1 : Int) (Q : Ro → Hp → Prop) (mc ms : Nat) : ∀ (k : Nat) (v2 : Int) (x : Mm) (y), F_X8_dropConflict_19 z v0 v1 k v2 x = some y → (Ev Θ mX8_dropConflict 0 0 mc ms 57 [(0, vr 8 (v0 + 1)), (1, vi (v1))] [] (hq D y) Q) → Ev Θ mX8_dropConflict 0 0 mc ms 19 [(0, vr 8 (v0 + 1)), (1, vi (v1)), (2, vi (v2))] [] (hq D x) Q := by
  intro k
  induction k with
  | zero => intro v2 x y h; exact absurd h (by unfold F_X8_dropConflict_19; exact nofun)
  | succ k ih =>
    intro v2 x y h k1
    unfold F_X8_dropConflict_19 at h
    refine Ev.iload_n (q := 2) ⟨dX8_dropConflict_19, rfl⟩ rfl rfl ?_
    refine Ev.sipush ⟨dX8_dropConflict_20, rfl⟩ (inRd rfl) (by decide) ?_
    refine Ev.bipush ⟨dX8_dropConflict_23, rfl⟩ (inRd rfl) (by decide) ?_
    refine Ev.aload_n (q := 0) ⟨dX8_dropConflict_25, rfl⟩ rfl rfl ?_
    refine Ev.getRk (C2 := 27) (r := 0) fX8_13 rfl (by decide) (by decide) ⟨dX8_dropConflict_26, rfl⟩ ?_
    refine Ev.iconst ⟨dX8_dropConflict_29, rfl⟩ (inRd rfl) ?_
    obtain ⟨c7, h⟩ := ckI_s h
    refine Ev.iaload (by decide) c7.1 c7.2 ⟨dX8_dropConflict_30, rfl⟩ ?_
    obtain ⟨c8, h⟩ := ckR_s h
    refine Ev.imul ⟨dX8_dropConflict_31, rfl⟩ c8 ?_
    obtain ⟨c9, h⟩ := ckR_s h
    refine Ev.iadd ⟨dX8_dropConflict_32, rfl⟩ c9 ?_
    refine Ev.icmp_ge jX8_dropConflict_33 (fun hc => ?_) (fun hc => ?_)
    · replace h := (if_pos hc).symm.trans h; clear hc
      refine Ev.keep [0, 1] rfl ?_
      obtain rfl := Option.some.inj h
      exact k1
    · replace h := (if_neg hc).symm.trans h; clear hc
      refine Ev.aload_n (q := 0) ⟨dX8_dropConflict_36, rfl⟩ rfl rfl ?_
      refine Ev.getRk (C2 := 27) (r := 0) fX8_13 rfl (by decide) (by decide) ⟨dX8_dropConflict_37, rfl⟩ ?_
      refine Ev.iload_n (q := 2) ⟨dX8_dropConflict_40, rfl⟩ rfl rfl ?_
      refine Ev.aload_n (q := 0) ⟨dX8_dropConflict_41, rfl⟩ rfl rfl ?_
      refine Ev.getRk (C2 := 27) (r := 0) fX8_13 rfl (by decide) (by decide) ⟨dX8_dropConflict_42, rfl⟩ ?_
      refine Ev.iload_n (q := 2) ⟨dX8_dropConflict_45, rfl⟩ rfl rfl ?_
      refine Ev.bipush ⟨dX8_dropConflict_46, rfl⟩ (inRd rfl) (by decide) ?_
      obtain ⟨c10, h⟩ := ckR_s h
      refine Ev.iadd ⟨dX8_dropConflict_48, rfl⟩ c10 ?_
      obtain ⟨c11, h⟩ := ckI_s h
      refine Ev.iaload (by decide) c11.1 c11.2 ⟨dX8_dropConflict_49, rfl⟩ ?_
      obtain ⟨c12, h⟩ := ckI_s h
      obtain ⟨x13, ex, h⟩ := bnd_s h
      refine Ev.iastore (by decide) c12.1 c12.2 ⟨dX8_dropConflict_50, rfl⟩ ?_
      refine Ev.cast ?_ rfl rfl (hqI ex)
      clear ex
      obtain ⟨c14, h⟩ := ckR_s h
      refine Ev.iinc (q := 2) (ls' := [(0, _), (1, _), (2, _)]) ⟨dX8_dropConflict_51, rfl⟩ rfl (by decide) c14 rfl ?_
      refine Ev.goto jX8_dropConflict_54 ?_
      exact ih _ _ _ h k1
def F_X8_dropConflict (z : Nat) (v0 : Nat) (v1 : Int) (x : Mm) : Option (Mm) := ckI (4 : Int) 5366 <| ckR (((x.1 27 0 ((4 : Int)).toNat) - (1 : Int))) <| ckI (4 : Int) 5366 <| (some (wI x 27 0 ((4 : Int)).toNat (((x.1 27 0 ((4 : Int)).toNat) - (1 : Int))))).bind fun x4 => ckR (((6 : Int) * v1)) <| ckR (((626 : Int) + ((6 : Int) * v1))) <| (F_X8_dropConflict_19 z (v0) (v1) z (((626 : Int) + ((6 : Int) * v1))) x4).bind fun s15 => some (s15)
set_option maxHeartbeats 4000000 in
set_option maxRecDepth 20000 in
theorem c_X8_dropConflict (Θ : GC) (D : Nat → Nat → Prop) (z : Nat) (v0 : Nat) (v1 : Int) (x : Mm) (y) (h : F_X8_dropConflict z v0 v1 x = some y) : Cal Θ mX8_dropConflict 0 0 0 0 [vr 8 (v0 + 1), vi (v1)] (hq D x) (RetN (hq D y)) := by
  refine Cal.of (by decide +kernel) rfl rfl (Nat.le_of_ble_eq_true rfl) ?_
  show Ev Θ mX8_dropConflict 0 0 0 0 0 [(0, vr 8 (v0 + 1)), (1, vi (v1))] [] (hq D x) (RetN (hq D y))
  unfold F_X8_dropConflict at h
  refine Ev.aload_n (q := 0) ⟨dX8_dropConflict_0, rfl⟩ rfl rfl ?_
  refine Ev.getRk (C2 := 27) (r := 0) fX8_13 rfl (by decide) (by decide) ⟨dX8_dropConflict_1, rfl⟩ ?_
  refine Ev.iconst ⟨dX8_dropConflict_4, rfl⟩ (inRd rfl) ?_
  refine Ev.dup2 ⟨dX8_dropConflict_5, rfl⟩ rfl rfl ?_
  obtain ⟨c1, h⟩ := ckI_s h
  refine Ev.iaload (by decide) c1.1 c1.2 ⟨dX8_dropConflict_6, rfl⟩ ?_
  refine Ev.iconst ⟨dX8_dropConflict_7, rfl⟩ (inRd rfl) ?_
  obtain ⟨c2, h⟩ := ckR_s h
  refine Ev.isub ⟨dX8_dropConflict_8, rfl⟩ c2 ?_
  obtain ⟨c3, h⟩ := ckI_s h
  obtain ⟨x4, ex, h⟩ := bnd_s h
  refine Ev.iastore (by decide) c3.1 c3.2 ⟨dX8_dropConflict_9, rfl⟩ ?_
  refine Ev.cast ?_ rfl rfl (hqI ex)
  clear ex
  refine Ev.sipush ⟨dX8_dropConflict_10, rfl⟩ (inRd rfl) (by decide) ?_
  refine Ev.bipush ⟨dX8_dropConflict_13, rfl⟩ (inRd rfl) (by decide) ?_
  refine Ev.iload_n (q := 1) ⟨dX8_dropConflict_15, rfl⟩ rfl rfl ?_
  obtain ⟨c5, h⟩ := ckR_s h
  refine Ev.imul ⟨dX8_dropConflict_16, rfl⟩ c5 ?_
  obtain ⟨c6, h⟩ := ckR_s h
  refine Ev.iadd ⟨dX8_dropConflict_17, rfl⟩ c6 ?_
  refine Ev.istore_n (i := 2) (ls' := [(0, _), (1, _), (2, _)]) ⟨dX8_dropConflict_18, rfl⟩ rfl (by decide) rfl ?_
  obtain ⟨s15, hl, h⟩ := bnd_s h
  refine e_X8_dropConflict_19 Θ D z _ _ _ _ _ _ _ _ _ hl ?_
  clear hl
  obtain rfl := Option.some.inj h
  exact Ev.ret ⟨dX8_dropConflict_57, rfl⟩ rfl ⟨rfl, rfl⟩

def F_X8_object_16 (z : Nat) (v0 : Nat) (v1 : Int) (v2 : Int) (v3 : Int) (v4 : Int) (v5 : Int) (x : Mm) : Option (Mm) := ckI (4 : Int) 5366 <| ckR (((6 : Int) * (x.1 27 0 ((4 : Int)).toNat))) <| ckR (((626 : Int) + ((6 : Int) * (x.1 27 0 ((4 : Int)).toNat)))) <| ckR ((((626 : Int) + ((6 : Int) * (x.1 27 0 ((4 : Int)).toNat))) + (0 : Int))) <| ckI (((626 : Int) + ((6 : Int) * (x.1 27 0 ((4 : Int)).toNat))) + (0 : Int)) 5366 <| (some (wI x 27 0 ((((626 : Int) + ((6 : Int) * (x.1 27 0 ((4 : Int)).toNat))) + (0 : Int))).toNat (v1))).bind fun x7 => ckR ((((626 : Int) + ((6 : Int) * (x.1 27 0 ((4 : Int)).toNat))) + (1 : Int))) <| ckI (((626 : Int) + ((6 : Int) * (x.1 27 0 ((4 : Int)).toNat))) + (1 : Int)) 5366 <| (some (wI x7 27 0 ((((626 : Int) + ((6 : Int) * (x.1 27 0 ((4 : Int)).toNat))) + (1 : Int))).toNat (v2))).bind fun x10 => ckR ((((626 : Int) + ((6 : Int) * (x.1 27 0 ((4 : Int)).toNat))) + (2 : Int))) <| ckI (((626 : Int) + ((6 : Int) * (x.1 27 0 ((4 : Int)).toNat))) + (2 : Int)) 5366 <| (some (wI x10 27 0 ((((626 : Int) + ((6 : Int) * (x.1 27 0 ((4 : Int)).toNat))) + (2 : Int))).toNat (v3))).bind fun x13 => ckR ((((626 : Int) + ((6 : Int) * (x.1 27 0 ((4 : Int)).toNat))) + (3 : Int))) <| ckI (((626 : Int) + ((6 : Int) * (x.1 27 0 ((4 : Int)).toNat))) + (3 : Int)) 5366 <| (some (wI x13 27 0 ((((626 : Int) + ((6 : Int) * (x.1 27 0 ((4 : Int)).toNat))) + (3 : Int))).toNat (v4))).bind fun x16 => ckR ((((626 : Int) + ((6 : Int) * (x.1 27 0 ((4 : Int)).toNat))) + (4 : Int))) <| ckI (((626 : Int) + ((6 : Int) * (x.1 27 0 ((4 : Int)).toNat))) + (4 : Int)) 5366 <| (some (wI x16 27 0 ((((626 : Int) + ((6 : Int) * (x.1 27 0 ((4 : Int)).toNat))) + (4 : Int))).toNat (v5))).bind fun x19 => ckR ((((626 : Int) + ((6 : Int) * (x.1 27 0 ((4 : Int)).toNat))) + (5 : Int))) <| ckI (0 : Int) 5366 <| ckI (((626 : Int) + ((6 : Int) * (x.1 27 0 ((4 : Int)).toNat))) + (5 : Int)) 5366 <| (some (wI x19 27 0 ((((626 : Int) + ((6 : Int) * (x.1 27 0 ((4 : Int)).toNat))) + (5 : Int))).toNat ((x19.1 27 0 ((0 : Int)).toNat)))).bind fun x23 => ckI (4 : Int) 5366 <| ckR (((x23.1 27 0 ((4 : Int)).toNat) + (1 : Int))) <| ckI (4 : Int) 5366 <| (some (wI x23 27 0 ((4 : Int)).toNat (((x23.1 27 0 ((4 : Int)).toNat) + (1 : Int))))).bind fun x27 => ckR (((x27.1 8 v0 14) + (1 : Int))) <| (some (wI x27 8 v0 14 (((x27.1 8 v0 14) + (1 : Int))))).bind fun x29 => some (x29)
set_option maxHeartbeats 4000000 in
set_option maxRecDepth 20000 in
theorem e_X8_object_16 (Θ : GC) (D : Nat → Nat → Prop) (z : Nat) (v0 : Nat) (v1 : Int) (v2 : Int) (v3 : Int) (v4 : Int) (v5 : Int) (x : Mm) (y) (h : F_X8_object_16 z v0 v1 v2 v3 v4 v5 x = some y) : Ev Θ mX8_object 1 22 0 0 16 [(0, vr 8 (v0 + 1)), (1, vi (v1)), (2, vi (v2)), (3, vi (v3)), (4, vi (v4)), (5, vi (v5))] [] (hq D x) (RetN (hq D y)) := by
  unfold F_X8_object_16 at h
  refine Ev.sipush ⟨dX8_object_16, rfl⟩ (inRd rfl) (by decide) ?_
  refine Ev.bipush ⟨dX8_object_19, rfl⟩ (inRd rfl) (by decide) ?_
  refine Ev.aload_n (q := 0) ⟨dX8_object_21, rfl⟩ rfl rfl ?_
  refine Ev.getRk (C2 := 27) (r := 0) fX8_13 rfl (by decide) (by decide) ⟨dX8_object_22, rfl⟩ ?_
  refine Ev.iconst ⟨dX8_object_25, rfl⟩ (inRd rfl) ?_
  obtain ⟨c2, h⟩ := ckI_s h
  refine Ev.iaload (by decide) c2.1 c2.2 ⟨dX8_object_26, rfl⟩ ?_
  obtain ⟨c3, h⟩ := ckR_s h
  refine Ev.imul ⟨dX8_object_27, rfl⟩ c3 ?_
  obtain ⟨c4, h⟩ := ckR_s h
  refine Ev.iadd ⟨dX8_object_28, rfl⟩ c4 ?_
  refine Ev.istore (i := 6) (ls' := [(0, _), (1, _), (2, _), (3, _), (4, _), (5, _), (6, _)]) ⟨dX8_object_29, rfl⟩ (by decide) rfl ?_
  refine Ev.aload_n (q := 0) ⟨dX8_object_31, rfl⟩ rfl rfl ?_
  refine Ev.getRk (C2 := 27) (r := 0) fX8_13 rfl (by decide) (by decide) ⟨dX8_object_32, rfl⟩ ?_
  refine Ev.iload (q := 6) ⟨dX8_object_35, rfl⟩ rfl ?_
  refine Ev.iconst ⟨dX8_object_37, rfl⟩ (inRd rfl) ?_
  obtain ⟨c5, h⟩ := ckR_s h
  refine Ev.iadd ⟨dX8_object_38, rfl⟩ c5 ?_
  refine Ev.iload_n (q := 1) ⟨dX8_object_39, rfl⟩ rfl rfl ?_
  obtain ⟨c6, h⟩ := ckI_s h
  obtain ⟨x7, ex, h⟩ := bnd_s h
  refine Ev.iastore (by decide) c6.1 c6.2 ⟨dX8_object_40, rfl⟩ ?_
  refine Ev.cast ?_ rfl rfl (hqI ex)
  clear ex
  refine Ev.aload_n (q := 0) ⟨dX8_object_41, rfl⟩ rfl rfl ?_
  refine Ev.getRk (C2 := 27) (r := 0) fX8_13 rfl (by decide) (by decide) ⟨dX8_object_42, rfl⟩ ?_
  refine Ev.iload (q := 6) ⟨dX8_object_45, rfl⟩ rfl ?_
  refine Ev.iconst ⟨dX8_object_47, rfl⟩ (inRd rfl) ?_
  obtain ⟨c8, h⟩ := ckR_s h
  refine Ev.iadd ⟨dX8_object_48, rfl⟩ c8 ?_
  refine Ev.iload_n (q := 2) ⟨dX8_object_49, rfl⟩ rfl rfl ?_
  obtain ⟨c9, h⟩ := ckI_s h
  obtain ⟨x10, ex, h⟩ := bnd_s h
  refine Ev.iastore (by decide) c9.1 c9.2 ⟨dX8_object_50, rfl⟩ ?_
  refine Ev.cast ?_ rfl rfl (hqI ex)
  clear ex
  refine Ev.aload_n (q := 0) ⟨dX8_object_51, rfl⟩ rfl rfl ?_
  refine Ev.getRk (C2 := 27) (r := 0) fX8_13 rfl (by decide) (by decide) ⟨dX8_object_52, rfl⟩ ?_
  refine Ev.iload (q := 6) ⟨dX8_object_55, rfl⟩ rfl ?_
  refine Ev.iconst ⟨dX8_object_57, rfl⟩ (inRd rfl) ?_
  obtain ⟨c11, h⟩ := ckR_s h
  refine Ev.iadd ⟨dX8_object_58, rfl⟩ c11 ?_
  refine Ev.iload_n (q := 3) ⟨dX8_object_59, rfl⟩ rfl rfl ?_
  obtain ⟨c12, h⟩ := ckI_s h
  obtain ⟨x13, ex, h⟩ := bnd_s h
  refine Ev.iastore (by decide) c12.1 c12.2 ⟨dX8_object_60, rfl⟩ ?_
  refine Ev.cast ?_ rfl rfl (hqI ex)
  clear ex
  refine Ev.aload_n (q := 0) ⟨dX8_object_61, rfl⟩ rfl rfl ?_
  refine Ev.getRk (C2 := 27) (r := 0) fX8_13 rfl (by decide) (by decide) ⟨dX8_object_62, rfl⟩ ?_
  refine Ev.iload (q := 6) ⟨dX8_object_65, rfl⟩ rfl ?_
  refine Ev.iconst ⟨dX8_object_67, rfl⟩ (inRd rfl) ?_
  obtain ⟨c14, h⟩ := ckR_s h
  refine Ev.iadd ⟨dX8_object_68, rfl⟩ c14 ?_
  refine Ev.iload (q := 4) ⟨dX8_object_69, rfl⟩ rfl ?_
  obtain ⟨c15, h⟩ := ckI_s h
  obtain ⟨x16, ex, h⟩ := bnd_s h
  refine Ev.iastore (by decide) c15.1 c15.2 ⟨dX8_object_71, rfl⟩ ?_
  refine Ev.cast ?_ rfl rfl (hqI ex)
  clear ex
  refine Ev.aload_n (q := 0) ⟨dX8_object_72, rfl⟩ rfl rfl ?_
  refine Ev.getRk (C2 := 27) (r := 0) fX8_13 rfl (by decide) (by decide) ⟨dX8_object_73, rfl⟩ ?_
  refine Ev.iload (q := 6) ⟨dX8_object_76, rfl⟩ rfl ?_
  refine Ev.iconst ⟨dX8_object_78, rfl⟩ (inRd rfl) ?_
  obtain ⟨c17, h⟩ := ckR_s h
  refine Ev.iadd ⟨dX8_object_79, rfl⟩ c17 ?_
  refine Ev.iload (q := 5) ⟨dX8_object_80, rfl⟩ rfl ?_
  obtain ⟨c18, h⟩ := ckI_s h
  obtain ⟨x19, ex, h⟩ := bnd_s h
  refine Ev.iastore (by decide) c18.1 c18.2 ⟨dX8_object_82, rfl⟩ ?_
  refine Ev.cast ?_ rfl rfl (hqI ex)
  clear ex
  refine Ev.aload_n (q := 0) ⟨dX8_object_83, rfl⟩ rfl rfl ?_
  refine Ev.getRk (C2 := 27) (r := 0) fX8_13 rfl (by decide) (by decide) ⟨dX8_object_84, rfl⟩ ?_
  refine Ev.iload (q := 6) ⟨dX8_object_87, rfl⟩ rfl ?_
  refine Ev.iconst ⟨dX8_object_89, rfl⟩ (inRd rfl) ?_
  obtain ⟨c20, h⟩ := ckR_s h
  refine Ev.iadd ⟨dX8_object_90, rfl⟩ c20 ?_
  refine Ev.aload_n (q := 0) ⟨dX8_object_91, rfl⟩ rfl rfl ?_
  refine Ev.getRk (C2 := 27) (r := 0) fX8_13 rfl (by decide) (by decide) ⟨dX8_object_92, rfl⟩ ?_
  refine Ev.iconst ⟨dX8_object_95, rfl⟩ (inRd rfl) ?_
  obtain ⟨c21, h⟩ := ckI_s h
  refine Ev.iaload (by decide) c21.1 c21.2 ⟨dX8_object_96, rfl⟩ ?_
  obtain ⟨c22, h⟩ := ckI_s h
  obtain ⟨x23, ex, h⟩ := bnd_s h
  refine Ev.iastore (by decide) c22.1 c22.2 ⟨dX8_object_97, rfl⟩ ?_
  refine Ev.cast ?_ rfl rfl (hqI ex)
  clear ex
  refine Ev.aload_n (q := 0) ⟨dX8_object_98, rfl⟩ rfl rfl ?_
  refine Ev.getRk (C2 := 27) (r := 0) fX8_13 rfl (by decide) (by decide) ⟨dX8_object_99, rfl⟩ ?_
  refine Ev.iconst ⟨dX8_object_102, rfl⟩ (inRd rfl) ?_
  refine Ev.dup2 ⟨dX8_object_103, rfl⟩ rfl rfl ?_
  obtain ⟨c24, h⟩ := ckI_s h
  refine Ev.iaload (by decide) c24.1 c24.2 ⟨dX8_object_104, rfl⟩ ?_
  refine Ev.iconst ⟨dX8_object_105, rfl⟩ (inRd rfl) ?_
  obtain ⟨c25, h⟩ := ckR_s h
  refine Ev.iadd ⟨dX8_object_106, rfl⟩ c25 ?_
  obtain ⟨c26, h⟩ := ckI_s h
  obtain ⟨x27, ex, h⟩ := bnd_s h
  refine Ev.iastore (by decide) c26.1 c26.2 ⟨dX8_object_107, rfl⟩ ?_
  refine Ev.cast ?_ rfl rfl (hqI ex)
  clear ex
  refine Ev.aload_n (q := 0) ⟨dX8_object_108, rfl⟩ rfl rfl ?_
  refine Ev.dup ⟨dX8_object_109, rfl⟩ rfl ?_
  refine Ev.getI fX8_231 (Or.inl rfl) ⟨dX8_object_110, rfl⟩ ?_
  refine Ev.iconst ⟨dX8_object_113, rfl⟩ (inRd rfl) ?_
  obtain ⟨c28, h⟩ := ckR_s h
  refine Ev.iadd ⟨dX8_object_114, rfl⟩ c28 ?_
  obtain ⟨x29, ex, h⟩ := bnd_s h
  refine Ev.putI fX8_231 ⟨dX8_object_115, rfl⟩ ?_
  refine Ev.cast ?_ rfl rfl (hqI ex)
  clear ex
  obtain rfl := Option.some.inj h
  exact Ev.ret ⟨dX8_object_118, rfl⟩ rfl ⟨rfl, rfl⟩
def F_X8_object (z : Nat) (v0 : Nat) (v1 : Int) (v2 : Int) (v3 : Int) (v4 : Int) (v5 : Int) (x : Mm) : Option (Mm) := ckI (4 : Int) 5366 <| if (x.1 27 0 ((4 : Int)).toNat) = (40 : Int) then ((F_X8_dropConflict z (v0) ((0 : Int)) x).bind fun r31 => F_X8_object_16 z (v0) (v1) (v2) (v3) (v4) (v5) r31) else (F_X8_object_16 z (v0) (v1) (v2) (v3) (v4) (v5) x)
set_option maxHeartbeats 4000000 in
set_option maxRecDepth 20000 in
theorem c_X8_object (Θ : GC) (D : Nat → Nat → Prop) (z : Nat) (v0 : Nat) (v1 : Int) (v2 : Int) (v3 : Int) (v4 : Int) (v5 : Int) (x : Mm) (y) (h : F_X8_object z v0 v1 v2 v3 v4 v5 x = some y) : Cal Θ mX8_object 1 22 0 0 [vr 8 (v0 + 1), vi (v1), vi (v2), vi (v3), vi (v4), vi (v5)] (hq D x) (RetN (hq D y)) := by
  refine Cal.of (by decide +kernel) rfl rfl (Nat.le_of_ble_eq_true rfl) ?_
  show Ev Θ mX8_object 1 22 0 0 0 [(0, vr 8 (v0 + 1)), (1, vi (v1)), (2, vi (v2)), (3, vi (v3)), (4, vi (v4)), (5, vi (v5))] [] (hq D x) (RetN (hq D y))
  unfold F_X8_object at h
  refine Ev.aload_n (q := 0) ⟨dX8_object_0, rfl⟩ rfl rfl ?_
  refine Ev.getRk (C2 := 27) (r := 0) fX8_13 rfl (by decide) (by decide) ⟨dX8_object_1, rfl⟩ ?_
  refine Ev.iconst ⟨dX8_object_4, rfl⟩ (inRd rfl) ?_
  obtain ⟨c1, h⟩ := ckI_s h
  refine Ev.iaload (by decide) c1.1 c1.2 ⟨dX8_object_5, rfl⟩ ?_
  refine Ev.bipush ⟨dX8_object_6, rfl⟩ (inRd rfl) (by decide) ?_
  refine Ev.icmp_ne jX8_object_8 (fun hc => ?_) (fun hc => ?_)
  · replace h := (if_neg hc).symm.trans h; clear hc
    exact e_X8_object_16 Θ D z _ _ _ _ _ _ _ _ h
  · replace h := (if_pos hc).symm.trans h; clear hc
    refine Ev.aload_n (q := 0) ⟨dX8_object_11, rfl⟩ rfl rfl ?_
    refine Ev.iconst ⟨dX8_object_12, rfl⟩ (inRd rfl) ?_
    obtain ⟨r31, hv30, h⟩ := bnd_s h
    refine Ev.callVN (mc1 := 0) (ms1 := 0) (h1 := hq D r31) vX8_227 (c_X8_dropConflict Θ D z _ _ _ _ hv30) rfl rfl (by decide) rfl ⟨by decide, by decide, Nat.le_of_eq (Nat.zero_add _), Nat.le_of_eq (Nat.zero_add _), Nat.le_of_ble_eq_true rfl⟩ ⟨dX8_object_13, rfl⟩ ?_
    clear hv30
    exact e_X8_object_16 Θ D z _ _ _ _ _ _ _ _ h

def F_X8_childWith_2 (z : Nat) (v0 : Nat) (v1 : Int) (v2 : Int) (x : Mm) : Nat → Int → Option ((Unit) ⊕ (Int))
  | 0, _ => none
  | k + 1, v3 => ckI (3 : Int) 5366 <| if (x.1 27 0 ((3 : Int)).toNat) ≤ v3 then (some (.inl ())) else ((F_X8_isAlive z (v0) (v3) x).bind fun r3 => if r3 = 0 then (ckR ((v3 + 1)) <| F_X8_childWith_2 z v0 v1 v2 x k ((v3 + 1))) else (ckR (((11 : Int) + v3)) <| ckI ((11 : Int) + v3) 5366 <| if (x.1 27 0 (((11 : Int) + v3)).toNat) = v1 then (ckR (((71 : Int) + v3)) <| ckI ((71 : Int) + v3) 5366 <| if (x.1 27 0 (((71 : Int) + v3)).toNat) = v2 then (some (.inr v3)) else (ckR ((v3 + 1)) <| F_X8_childWith_2 z v0 v1 v2 x k ((v3 + 1)))) else (ckR ((v3 + 1)) <| F_X8_childWith_2 z v0 v1 v2 x k ((v3 + 1)))))
set_option maxHeartbeats 4000000 in
set_option maxRecDepth 20000 in
theorem e_X8_childWith_2 (Θ : GC) (D : Nat → Nat → Prop) (z : Nat) (v0 : Nat) (v1 : Int) (v2 : Int) (x : Mm) (Q : Ro → Hp → Prop) (mc ms : Nat) : ∀ (k : Nat) (v3 : Int) (y), F_X8_childWith_2 z v0 v1 v2 x k v3 = some y → (∀ s, y = .inl s → Ev Θ mX8_childWith 1 21 mc ms 54 [(0, vr 8 (v0 + 1)), (1, vi (v1)), (2, vi (v2))] [] (hq D x) Q) → (∀ r, y = .inr r → Q (.inl (some (vi r))) (hq D x)) → Ev Θ mX8_childWith 1 21 mc ms 2 [(0, vr 8 (v0 + 1)), (1, vi (v1)), (2, vi (v2)), (3, vi (v3))] [] (hq D x) Q := by
  intro k
  induction k with
  | zero => intro v3 y h; exact absurd h (by unfold F_X8_childWith_2; exact nofun)
  | succ k ih =>
    intro v3 y h k1 k2
    unfold F_X8_childWith_2 at h
    refine Ev.iload_n (q := 3) ⟨dX8_childWith_2, rfl⟩ rfl rfl ?_
    refine Ev.aload_n (q := 0) ⟨dX8_childWith_3, rfl⟩ rfl rfl ?_
    refine Ev.getRk (C2 := 27) (r := 0) fX8_13 rfl (by decide) (by decide) ⟨dX8_childWith_4, rfl⟩ ?_
    refine Ev.iconst ⟨dX8_childWith_7, rfl⟩ (inRd rfl) ?_
    obtain ⟨c1, h⟩ := ckI_s h
    refine Ev.iaload (by decide) c1.1 c1.2 ⟨dX8_childWith_8, rfl⟩ ?_
    refine Ev.icmp_ge jX8_childWith_9 (fun hc => ?_) (fun hc => ?_)
    · replace h := (if_pos hc).symm.trans h; clear hc
      refine Ev.keep [0, 1, 2] rfl ?_
      obtain rfl := Option.some.inj h
      exact k1 _ rfl
    · replace h := (if_neg hc).symm.trans h; clear hc
      refine Ev.aload_n (q := 0) ⟨dX8_childWith_12, rfl⟩ rfl rfl ?_
      refine Ev.iload_n (q := 3) ⟨dX8_childWith_13, rfl⟩ rfl rfl ?_
      obtain ⟨r3, hv2, h⟩ := bnd_s h
      refine Ev.callV1 (mc1 := mc) (ms1 := ms) (v := vi r3) (h1 := hq D x) vX8_194 (c_X8_isAlive Θ D z _ _ _ _ hv2) rfl rfl (by decide) rfl ⟨by decide, by decide, Nat.le_of_eq (Nat.zero_add _), Nat.le_of_eq (Nat.zero_add _), Nat.le_of_ble_eq_true rfl⟩ ⟨dX8_childWith_14, rfl⟩ ?_
      clear hv2
      refine Ev.if_eq jX8_childWith_17 (fun hc => ?_) (fun hc => ?_)
      · replace h := (if_pos hc).symm.trans h; clear hc
        obtain ⟨c4, h⟩ := ckR_s h
        refine Ev.iinc (q := 3) (ls' := [(0, _), (1, _), (2, _), (3, _)]) ⟨dX8_childWith_48, rfl⟩ rfl (by decide) c4 rfl ?_
        refine Ev.goto jX8_childWith_51 ?_
        exact ih _ _ h k1 k2
      · replace h := (if_neg hc).symm.trans h; clear hc
        refine Ev.aload_n (q := 0) ⟨dX8_childWith_20, rfl⟩ rfl rfl ?_
        refine Ev.getRk (C2 := 27) (r := 0) fX8_13 rfl (by decide) (by decide) ⟨dX8_childWith_21, rfl⟩ ?_
        refine Ev.bipush ⟨dX8_childWith_24, rfl⟩ (inRd rfl) (by decide) ?_
        refine Ev.iload_n (q := 3) ⟨dX8_childWith_26, rfl⟩ rfl rfl ?_
        obtain ⟨c5, h⟩ := ckR_s h
        refine Ev.iadd ⟨dX8_childWith_27, rfl⟩ c5 ?_
        obtain ⟨c6, h⟩ := ckI_s h
        refine Ev.iaload (by decide) c6.1 c6.2 ⟨dX8_childWith_28, rfl⟩ ?_
        refine Ev.iload_n (q := 1) ⟨dX8_childWith_29, rfl⟩ rfl rfl ?_
        refine Ev.icmp_ne jX8_childWith_30 (fun hc => ?_) (fun hc => ?_)
        · replace h := (if_neg hc).symm.trans h; clear hc
          obtain ⟨c7, h⟩ := ckR_s h
          refine Ev.iinc (q := 3) (ls' := [(0, _), (1, _), (2, _), (3, _)]) ⟨dX8_childWith_48, rfl⟩ rfl (by decide) c7 rfl ?_
          refine Ev.goto jX8_childWith_51 ?_
          exact ih _ _ h k1 k2
        · replace h := (if_pos hc).symm.trans h; clear hc
          refine Ev.aload_n (q := 0) ⟨dX8_childWith_33, rfl⟩ rfl rfl ?_
          refine Ev.getRk (C2 := 27) (r := 0) fX8_13 rfl (by decide) (by decide) ⟨dX8_childWith_34, rfl⟩ ?_
          refine Ev.bipush ⟨dX8_childWith_37, rfl⟩ (inRd rfl) (by decide) ?_
          refine Ev.iload_n (q := 3) ⟨dX8_childWith_39, rfl⟩ rfl rfl ?_
          obtain ⟨c8, h⟩ := ckR_s h
          refine Ev.iadd ⟨dX8_childWith_40, rfl⟩ c8 ?_
          obtain ⟨c9, h⟩ := ckI_s h
          refine Ev.iaload (by decide) c9.1 c9.2 ⟨dX8_childWith_41, rfl⟩ ?_
          refine Ev.iload_n (q := 2) ⟨dX8_childWith_42, rfl⟩ rfl rfl ?_
          refine Ev.icmp_ne jX8_childWith_43 (fun hc => ?_) (fun hc => ?_)
          · replace h := (if_neg hc).symm.trans h; clear hc
            obtain ⟨c10, h⟩ := ckR_s h
            refine Ev.iinc (q := 3) (ls' := [(0, _), (1, _), (2, _), (3, _)]) ⟨dX8_childWith_48, rfl⟩ rfl (by decide) c10 rfl ?_
            refine Ev.goto jX8_childWith_51 ?_
            exact ih _ _ h k1 k2
          · replace h := (if_pos hc).symm.trans h; clear hc
            refine Ev.iload_n (q := 3) ⟨dX8_childWith_46, rfl⟩ rfl rfl ?_
            obtain rfl := Option.some.inj h
            exact Ev.ireturn (ty := .int) ⟨dX8_childWith_47, rfl⟩ rfl rfl (k2 _ rfl)
def F_X8_childWith (z : Nat) (v0 : Nat) (v1 : Int) (v2 : Int) (x : Mm) : Option (Int) := bndE (fun r => r) (F_X8_childWith_2 z (v0) (v1) (v2) x z ((0 : Int))) fun s11 => some ((-1 : Int))
set_option maxHeartbeats 4000000 in
set_option maxRecDepth 20000 in
theorem c_X8_childWith (Θ : GC) (D : Nat → Nat → Prop) (z : Nat) (v0 : Nat) (v1 : Int) (v2 : Int) (x : Mm) (y) (h : F_X8_childWith z v0 v1 v2 x = some y) : Cal Θ mX8_childWith 1 21 0 0 [vr 8 (v0 + 1), vi (v1), vi (v2)] (hq D x) (Ret (vi y) (hq D x)) := by
  refine Cal.of (by decide +kernel) rfl rfl (Nat.le_of_ble_eq_true rfl) ?_
  show Ev Θ mX8_childWith 1 21 0 0 0 [(0, vr 8 (v0 + 1)), (1, vi (v1)), (2, vi (v2))] [] (hq D x) (Ret (vi y) (hq D x))
  unfold F_X8_childWith at h
  refine Ev.iconst ⟨dX8_childWith_0, rfl⟩ (inRd rfl) ?_
  refine Ev.istore_n (i := 3) (ls' := [(0, _), (1, _), (2, _), (3, _)]) ⟨dX8_childWith_1, rfl⟩ rfl (by decide) rfl ?_
  rcases bndE_s h with ⟨s11, hl, h⟩ | ⟨r1, hl, rfl⟩
  rotate_left
  · exact e_X8_childWith_2 Θ D z _ _ _ _ _ _ _ _ _ _ hl (fun s2 e2 => by cases e2) (fun r2 e2 => by cases e2; exact ⟨rfl, rfl⟩)
  refine e_X8_childWith_2 Θ D z _ _ _ _ _ _ _ _ _ _ hl (fun s2 e2 => ?_) (fun r2 e2 => by cases e2)
  cases e2
  clear hl
  refine Ev.iconst ⟨dX8_childWith_54, rfl⟩ (inRd rfl) ?_
  obtain rfl := Option.some.inj h
  exact Ev.ireturn (ty := .int) ⟨dX8_childWith_55, rfl⟩ rfl rfl ⟨rfl, rfl⟩

def F_X8_mergeAdded_79 (z : Nat) (v0 : Nat) (v1 : Int) (v2 : Int) : Nat → Int → Mm → Option (Mm)
  | 0, _, _ => none
  | k + 1, v3, x => if (6 : Int) ≤ v3 then (some (x)) else (ckR (((6 : Int) * v2)) <| ckR (((251 : Int) + ((6 : Int) * v2))) <| ckR ((((251 : Int) + ((6 : Int) * v2)) + v3)) <| (F_X8_fresh z (v0) (v1) (v2) (v3) x).bind fun r18 => ckI (((251 : Int) + ((6 : Int) * v2)) + v3) 5366 <| (some (wI x 27 0 ((((251 : Int) + ((6 : Int) * v2)) + v3)).toNat (r18))).bind fun x20 => ckR ((v3 + 1)) <| F_X8_mergeAdded_79 z v0 v1 v2 k ((v3 + 1)) x20)
set_option maxHeartbeats 4000000 in
set_option maxRecDepth 20000 in
theorem e_X8_mergeAdded_79 (Θ : GC) (D : Nat → Nat → Prop) (z : Nat) (v0 : Nat) (v1 : Int) (v2 : Int) (Q : Ro → Hp → Prop) (mc ms : Nat) : ∀ (k : Nat) (v3 : Int) (x : Mm) (y), F_X8_mergeAdded_79 z v0 v1 v2 k v3 x = some y → (Ev Θ mX8_mergeAdded 2 48 mc ms 113 [(0, vr 8 (v0 + 1)), (1, vi (v1)), (2, vi (v2))] [] (hq D y) Q) → Ev Θ mX8_mergeAdded 2 48 mc ms 79 [(0, vr 8 (v0 + 1)), (1, vi (v1)), (2, vi (v2)), (3, vi (v3))] [] (hq D x) Q := by
  intro k
  induction k with
  | zero => intro v3 x y h; exact absurd h (by unfold F_X8_mergeAdded_79; exact nofun)
  | succ k ih =>
    intro v3 x y h k1
    unfold F_X8_mergeAdded_79 at h
    refine Ev.iload_n (q := 3) ⟨dX8_mergeAdded_79, rfl⟩ rfl rfl ?_
    refine Ev.bipush ⟨dX8_mergeAdded_80, rfl⟩ (inRd rfl) (by decide) ?_
    refine Ev.icmp_ge jX8_mergeAdded_82 (fun hc => ?_) (fun hc => ?_)
    · replace h := (if_pos hc).symm.trans h; clear hc
      refine Ev.keep [0, 1, 2] rfl ?_
      obtain rfl := Option.some.inj h
      exact k1
    · replace h := (if_neg hc).symm.trans h; clear hc
      refine Ev.aload_n (q := 0) ⟨dX8_mergeAdded_85, rfl⟩ rfl rfl ?_
      refine Ev.getRk (C2 := 27) (r := 0) fX8_13 rfl (by decide) (by decide) ⟨dX8_mergeAdded_86, rfl⟩ ?_
      refine Ev.sipush ⟨dX8_mergeAdded_89, rfl⟩ (inRd rfl) (by decide) ?_
      refine Ev.bipush ⟨dX8_mergeAdded_92, rfl⟩ (inRd rfl) (by decide) ?_
      refine Ev.iload_n (q := 2) ⟨dX8_mergeAdded_94, rfl⟩ rfl rfl ?_
      obtain ⟨c14, h⟩ := ckR_s h
      refine Ev.imul ⟨dX8_mergeAdded_95, rfl⟩ c14 ?_
      obtain ⟨c15, h⟩ := ckR_s h
      refine Ev.iadd ⟨dX8_mergeAdded_96, rfl⟩ c15 ?_
      refine Ev.iload_n (q := 3) ⟨dX8_mergeAdded_97, rfl⟩ rfl rfl ?_
      obtain ⟨c16, h⟩ := ckR_s h
      refine Ev.iadd ⟨dX8_mergeAdded_98, rfl⟩ c16 ?_
      refine Ev.aload_n (q := 0) ⟨dX8_mergeAdded_99, rfl⟩ rfl rfl ?_
      refine Ev.iload_n (q := 1) ⟨dX8_mergeAdded_100, rfl⟩ rfl rfl ?_
      refine Ev.iload_n (q := 2) ⟨dX8_mergeAdded_101, rfl⟩ rfl rfl ?_
      refine Ev.iload_n (q := 3) ⟨dX8_mergeAdded_102, rfl⟩ rfl rfl ?_
      obtain ⟨r18, hv17, h⟩ := bnd_s h
      refine Ev.callV1 (mc1 := mc) (ms1 := ms) (v := vi r18) (h1 := hq D x) vX8_212 (c_X8_fresh Θ D z _ _ _ _ _ _ hv17) rfl rfl (by decide) rfl ⟨by decide, by decide, Nat.le_of_eq (Nat.zero_add _), Nat.le_of_eq (Nat.zero_add _), Nat.le_of_ble_eq_true rfl⟩ ⟨dX8_mergeAdded_103, rfl⟩ ?_
      clear hv17
      obtain ⟨c19, h⟩ := ckI_s h
      obtain ⟨x20, ex, h⟩ := bnd_s h
      refine Ev.iastore (by decide) c19.1 c19.2 ⟨dX8_mergeAdded_106, rfl⟩ ?_
      refine Ev.cast ?_ rfl rfl (hqI ex)
      clear ex
      obtain ⟨c21, h⟩ := ckR_s h
      refine Ev.iinc (q := 3) (ls' := [(0, _), (1, _), (2, _), (3, _)]) ⟨dX8_mergeAdded_107, rfl⟩ rfl (by decide) c21 rfl ?_
      refine Ev.goto jX8_mergeAdded_110 ?_
      exact ih _ _ _ h k1
def F_X8_mergeAdded (z : Nat) (v0 : Nat) (v1 : Int) (v2 : Int) (x : Mm) : Option (Mm) := ckR (((11 : Int) + v2)) <| ckI ((11 : Int) + v2) 5366 <| (F_X8_isAlive z (v0) ((x.1 27 0 (((11 : Int) + v2)).toNat)) x).bind fun r4 => if r4 = 0 then ((F_X8_object z (v0) ((2 : Int)) (v2) ((-1 : Int)) ((0 : Int)) (v1) x).bind fun r26 => some (r26)) else (ckR (((11 : Int) + v2)) <| ckI ((11 : Int) + v2) 5366 <| ckR (((71 : Int) + v2)) <| ckI ((71 : Int) + v2) 5366 <| (F_X8_childWith z (v0) ((x.1 27 0 (((11 : Int) + v2)).toNat)) ((x.1 27 0 (((71 : Int) + v2)).toNat)) x).bind fun r10 => if r10 = (-1 : Int) then (ckR (((191 : Int) + v2)) <| ckI ((191 : Int) + v2) 5366 <| (some (wI x 27 0 (((191 : Int) + v2)).toNat ((1 : Int)))).bind fun x13 => (F_X8_mergeAdded_79 z (v0) (v1) (v2) z ((0 : Int)) x13).bind fun s22 => some (s22)) else ((F_X8_object z (v0) ((3 : Int)) (v2) ((-1 : Int)) ((0 : Int)) (v1) x).bind fun r24 => some (r24)))
set_option maxHeartbeats 4000000 in
set_option maxRecDepth 20000 in
theorem c_X8_mergeAdded (Θ : GC) (D : Nat → Nat → Prop) (z : Nat) (v0 : Nat) (v1 : Int) (v2 : Int) (x : Mm) (y) (h : F_X8_mergeAdded z v0 v1 v2 x = some y) : Cal Θ mX8_mergeAdded 2 48 0 0 [vr 8 (v0 + 1), vi (v1), vi (v2)] (hq D x) (RetN (hq D y)) := by
  refine Cal.of (by decide +kernel) rfl rfl (Nat.le_of_ble_eq_true rfl) ?_
  show Ev Θ mX8_mergeAdded 2 48 0 0 0 [(0, vr 8 (v0 + 1)), (1, vi (v1)), (2, vi (v2))] [] (hq D x) (RetN (hq D y))
  unfold F_X8_mergeAdded at h
  refine Ev.aload_n (q := 0) ⟨dX8_mergeAdded_0, rfl⟩ rfl rfl ?_
  refine Ev.aload_n (q := 0) ⟨dX8_mergeAdded_1, rfl⟩ rfl rfl ?_
  refine Ev.getRk (C2 := 27) (r := 0) fX8_13 rfl (by decide) (by decide) ⟨dX8_mergeAdded_2, rfl⟩ ?_
  refine Ev.bipush ⟨dX8_mergeAdded_5, rfl⟩ (inRd rfl) (by decide) ?_
  refine Ev.iload_n (q := 2) ⟨dX8_mergeAdded_7, rfl⟩ rfl rfl ?_
  obtain ⟨c1, h⟩ := ckR_s h
  refine Ev.iadd ⟨dX8_mergeAdded_8, rfl⟩ c1 ?_
  obtain ⟨c2, h⟩ := ckI_s h
  refine Ev.iaload (by decide) c2.1 c2.2 ⟨dX8_mergeAdded_9, rfl⟩ ?_
  obtain ⟨r4, hv3, h⟩ := bnd_s h
  refine Ev.callV1 (mc1 := 0) (ms1 := 0) (v := vi r4) (h1 := hq D x) vX8_194 (c_X8_isAlive Θ D z _ _ _ _ hv3) rfl rfl (by decide) rfl ⟨by decide, by decide, Nat.le_of_eq (Nat.zero_add _), Nat.le_of_eq (Nat.zero_add _), Nat.le_of_ble_eq_true rfl⟩ ⟨dX8_mergeAdded_10, rfl⟩ ?_
  clear hv3
  refine Ev.if_ne jX8_mergeAdded_13 (fun hc => ?_) (fun hc => ?_)
  · replace h := (if_neg hc).symm.trans h; clear hc
    refine Ev.aload_n (q := 0) ⟨dX8_mergeAdded_28, rfl⟩ rfl rfl ?_
    refine Ev.aload_n (q := 0) ⟨dX8_mergeAdded_29, rfl⟩ rfl rfl ?_
    refine Ev.getRk (C2 := 27) (r := 0) fX8_13 rfl (by decide) (by decide) ⟨dX8_mergeAdded_30, rfl⟩ ?_
    refine Ev.bipush ⟨dX8_mergeAdded_33, rfl⟩ (inRd rfl) (by decide) ?_
    refine Ev.iload_n (q := 2) ⟨dX8_mergeAdded_35, rfl⟩ rfl rfl ?_
    obtain ⟨c5, h⟩ := ckR_s h
    refine Ev.iadd ⟨dX8_mergeAdded_36, rfl⟩ c5 ?_
    obtain ⟨c6, h⟩ := ckI_s h
    refine Ev.iaload (by decide) c6.1 c6.2 ⟨dX8_mergeAdded_37, rfl⟩ ?_
    refine Ev.aload_n (q := 0) ⟨dX8_mergeAdded_38, rfl⟩ rfl rfl ?_
    refine Ev.getRk (C2 := 27) (r := 0) fX8_13 rfl (by decide) (by decide) ⟨dX8_mergeAdded_39, rfl⟩ ?_
    refine Ev.bipush ⟨dX8_mergeAdded_42, rfl⟩ (inRd rfl) (by decide) ?_
    refine Ev.iload_n (q := 2) ⟨dX8_mergeAdded_44, rfl⟩ rfl rfl ?_
    obtain ⟨c7, h⟩ := ckR_s h
    refine Ev.iadd ⟨dX8_mergeAdded_45, rfl⟩ c7 ?_
    obtain ⟨c8, h⟩ := ckI_s h
    refine Ev.iaload (by decide) c8.1 c8.2 ⟨dX8_mergeAdded_46, rfl⟩ ?_
    obtain ⟨r10, hv9, h⟩ := bnd_s h
    refine Ev.callV1 (mc1 := 0) (ms1 := 0) (v := vi r10) (h1 := hq D x) vX8_238 (c_X8_childWith Θ D z _ _ _ _ _ hv9) rfl rfl (by decide) rfl ⟨by decide, by decide, Nat.le_of_eq (Nat.zero_add _), Nat.le_of_eq (Nat.zero_add _), Nat.le_of_ble_eq_true rfl⟩ ⟨dX8_mergeAdded_47, rfl⟩ ?_
    clear hv9
    refine Ev.iconst ⟨dX8_mergeAdded_50, rfl⟩ (inRd rfl) ?_
    refine Ev.icmp_eq jX8_mergeAdded_51 (fun hc => ?_) (fun hc => ?_)
    · replace h := (if_pos hc).symm.trans h; clear hc
      refine Ev.aload_n (q := 0) ⟨dX8_mergeAdded_66, rfl⟩ rfl rfl ?_
      refine Ev.getRk (C2 := 27) (r := 0) fX8_13 rfl (by decide) (by decide) ⟨dX8_mergeAdded_67, rfl⟩ ?_
      refine Ev.sipush ⟨dX8_mergeAdded_70, rfl⟩ (inRd rfl) (by decide) ?_
      refine Ev.iload_n (q := 2) ⟨dX8_mergeAdded_73, rfl⟩ rfl rfl ?_
      obtain ⟨c11, h⟩ := ckR_s h
      refine Ev.iadd ⟨dX8_mergeAdded_74, rfl⟩ c11 ?_
      refine Ev.iconst ⟨dX8_mergeAdded_75, rfl⟩ (inRd rfl) ?_
      obtain ⟨c12, h⟩ := ckI_s h
      obtain ⟨x13, ex, h⟩ := bnd_s h
      refine Ev.iastore (by decide) c12.1 c12.2 ⟨dX8_mergeAdded_76, rfl⟩ ?_
      refine Ev.cast ?_ rfl rfl (hqI ex)
      clear ex
      refine Ev.iconst ⟨dX8_mergeAdded_77, rfl⟩ (inRd rfl) ?_
      refine Ev.istore_n (i := 3) (ls' := [(0, _), (1, _), (2, _), (3, _)]) ⟨dX8_mergeAdded_78, rfl⟩ rfl (by decide) rfl ?_
      obtain ⟨s22, hl, h⟩ := bnd_s h
      refine e_X8_mergeAdded_79 Θ D z _ _ _ _ _ _ _ _ _ _ hl ?_
      clear hl
      obtain rfl := Option.some.inj h
      exact Ev.ret ⟨dX8_mergeAdded_113, rfl⟩ rfl ⟨rfl, rfl⟩
    · replace h := (if_neg hc).symm.trans h; clear hc
      refine Ev.aload_n (q := 0) ⟨dX8_mergeAdded_54, rfl⟩ rfl rfl ?_
      refine Ev.iconst ⟨dX8_mergeAdded_55, rfl⟩ (inRd rfl) ?_
      refine Ev.iload_n (q := 2) ⟨dX8_mergeAdded_56, rfl⟩ rfl rfl ?_
      refine Ev.iconst ⟨dX8_mergeAdded_57, rfl⟩ (inRd rfl) ?_
      refine Ev.iconst ⟨dX8_mergeAdded_58, rfl⟩ (inRd rfl) ?_
      refine Ev.iload_n (q := 1) ⟨dX8_mergeAdded_59, rfl⟩ rfl rfl ?_
      obtain ⟨r24, hv23, h⟩ := bnd_s h
      refine Ev.callVN (mc1 := 0) (ms1 := 0) (h1 := hq D r24) vX8_234 (c_X8_object Θ D z _ _ _ _ _ _ _ _ hv23) rfl rfl (by decide) rfl ⟨by decide, by decide, Nat.le_of_eq (Nat.zero_add _), Nat.le_of_eq (Nat.zero_add _), Nat.le_of_ble_eq_true rfl⟩ ⟨dX8_mergeAdded_60, rfl⟩ ?_
      clear hv23
      refine Ev.goto jX8_mergeAdded_63 ?_
      obtain rfl := Option.some.inj h
      exact Ev.ret ⟨dX8_mergeAdded_113, rfl⟩ rfl ⟨rfl, rfl⟩
  · replace h := (if_pos hc).symm.trans h; clear hc
    refine Ev.aload_n (q := 0) ⟨dX8_mergeAdded_16, rfl⟩ rfl rfl ?_
    refine Ev.iconst ⟨dX8_mergeAdded_17, rfl⟩ (inRd rfl) ?_
    refine Ev.iload_n (q := 2) ⟨dX8_mergeAdded_18, rfl⟩ rfl rfl ?_
    refine Ev.iconst ⟨dX8_mergeAdded_19, rfl⟩ (inRd rfl) ?_
    refine Ev.iconst ⟨dX8_mergeAdded_20, rfl⟩ (inRd rfl) ?_
    refine Ev.iload_n (q := 1) ⟨dX8_mergeAdded_21, rfl⟩ rfl rfl ?_
    obtain ⟨r26, hv25, h⟩ := bnd_s h
    refine Ev.callVN (mc1 := 0) (ms1 := 0) (h1 := hq D r26) vX8_234 (c_X8_object Θ D z _ _ _ _ _ _ _ _ hv25) rfl rfl (by decide) rfl ⟨by decide, by decide, Nat.le_of_eq (Nat.zero_add _), Nat.le_of_eq (Nat.zero_add _), Nat.le_of_ble_eq_true rfl⟩ ⟨dX8_mergeAdded_22, rfl⟩ ?_
    clear hv25
    refine Ev.goto jX8_mergeAdded_25 ?_
    obtain rfl := Option.some.inj h
    exact Ev.ret ⟨dX8_mergeAdded_113, rfl⟩ rfl ⟨rfl, rfl⟩

def F_X8_mergeField (z : Nat) (v0 : Nat) (v1 : Int) (v2 : Int) (v3 : Int) (x : Mm) : Option (Mm) := (F_X8_old z (v0) (v1) (v2) (v3) x).bind fun r2 => (F_X8_fresh z (v0) (v1) (v2) (v3) x).bind fun r4 => (F_X8_value z (v0) (v2) (v3) x).bind fun r6 => ckR (((6 : Int) * v2)) <| ckR (((251 : Int) + ((6 : Int) * v2))) <| ckR ((((251 : Int) + ((6 : Int) * v2)) + v3)) <| ckR (((5 : Int) + v3)) <| ckI ((5 : Int) + v3) 5366 <| if (x.1 27 0 (((5 : Int) + v3)).toNat) = 0 then (ckI (((251 : Int) + ((6 : Int) * v2)) + v3) 5366 <| (some (wI x 27 0 ((((251 : Int) + ((6 : Int) * v2)) + v3)).toNat (((if (if (((BitVec.ofInt 64 r6) + (BitVec.ofInt 64 r4)) - (BitVec.ofInt 64 r2)).toInt < (BitVec.ofInt 64 (1000000000)).toInt then (((BitVec.ofInt 64 r6) + (BitVec.ofInt 64 r4)) - (BitVec.ofInt 64 r2)) else (BitVec.ofInt 64 (1000000000))).toInt < (BitVec.ofInt 64 (-1000000000)).toInt then (BitVec.ofInt 64 (-1000000000)) else (if (((BitVec.ofInt 64 r6) + (BitVec.ofInt 64 r4)) - (BitVec.ofInt 64 r2)).toInt < (BitVec.ofInt 64 (1000000000)).toInt then (((BitVec.ofInt 64 r6) + (BitVec.ofInt 64 r4)) - (BitVec.ofInt 64 r2)) else (BitVec.ofInt 64 (1000000000)))).setWidth 32).toInt))).bind fun x13 => some (x13)) else if (x.1 27 0 (((5 : Int) + v3)).toNat) = 1 then (ckI (((251 : Int) + ((6 : Int) * v2)) + v3) 5366 <| (some (wI x 27 0 ((((251 : Int) + ((6 : Int) * v2)) + v3)).toNat ((max r6 r4)))).bind fun x15 => some (x15)) else if (x.1 27 0 (((5 : Int) + v3)).toNat) = 2 then (ckI (((251 : Int) + ((6 : Int) * v2)) + v3) 5366 <| (some (wI x 27 0 ((((251 : Int) + ((6 : Int) * v2)) + v3)).toNat ((min r6 r4)))).bind fun x17 => some (x17)) else if (x.1 27 0 (((5 : Int) + v3)).toNat) = 3 then (ckI (((251 : Int) + ((6 : Int) * v2)) + v3) 5366 <| (some (wI x 27 0 ((((251 : Int) + ((6 : Int) * v2)) + v3)).toNat ((bior (biand r6 (bixor (biand r2 (bixor r4 (-1 : Int))) (-1 : Int))) (biand r4 (bixor r2 (-1 : Int))))))).bind fun x19 => some (x19)) else if (x.1 27 0 (((5 : Int) + v3)).toNat) = 4 then (if r6 = r2 then (ckI (((251 : Int) + ((6 : Int) * v2)) + v3) 5366 <| (some (wI x 27 0 ((((251 : Int) + ((6 : Int) * v2)) + v3)).toNat (r4))).bind fun x23 => some (x23)) else (if r6 = r4 then (some (x)) else ((F_X8_object z (v0) ((0 : Int)) (v2) (v3) (r4) (v1) x).bind fun r21 => some (r21)))) else (ckI (((251 : Int) + ((6 : Int) * v2)) + v3) 5366 <| (some (wI x 27 0 ((((251 : Int) + ((6 : Int) * v2)) + v3)).toNat (r4))).bind fun x25 => some (x25))
set_option maxHeartbeats 4000000 in
set_option maxRecDepth 20000 in
theorem c_X8_mergeField (Θ : GC) (D : Nat → Nat → Prop) (z : Nat) (v0 : Nat) (v1 : Int) (v2 : Int) (v3 : Int) (x : Mm) (y) (h : F_X8_mergeField z v0 v1 v2 v3 x = some y) : Cal Θ mX8_mergeField 2 48 0 0 [vr 8 (v0 + 1), vi (v1), vi (v2), vi (v3)] (hq D x) (RetN (hq D y)) := by
  refine Cal.of (by decide +kernel) rfl rfl (Nat.le_of_ble_eq_true rfl) ?_
  show Ev Θ mX8_mergeField 2 48 0 0 0 [(0, vr 8 (v0 + 1)), (1, vi (v1)), (2, vi (v2)), (3, vi (v3))] [] (hq D x) (RetN (hq D y))
  unfold F_X8_mergeField at h
  refine Ev.aload_n (q := 0) ⟨dX8_mergeField_0, rfl⟩ rfl rfl ?_
  refine Ev.iload_n (q := 1) ⟨dX8_mergeField_1, rfl⟩ rfl rfl ?_
  refine Ev.iload_n (q := 2) ⟨dX8_mergeField_2, rfl⟩ rfl rfl ?_
  refine Ev.iload_n (q := 3) ⟨dX8_mergeField_3, rfl⟩ rfl rfl ?_
  obtain ⟨r2, hv1, h⟩ := bnd_s h
  refine Ev.callV1 (mc1 := 0) (ms1 := 0) (v := vi r2) (h1 := hq D x) vX8_218 (c_X8_old Θ D z _ _ _ _ _ _ hv1) rfl rfl (by decide) rfl ⟨by decide, by decide, Nat.le_of_eq (Nat.zero_add _), Nat.le_of_eq (Nat.zero_add _), Nat.le_of_ble_eq_true rfl⟩ ⟨dX8_mergeField_4, rfl⟩ ?_
  clear hv1
  refine Ev.istore (i := 4) (ls' := [(0, _), (1, _), (2, _), (3, _), (4, _)]) ⟨dX8_mergeField_7, rfl⟩ (by decide) rfl ?_
  refine Ev.aload_n (q := 0) ⟨dX8_mergeField_9, rfl⟩ rfl rfl ?_
  refine Ev.iload_n (q := 1) ⟨dX8_mergeField_10, rfl⟩ rfl rfl ?_
  refine Ev.iload_n (q := 2) ⟨dX8_mergeField_11, rfl⟩ rfl rfl ?_
  refine Ev.iload_n (q := 3) ⟨dX8_mergeField_12, rfl⟩ rfl rfl ?_
  obtain ⟨r4, hv3, h⟩ := bnd_s h
  refine Ev.callV1 (mc1 := 0) (ms1 := 0) (v := vi r4) (h1 := hq D x) vX8_212 (c_X8_fresh Θ D z _ _ _ _ _ _ hv3) rfl rfl (by decide) rfl ⟨by decide, by decide, Nat.le_of_eq (Nat.zero_add _), Nat.le_of_eq (Nat.zero_add _), Nat.le_of_ble_eq_true rfl⟩ ⟨dX8_mergeField_13, rfl⟩ ?_
  clear hv3
  refine Ev.istore (i := 5) (ls' := [(0, _), (1, _), (2, _), (3, _), (4, _), (5, _)]) ⟨dX8_mergeField_16, rfl⟩ (by decide) rfl ?_
  refine Ev.aload_n (q := 0) ⟨dX8_mergeField_18, rfl⟩ rfl rfl ?_
  refine Ev.iload_n (q := 2) ⟨dX8_mergeField_19, rfl⟩ rfl rfl ?_
  refine Ev.iload_n (q := 3) ⟨dX8_mergeField_20, rfl⟩ rfl rfl ?_
  obtain ⟨r6, hv5, h⟩ := bnd_s h
  refine Ev.callV1 (mc1 := 0) (ms1 := 0) (v := vi r6) (h1 := hq D x) vX8_203 (c_X8_value Θ D z _ _ _ _ _ hv5) rfl rfl (by decide) rfl ⟨by decide, by decide, Nat.le_of_eq (Nat.zero_add _), Nat.le_of_eq (Nat.zero_add _), Nat.le_of_ble_eq_true rfl⟩ ⟨dX8_mergeField_21, rfl⟩ ?_
  clear hv5
  refine Ev.istore (i := 6) (ls' := [(0, _), (1, _), (2, _), (3, _), (4, _), (5, _), (6, _)]) ⟨dX8_mergeField_24, rfl⟩ (by decide) rfl ?_
  refine Ev.sipush ⟨dX8_mergeField_26, rfl⟩ (inRd rfl) (by decide) ?_
  refine Ev.bipush ⟨dX8_mergeField_29, rfl⟩ (inRd rfl) (by decide) ?_
  refine Ev.iload_n (q := 2) ⟨dX8_mergeField_31, rfl⟩ rfl rfl ?_
  obtain ⟨c7, h⟩ := ckR_s h
  refine Ev.imul ⟨dX8_mergeField_32, rfl⟩ c7 ?_
  obtain ⟨c8, h⟩ := ckR_s h
  refine Ev.iadd ⟨dX8_mergeField_33, rfl⟩ c8 ?_
  refine Ev.iload_n (q := 3) ⟨dX8_mergeField_34, rfl⟩ rfl rfl ?_
  obtain ⟨c9, h⟩ := ckR_s h
  refine Ev.iadd ⟨dX8_mergeField_35, rfl⟩ c9 ?_
  refine Ev.istore (i := 7) (ls' := [(0, _), (1, _), (2, _), (3, _), (4, _), (5, _), (6, _), (7, _)]) ⟨dX8_mergeField_36, rfl⟩ (by decide) rfl ?_
  refine Ev.aload_n (q := 0) ⟨dX8_mergeField_38, rfl⟩ rfl rfl ?_
  refine Ev.getRk (C2 := 27) (r := 0) fX8_13 rfl (by decide) (by decide) ⟨dX8_mergeField_39, rfl⟩ ?_
  refine Ev.iconst ⟨dX8_mergeField_42, rfl⟩ (inRd rfl) ?_
  refine Ev.iload_n (q := 3) ⟨dX8_mergeField_43, rfl⟩ rfl rfl ?_
  obtain ⟨c10, h⟩ := ckR_s h
  refine Ev.iadd ⟨dX8_mergeField_44, rfl⟩ c10 ?_
  obtain ⟨c11, h⟩ := ckI_s h
  refine Ev.iaload (by decide) c11.1 c11.2 ⟨dX8_mergeField_45, rfl⟩ ?_
  show Ev _ _ _ _ _ _ _ _ (vi ((x.1 27 0 (((5 : Int) + v3)).toNat)) :: _) _ _
  by_cases hk : (x.1 27 0 (((5 : Int) + v3)).toNat) = 0
  · replace h := (if_pos hk).symm.trans h
    refine Ev.tswIn (tg := 80) (off := 34) dX8_mergeField_46 (by omega) (by omega) (by rw [hk]; rfl) (by decide) ?_
    clear hk
    refine Ev.aload_n (q := 0) ⟨dX8_mergeField_80, rfl⟩ rfl rfl ?_
    refine Ev.getRk (C2 := 27) (r := 0) fX8_13 rfl (by decide) (by decide) ⟨dX8_mergeField_81, rfl⟩ ?_
    refine Ev.iload (q := 7) ⟨dX8_mergeField_84, rfl⟩ rfl ?_
    refine Ev.ldc2 (b := BitVec.ofInt 64 (-1000000000)) ⟨dX8_mergeField_86, rfl⟩ wX8_241 ?_
    refine Ev.ldc2 (b := BitVec.ofInt 64 (1000000000)) ⟨dX8_mergeField_89, rfl⟩ wX8_243 ?_
    refine Ev.iload (q := 6) ⟨dX8_mergeField_92, rfl⟩ rfl ?_
    refine Ev.i2l ⟨dX8_mergeField_94, rfl⟩ ?_
    refine Ev.iload (q := 5) ⟨dX8_mergeField_95, rfl⟩ rfl ?_
    refine Ev.i2l ⟨dX8_mergeField_97, rfl⟩ ?_
    refine Ev.ladd ⟨dX8_mergeField_98, rfl⟩ ?_
    refine Ev.iload (q := 4) ⟨dX8_mergeField_99, rfl⟩ rfl ?_
    refine Ev.i2l ⟨dX8_mergeField_101, rfl⟩ ?_
    refine Ev.lsub ⟨dX8_mergeField_102, rfl⟩ ?_
    refine Ev.lmin qX8_245 (by decide) (Nat.le_of_ble_eq_true rfl) ⟨dX8_mergeField_103, rfl⟩ ?_
    refine Ev.lmax qX8_248 (by decide) (Nat.le_of_ble_eq_true rfl) ⟨dX8_mergeField_106, rfl⟩ ?_
    refine Ev.l2i ⟨dX8_mergeField_109, rfl⟩ ?_
    obtain ⟨c12, h⟩ := ckI_s h
    obtain ⟨x13, ex, h⟩ := bnd_s h
    refine Ev.iastore (by decide) c12.1 c12.2 ⟨dX8_mergeField_110, rfl⟩ ?_
    refine Ev.cast ?_ rfl rfl (hqI ex)
    clear ex
    refine Ev.goto jX8_mergeField_111 ?_
    obtain rfl := Option.some.inj h
    exact Ev.ret ⟨dX8_mergeField_226, rfl⟩ rfl ⟨rfl, rfl⟩
  replace h := (if_neg hk).symm.trans h
  have hn0 := hk; clear hk
  by_cases hk : (x.1 27 0 (((5 : Int) + v3)).toNat) = 1
  · replace h := (if_pos hk).symm.trans h
    refine Ev.tswIn (tg := 114) (off := 68) dX8_mergeField_46 (by omega) (by omega) (by rw [hk]; rfl) (by decide) ?_
    clear hk
    refine Ev.aload_n (q := 0) ⟨dX8_mergeField_114, rfl⟩ rfl rfl ?_
    refine Ev.getRk (C2 := 27) (r := 0) fX8_13 rfl (by decide) (by decide) ⟨dX8_mergeField_115, rfl⟩ ?_
    refine Ev.iload (q := 7) ⟨dX8_mergeField_118, rfl⟩ rfl ?_
    refine Ev.iload (q := 6) ⟨dX8_mergeField_120, rfl⟩ rfl ?_
    refine Ev.iload (q := 5) ⟨dX8_mergeField_122, rfl⟩ rfl ?_
    refine Ev.mmax qX8_250 (by decide) (Nat.le_of_ble_eq_true rfl) ⟨dX8_mergeField_124, rfl⟩ ?_
    obtain ⟨c14, h⟩ := ckI_s h
    obtain ⟨x15, ex, h⟩ := bnd_s h
    refine Ev.iastore (by decide) c14.1 c14.2 ⟨dX8_mergeField_127, rfl⟩ ?_
    refine Ev.cast ?_ rfl rfl (hqI ex)
    clear ex
    refine Ev.goto jX8_mergeField_128 ?_
    obtain rfl := Option.some.inj h
    exact Ev.ret ⟨dX8_mergeField_226, rfl⟩ rfl ⟨rfl, rfl⟩
  replace h := (if_neg hk).symm.trans h
  have hn1 := hk; clear hk
  by_cases hk : (x.1 27 0 (((5 : Int) + v3)).toNat) = 2
  · replace h := (if_pos hk).symm.trans h
    refine Ev.tswIn (tg := 131) (off := 85) dX8_mergeField_46 (by omega) (by omega) (by rw [hk]; rfl) (by decide) ?_
    clear hk
    refine Ev.aload_n (q := 0) ⟨dX8_mergeField_131, rfl⟩ rfl rfl ?_
    refine Ev.getRk (C2 := 27) (r := 0) fX8_13 rfl (by decide) (by decide) ⟨dX8_mergeField_132, rfl⟩ ?_
    refine Ev.iload (q := 7) ⟨dX8_mergeField_135, rfl⟩ rfl ?_
    refine Ev.iload (q := 6) ⟨dX8_mergeField_137, rfl⟩ rfl ?_
    refine Ev.iload (q := 5) ⟨dX8_mergeField_139, rfl⟩ rfl ?_
    refine Ev.mmin qX8_81 (by decide) (Nat.le_of_ble_eq_true rfl) ⟨dX8_mergeField_141, rfl⟩ ?_
    obtain ⟨c16, h⟩ := ckI_s h
    obtain ⟨x17, ex, h⟩ := bnd_s h
    refine Ev.iastore (by decide) c16.1 c16.2 ⟨dX8_mergeField_144, rfl⟩ ?_
    refine Ev.cast ?_ rfl rfl (hqI ex)
    clear ex
    refine Ev.goto jX8_mergeField_145 ?_
    obtain rfl := Option.some.inj h
    exact Ev.ret ⟨dX8_mergeField_226, rfl⟩ rfl ⟨rfl, rfl⟩
  replace h := (if_neg hk).symm.trans h
  have hn2 := hk; clear hk
  by_cases hk : (x.1 27 0 (((5 : Int) + v3)).toNat) = 3
  · replace h := (if_pos hk).symm.trans h
    refine Ev.tswIn (tg := 148) (off := 102) dX8_mergeField_46 (by omega) (by omega) (by rw [hk]; rfl) (by decide) ?_
    clear hk
    refine Ev.aload_n (q := 0) ⟨dX8_mergeField_148, rfl⟩ rfl rfl ?_
    refine Ev.getRk (C2 := 27) (r := 0) fX8_13 rfl (by decide) (by decide) ⟨dX8_mergeField_149, rfl⟩ ?_
    refine Ev.iload (q := 7) ⟨dX8_mergeField_152, rfl⟩ rfl ?_
    refine Ev.iload (q := 6) ⟨dX8_mergeField_154, rfl⟩ rfl ?_
    refine Ev.iload (q := 4) ⟨dX8_mergeField_156, rfl⟩ rfl ?_
    refine Ev.iload (q := 5) ⟨dX8_mergeField_158, rfl⟩ rfl ?_
    refine Ev.iconst ⟨dX8_mergeField_160, rfl⟩ (inRd rfl) ?_
    refine Ev.ixor ⟨dX8_mergeField_161, rfl⟩ ?_
    refine Ev.iand ⟨dX8_mergeField_162, rfl⟩ ?_
    refine Ev.iconst ⟨dX8_mergeField_163, rfl⟩ (inRd rfl) ?_
    refine Ev.ixor ⟨dX8_mergeField_164, rfl⟩ ?_
    refine Ev.iand ⟨dX8_mergeField_165, rfl⟩ ?_
    refine Ev.iload (q := 5) ⟨dX8_mergeField_166, rfl⟩ rfl ?_
    refine Ev.iload (q := 4) ⟨dX8_mergeField_168, rfl⟩ rfl ?_
    refine Ev.iconst ⟨dX8_mergeField_170, rfl⟩ (inRd rfl) ?_
    refine Ev.ixor ⟨dX8_mergeField_171, rfl⟩ ?_
    refine Ev.iand ⟨dX8_mergeField_172, rfl⟩ ?_
    refine Ev.ior ⟨dX8_mergeField_173, rfl⟩ ?_
    obtain ⟨c18, h⟩ := ckI_s h
    obtain ⟨x19, ex, h⟩ := bnd_s h
    refine Ev.iastore (by decide) c18.1 c18.2 ⟨dX8_mergeField_174, rfl⟩ ?_
    refine Ev.cast ?_ rfl rfl (hqI ex)
    clear ex
    refine Ev.goto jX8_mergeField_175 ?_
    obtain rfl := Option.some.inj h
    exact Ev.ret ⟨dX8_mergeField_226, rfl⟩ rfl ⟨rfl, rfl⟩
  replace h := (if_neg hk).symm.trans h
  have hn3 := hk; clear hk
  by_cases hk : (x.1 27 0 (((5 : Int) + v3)).toNat) = 4
  · replace h := (if_pos hk).symm.trans h
    refine Ev.tswIn (tg := 178) (off := 132) dX8_mergeField_46 (by omega) (by omega) (by rw [hk]; rfl) (by decide) ?_
    clear hk
    refine Ev.iload (q := 6) ⟨dX8_mergeField_178, rfl⟩ rfl ?_
    refine Ev.iload (q := 4) ⟨dX8_mergeField_180, rfl⟩ rfl ?_
    refine Ev.icmp_ne jX8_mergeField_182 (fun hc => ?_) (fun hc => ?_)
    · replace h := (if_neg hc).symm.trans h; clear hc
      refine Ev.iload (q := 6) ⟨dX8_mergeField_197, rfl⟩ rfl ?_
      refine Ev.iload (q := 5) ⟨dX8_mergeField_199, rfl⟩ rfl ?_
      refine Ev.icmp_eq jX8_mergeField_201 (fun hc => ?_) (fun hc => ?_)
      · replace h := (if_pos hc).symm.trans h; clear hc
        obtain rfl := Option.some.inj h
        exact Ev.ret ⟨dX8_mergeField_226, rfl⟩ rfl ⟨rfl, rfl⟩
      · replace h := (if_neg hc).symm.trans h; clear hc
        refine Ev.aload_n (q := 0) ⟨dX8_mergeField_204, rfl⟩ rfl rfl ?_
        refine Ev.iconst ⟨dX8_mergeField_205, rfl⟩ (inRd rfl) ?_
        refine Ev.iload_n (q := 2) ⟨dX8_mergeField_206, rfl⟩ rfl rfl ?_
        refine Ev.iload_n (q := 3) ⟨dX8_mergeField_207, rfl⟩ rfl rfl ?_
        refine Ev.iload (q := 5) ⟨dX8_mergeField_208, rfl⟩ rfl ?_
        refine Ev.iload_n (q := 1) ⟨dX8_mergeField_210, rfl⟩ rfl rfl ?_
        obtain ⟨r21, hv20, h⟩ := bnd_s h
        refine Ev.callVN (mc1 := 0) (ms1 := 0) (h1 := hq D r21) vX8_234 (c_X8_object Θ D z _ _ _ _ _ _ _ _ hv20) rfl rfl (by decide) rfl ⟨by decide, by decide, Nat.le_of_eq (Nat.zero_add _), Nat.le_of_eq (Nat.zero_add _), Nat.le_of_ble_eq_true rfl⟩ ⟨dX8_mergeField_211, rfl⟩ ?_
        clear hv20
        refine Ev.goto jX8_mergeField_214 ?_
        obtain rfl := Option.some.inj h
        exact Ev.ret ⟨dX8_mergeField_226, rfl⟩ rfl ⟨rfl, rfl⟩
    · replace h := (if_pos hc).symm.trans h; clear hc
      refine Ev.aload_n (q := 0) ⟨dX8_mergeField_185, rfl⟩ rfl rfl ?_
      refine Ev.getRk (C2 := 27) (r := 0) fX8_13 rfl (by decide) (by decide) ⟨dX8_mergeField_186, rfl⟩ ?_
      refine Ev.iload (q := 7) ⟨dX8_mergeField_189, rfl⟩ rfl ?_
      refine Ev.iload (q := 5) ⟨dX8_mergeField_191, rfl⟩ rfl ?_
      obtain ⟨c22, h⟩ := ckI_s h
      obtain ⟨x23, ex, h⟩ := bnd_s h
      refine Ev.iastore (by decide) c22.1 c22.2 ⟨dX8_mergeField_193, rfl⟩ ?_
      refine Ev.cast ?_ rfl rfl (hqI ex)
      clear ex
      refine Ev.goto jX8_mergeField_194 ?_
      obtain rfl := Option.some.inj h
      exact Ev.ret ⟨dX8_mergeField_226, rfl⟩ rfl ⟨rfl, rfl⟩
  replace h := (if_neg hk).symm.trans h
  have hn4 := hk; clear hk
  refine Ev.tswOut (tg := 217) dX8_mergeField_46 (by omega) (by decide) ?_
  clear hn0 hn1 hn2 hn3 hn4
  refine Ev.aload_n (q := 0) ⟨dX8_mergeField_217, rfl⟩ rfl rfl ?_
  refine Ev.getRk (C2 := 27) (r := 0) fX8_13 rfl (by decide) (by decide) ⟨dX8_mergeField_218, rfl⟩ ?_
  refine Ev.iload (q := 7) ⟨dX8_mergeField_221, rfl⟩ rfl ?_
  refine Ev.iload (q := 5) ⟨dX8_mergeField_223, rfl⟩ rfl ?_
  obtain ⟨c24, h⟩ := ckI_s h
  obtain ⟨x25, ex, h⟩ := bnd_s h
  refine Ev.iastore (by decide) c24.1 c24.2 ⟨dX8_mergeField_225, rfl⟩ ?_
  refine Ev.cast ?_ rfl rfl (hqI ex)
  clear ex
  obtain rfl := Option.some.inj h
  exact Ev.ret ⟨dX8_mergeField_226, rfl⟩ rfl ⟨rfl, rfl⟩

def F_X8_mergeChanged_30 (z : Nat) (v0 : Nat) (v1 : Int) (v2 : Int) : Nat → Int → Mm → Option (Mm)
  | 0, _, _ => none
  | k + 1, v3, x => ckI (1 : Int) 5366 <| if (x.1 27 0 ((1 : Int)).toNat) ≤ v3 then (some (x)) else ((F_X8_isChanged z (v0) (v1) (v2) (v3) x).bind fun r7 => if r7 = 0 then (ckR ((v3 + 1)) <| F_X8_mergeChanged_30 z v0 v1 v2 k ((v3 + 1)) x) else ((F_X8_mergeField z (v0) (v1) (v2) (v3) x).bind fun r10 => ckR ((v3 + 1)) <| F_X8_mergeChanged_30 z v0 v1 v2 k ((v3 + 1)) r10))
set_option maxHeartbeats 4000000 in
set_option maxRecDepth 20000 in
theorem e_X8_mergeChanged_30 (Θ : GC) (D : Nat → Nat → Prop) (z : Nat) (v0 : Nat) (v1 : Int) (v2 : Int) (Q : Ro → Hp → Prop) (mc ms : Nat) : ∀ (k : Nat) (v3 : Int) (x : Mm) (y), F_X8_mergeChanged_30 z v0 v1 v2 k v3 x = some y → (Ev Θ mX8_mergeChanged 4 92 mc ms 63 [(0, vr 8 (v0 + 1)), (1, vi (v1)), (2, vi (v2))] [] (hq D y) Q) → Ev Θ mX8_mergeChanged 4 92 mc ms 30 [(0, vr 8 (v0 + 1)), (1, vi (v1)), (2, vi (v2)), (3, vi (v3))] [] (hq D x) Q := by
  intro k
  induction k with
  | zero => intro v3 x y h; exact absurd h (by unfold F_X8_mergeChanged_30; exact nofun)
  | succ k ih =>
    intro v3 x y h k1
    unfold F_X8_mergeChanged_30 at h
    refine Ev.iload_n (q := 3) ⟨dX8_mergeChanged_30, rfl⟩ rfl rfl ?_
    refine Ev.aload_n (q := 0) ⟨dX8_mergeChanged_31, rfl⟩ rfl rfl ?_
    refine Ev.getRk (C2 := 27) (r := 0) fX8_13 rfl (by decide) (by decide) ⟨dX8_mergeChanged_32, rfl⟩ ?_
    refine Ev.iconst ⟨dX8_mergeChanged_35, rfl⟩ (inRd rfl) ?_
    obtain ⟨c5, h⟩ := ckI_s h
    refine Ev.iaload (by decide) c5.1 c5.2 ⟨dX8_mergeChanged_36, rfl⟩ ?_
    refine Ev.icmp_ge jX8_mergeChanged_37 (fun hc => ?_) (fun hc => ?_)
    · replace h := (if_pos hc).symm.trans h; clear hc
      refine Ev.keep [0, 1, 2] rfl ?_
      obtain rfl := Option.some.inj h
      exact k1
    · replace h := (if_neg hc).symm.trans h; clear hc
      refine Ev.aload_n (q := 0) ⟨dX8_mergeChanged_40, rfl⟩ rfl rfl ?_
      refine Ev.iload_n (q := 1) ⟨dX8_mergeChanged_41, rfl⟩ rfl rfl ?_
      refine Ev.iload_n (q := 2) ⟨dX8_mergeChanged_42, rfl⟩ rfl rfl ?_
      refine Ev.iload_n (q := 3) ⟨dX8_mergeChanged_43, rfl⟩ rfl rfl ?_
      obtain ⟨r7, hv6, h⟩ := bnd_s h
      refine Ev.callV1 (mc1 := mc) (ms1 := ms) (v := vi r7) (h1 := hq D x) vX8_221 (c_X8_isChanged Θ D z _ _ _ _ _ _ hv6) rfl rfl (by decide) rfl ⟨by decide, by decide, Nat.le_of_eq (Nat.zero_add _), Nat.le_of_eq (Nat.zero_add _), Nat.le_of_ble_eq_true rfl⟩ ⟨dX8_mergeChanged_44, rfl⟩ ?_
      clear hv6
      refine Ev.if_eq jX8_mergeChanged_47 (fun hc => ?_) (fun hc => ?_)
      · replace h := (if_pos hc).symm.trans h; clear hc
        obtain ⟨c8, h⟩ := ckR_s h
        refine Ev.iinc (q := 3) (ls' := [(0, _), (1, _), (2, _), (3, _)]) ⟨dX8_mergeChanged_57, rfl⟩ rfl (by decide) c8 rfl ?_
        refine Ev.goto jX8_mergeChanged_60 ?_
        exact ih _ _ _ h k1
      · replace h := (if_neg hc).symm.trans h; clear hc
        refine Ev.aload_n (q := 0) ⟨dX8_mergeChanged_50, rfl⟩ rfl rfl ?_
        refine Ev.iload_n (q := 1) ⟨dX8_mergeChanged_51, rfl⟩ rfl rfl ?_
        refine Ev.iload_n (q := 2) ⟨dX8_mergeChanged_52, rfl⟩ rfl rfl ?_
        refine Ev.iload_n (q := 3) ⟨dX8_mergeChanged_53, rfl⟩ rfl rfl ?_
        obtain ⟨r10, hv9, h⟩ := bnd_s h
        refine Ev.callVN (mc1 := mc) (ms1 := ms) (h1 := hq D r10) vX8_252 (c_X8_mergeField Θ D z _ _ _ _ _ _ hv9) rfl rfl (by decide) rfl ⟨by decide, by decide, Nat.le_of_eq (Nat.zero_add _), Nat.le_of_eq (Nat.zero_add _), Nat.le_of_ble_eq_true rfl⟩ ⟨dX8_mergeChanged_54, rfl⟩ ?_
        clear hv9
        obtain ⟨c11, h⟩ := ckR_s h
        refine Ev.iinc (q := 3) (ls' := [(0, _), (1, _), (2, _), (3, _)]) ⟨dX8_mergeChanged_57, rfl⟩ rfl (by decide) c11 rfl ?_
        refine Ev.goto jX8_mergeChanged_60 ?_
        exact ih _ _ _ h k1
def F_X8_mergeChanged (z : Nat) (v0 : Nat) (v1 : Int) (v2 : Int) (x : Mm) : Option (Mm) := (F_X8_changesOf z (v0) (v1) (v2) x).bind fun r2 => if r2 = 0 then (some (x)) else ((F_X8_isAlive z (v0) (v2) x).bind fun r4 => if r4 = 0 then ((F_X8_object z (v0) ((1 : Int)) (v2) ((-1 : Int)) ((0 : Int)) (v1) x).bind fun r14 => some (r14)) else ((F_X8_mergeChanged_30 z (v0) (v1) (v2) z ((0 : Int)) x).bind fun s12 => some (s12)))
set_option maxHeartbeats 4000000 in
set_option maxRecDepth 20000 in
theorem c_X8_mergeChanged (Θ : GC) (D : Nat → Nat → Prop) (z : Nat) (v0 : Nat) (v1 : Int) (v2 : Int) (x : Mm) (y) (h : F_X8_mergeChanged z v0 v1 v2 x = some y) : Cal Θ mX8_mergeChanged 4 92 0 0 [vr 8 (v0 + 1), vi (v1), vi (v2)] (hq D x) (RetN (hq D y)) := by
  refine Cal.of (by decide +kernel) rfl rfl (Nat.le_of_ble_eq_true rfl) ?_
  show Ev Θ mX8_mergeChanged 4 92 0 0 0 [(0, vr 8 (v0 + 1)), (1, vi (v1)), (2, vi (v2))] [] (hq D x) (RetN (hq D y))
  unfold F_X8_mergeChanged at h
  refine Ev.aload_n (q := 0) ⟨dX8_mergeChanged_0, rfl⟩ rfl rfl ?_
  refine Ev.iload_n (q := 1) ⟨dX8_mergeChanged_1, rfl⟩ rfl rfl ?_
  refine Ev.iload_n (q := 2) ⟨dX8_mergeChanged_2, rfl⟩ rfl rfl ?_
  obtain ⟨r2, hv1, h⟩ := bnd_s h
  refine Ev.callV1 (mc1 := 0) (ms1 := 0) (v := vi r2) (h1 := hq D x) vX8_224 (c_X8_changesOf Θ D z _ _ _ _ _ hv1) rfl rfl (by decide) rfl ⟨by decide, by decide, Nat.le_of_eq (Nat.zero_add _), Nat.le_of_eq (Nat.zero_add _), Nat.le_of_ble_eq_true rfl⟩ ⟨dX8_mergeChanged_3, rfl⟩ ?_
  clear hv1
  refine Ev.if_ne jX8_mergeChanged_6 (fun hc => ?_) (fun hc => ?_)
  · replace h := (if_neg hc).symm.trans h; clear hc
    refine Ev.aload_n (q := 0) ⟨dX8_mergeChanged_10, rfl⟩ rfl rfl ?_
    refine Ev.iload_n (q := 2) ⟨dX8_mergeChanged_11, rfl⟩ rfl rfl ?_
    obtain ⟨r4, hv3, h⟩ := bnd_s h
    refine Ev.callV1 (mc1 := 0) (ms1 := 0) (v := vi r4) (h1 := hq D x) vX8_194 (c_X8_isAlive Θ D z _ _ _ _ hv3) rfl rfl (by decide) rfl ⟨by decide, by decide, Nat.le_of_eq (Nat.zero_add _), Nat.le_of_eq (Nat.zero_add _), Nat.le_of_ble_eq_true rfl⟩ ⟨dX8_mergeChanged_12, rfl⟩ ?_
    clear hv3
    refine Ev.if_ne jX8_mergeChanged_15 (fun hc => ?_) (fun hc => ?_)
    · replace h := (if_neg hc).symm.trans h; clear hc
      refine Ev.iconst ⟨dX8_mergeChanged_28, rfl⟩ (inRd rfl) ?_
      refine Ev.istore_n (i := 3) (ls' := [(0, _), (1, _), (2, _), (3, _)]) ⟨dX8_mergeChanged_29, rfl⟩ rfl (by decide) rfl ?_
      obtain ⟨s12, hl, h⟩ := bnd_s h
      refine e_X8_mergeChanged_30 Θ D z _ _ _ _ _ _ _ _ _ _ hl ?_
      clear hl
      obtain rfl := Option.some.inj h
      exact Ev.ret ⟨dX8_mergeChanged_63, rfl⟩ rfl ⟨rfl, rfl⟩
    · replace h := (if_pos hc).symm.trans h; clear hc
      refine Ev.aload_n (q := 0) ⟨dX8_mergeChanged_18, rfl⟩ rfl rfl ?_
      refine Ev.iconst ⟨dX8_mergeChanged_19, rfl⟩ (inRd rfl) ?_
      refine Ev.iload_n (q := 2) ⟨dX8_mergeChanged_20, rfl⟩ rfl rfl ?_
      refine Ev.iconst ⟨dX8_mergeChanged_21, rfl⟩ (inRd rfl) ?_
      refine Ev.iconst ⟨dX8_mergeChanged_22, rfl⟩ (inRd rfl) ?_
      refine Ev.iload_n (q := 1) ⟨dX8_mergeChanged_23, rfl⟩ rfl rfl ?_
      obtain ⟨r14, hv13, h⟩ := bnd_s h
      refine Ev.callVN (mc1 := 0) (ms1 := 0) (h1 := hq D r14) vX8_234 (c_X8_object Θ D z _ _ _ _ _ _ _ _ hv13) rfl rfl (by decide) rfl ⟨by decide, by decide, Nat.le_of_eq (Nat.zero_add _), Nat.le_of_eq (Nat.zero_add _), Nat.le_of_ble_eq_true rfl⟩ ⟨dX8_mergeChanged_24, rfl⟩ ?_
      clear hv13
      obtain rfl := Option.some.inj h
      exact Ev.ret ⟨dX8_mergeChanged_27, rfl⟩ rfl ⟨rfl, rfl⟩
  · replace h := (if_pos hc).symm.trans h; clear hc
    obtain rfl := Option.some.inj h
    exact Ev.ret ⟨dX8_mergeChanged_9, rfl⟩ rfl ⟨rfl, rfl⟩

def F_X8_isAsInBase_11 (z : Nat) (v0 : Nat) (v1 : Int) (v2 : Int) (x : Mm) : Nat → Int → Int → Option (Int)
  | 0, _, _ => none
  | k + 1, v3, v4 => ckI (1 : Int) 5366 <| if (x.1 27 0 ((1 : Int)).toNat) ≤ v4 then (some (v3)) else (if v3 = 0 then (ckR ((v4 + 1)) <| F_X8_isAsInBase_11 z v0 v1 v2 x k ((0 : Int)) ((v4 + 1))) else ((F_X8_value z (v0) (v2) (v4) x).bind fun r6 => (F_X8_old z (v0) (v1) (v2) (v4) x).bind fun r8 => if r6 = r8 then (ckR ((v4 + 1)) <| F_X8_isAsInBase_11 z v0 v1 v2 x k ((1 : Int)) ((v4 + 1))) else (ckR ((v4 + 1)) <| F_X8_isAsInBase_11 z v0 v1 v2 x k ((0 : Int)) ((v4 + 1)))))
set_option maxHeartbeats 4000000 in
set_option maxRecDepth 20000 in
theorem e_X8_isAsInBase_11 (Θ : GC) (D : Nat → Nat → Prop) (z : Nat) (v0 : Nat) (v1 : Int) (v2 : Int) (x : Mm) (Q : Ro → Hp → Prop) (mc ms : Nat) : ∀ (k : Nat) (v3 : Int) (v4 : Int) (y), F_X8_isAsInBase_11 z v0 v1 v2 x k v3 v4 = some y → (Ev Θ mX8_isAsInBase 2 45 mc ms 56 [(0, vr 8 (v0 + 1)), (1, vi (v1)), (2, vi (v2)), (3, vi (y))] [] (hq D x) Q) → Ev Θ mX8_isAsInBase 2 45 mc ms 11 [(0, vr 8 (v0 + 1)), (1, vi (v1)), (2, vi (v2)), (3, vi (v3)), (4, vi (v4))] [] (hq D x) Q := by
  intro k
  induction k with
  | zero => intro v3 v4 y h; exact absurd h (by unfold F_X8_isAsInBase_11; exact nofun)
  | succ k ih =>
    intro v3 v4 y h k1
    unfold F_X8_isAsInBase_11 at h
    refine Ev.iload (q := 4) ⟨dX8_isAsInBase_11, rfl⟩ rfl ?_
    refine Ev.aload_n (q := 0) ⟨dX8_isAsInBase_13, rfl⟩ rfl rfl ?_
    refine Ev.getRk (C2 := 27) (r := 0) fX8_13 rfl (by decide) (by decide) ⟨dX8_isAsInBase_14, rfl⟩ ?_
    refine Ev.iconst ⟨dX8_isAsInBase_17, rfl⟩ (inRd rfl) ?_
    obtain ⟨c3, h⟩ := ckI_s h
    refine Ev.iaload (by decide) c3.1 c3.2 ⟨dX8_isAsInBase_18, rfl⟩ ?_
    refine Ev.icmp_ge jX8_isAsInBase_19 (fun hc => ?_) (fun hc => ?_)
    · replace h := (if_pos hc).symm.trans h; clear hc
      refine Ev.keep [0, 1, 2, 3] rfl ?_
      obtain rfl := Option.some.inj h
      exact k1
    · replace h := (if_neg hc).symm.trans h; clear hc
      refine Ev.iload_n (q := 3) ⟨dX8_isAsInBase_22, rfl⟩ rfl rfl ?_
      refine Ev.if_eq jX8_isAsInBase_23 (fun hc => ?_) (fun hc => ?_)
      · replace h := (if_pos hc).symm.trans h; clear hc
        refine Ev.iconst ⟨dX8_isAsInBase_48, rfl⟩ (inRd rfl) ?_
        refine Ev.istore_n (i := 3) (ls' := [(0, _), (1, _), (2, _), (3, _), (4, _)]) ⟨dX8_isAsInBase_49, rfl⟩ rfl (by decide) rfl ?_
        obtain ⟨c4, h⟩ := ckR_s h
        refine Ev.iinc (q := 4) (ls' := [(0, _), (1, _), (2, _), (3, _), (4, _)]) ⟨dX8_isAsInBase_50, rfl⟩ rfl (by decide) c4 rfl ?_
        refine Ev.goto jX8_isAsInBase_53 ?_
        exact ih _ _ _ h k1
      · replace h := (if_neg hc).symm.trans h; clear hc
        refine Ev.aload_n (q := 0) ⟨dX8_isAsInBase_26, rfl⟩ rfl rfl ?_
        refine Ev.iload_n (q := 2) ⟨dX8_isAsInBase_27, rfl⟩ rfl rfl ?_
        refine Ev.iload (q := 4) ⟨dX8_isAsInBase_28, rfl⟩ rfl ?_
        obtain ⟨r6, hv5, h⟩ := bnd_s h
        refine Ev.callV1 (mc1 := mc) (ms1 := ms) (v := vi r6) (h1 := hq D x) vX8_203 (c_X8_value Θ D z _ _ _ _ _ hv5) rfl rfl (by decide) rfl ⟨by decide, by decide, Nat.le_of_eq (Nat.zero_add _), Nat.le_of_eq (Nat.zero_add _), Nat.le_of_ble_eq_true rfl⟩ ⟨dX8_isAsInBase_30, rfl⟩ ?_
        clear hv5
        refine Ev.aload_n (q := 0) ⟨dX8_isAsInBase_33, rfl⟩ rfl rfl ?_
        refine Ev.iload_n (q := 1) ⟨dX8_isAsInBase_34, rfl⟩ rfl rfl ?_
        refine Ev.iload_n (q := 2) ⟨dX8_isAsInBase_35, rfl⟩ rfl rfl ?_
        refine Ev.iload (q := 4) ⟨dX8_isAsInBase_36, rfl⟩ rfl ?_
        obtain ⟨r8, hv7, h⟩ := bnd_s h
        refine Ev.callV1 (mc1 := mc) (ms1 := ms) (v := vi r8) (h1 := hq D x) vX8_218 (c_X8_old Θ D z _ _ _ _ _ _ hv7) rfl rfl (by decide) rfl ⟨by decide, by decide, Nat.le_of_eq (Nat.zero_add _), Nat.le_of_eq (Nat.zero_add _), Nat.le_of_ble_eq_true rfl⟩ ⟨dX8_isAsInBase_38, rfl⟩ ?_
        clear hv7
        refine Ev.icmp_ne jX8_isAsInBase_41 (fun hc => ?_) (fun hc => ?_)
        · replace h := (if_neg hc).symm.trans h; clear hc
          refine Ev.iconst ⟨dX8_isAsInBase_48, rfl⟩ (inRd rfl) ?_
          refine Ev.istore_n (i := 3) (ls' := [(0, _), (1, _), (2, _), (3, _), (4, _)]) ⟨dX8_isAsInBase_49, rfl⟩ rfl (by decide) rfl ?_
          obtain ⟨c9, h⟩ := ckR_s h
          refine Ev.iinc (q := 4) (ls' := [(0, _), (1, _), (2, _), (3, _), (4, _)]) ⟨dX8_isAsInBase_50, rfl⟩ rfl (by decide) c9 rfl ?_
          refine Ev.goto jX8_isAsInBase_53 ?_
          exact ih _ _ _ h k1
        · replace h := (if_pos hc).symm.trans h; clear hc
          refine Ev.iconst ⟨dX8_isAsInBase_44, rfl⟩ (inRd rfl) ?_
          refine Ev.goto jX8_isAsInBase_45 ?_
          refine Ev.istore_n (i := 3) (ls' := [(0, _), (1, _), (2, _), (3, _), (4, _)]) ⟨dX8_isAsInBase_49, rfl⟩ rfl (by decide) rfl ?_
          obtain ⟨c10, h⟩ := ckR_s h
          refine Ev.iinc (q := 4) (ls' := [(0, _), (1, _), (2, _), (3, _), (4, _)]) ⟨dX8_isAsInBase_50, rfl⟩ rfl (by decide) c10 rfl ?_
          refine Ev.goto jX8_isAsInBase_53 ?_
          exact ih _ _ _ h k1
def F_X8_isAsInBase (z : Nat) (v0 : Nat) (v1 : Int) (v2 : Int) (x : Mm) : Option (Int) := (F_X8_is z (v0) (v1) ((0 : Int)) (v2) x).bind fun r2 => (F_X8_isAsInBase_11 z (v0) (v1) (v2) x z (r2) ((0 : Int))).bind fun s11 => ckZ (s11) <| some (s11)
set_option maxHeartbeats 4000000 in
set_option maxRecDepth 20000 in
theorem c_X8_isAsInBase (Θ : GC) (D : Nat → Nat → Prop) (z : Nat) (v0 : Nat) (v1 : Int) (v2 : Int) (x : Mm) (y) (h : F_X8_isAsInBase z v0 v1 v2 x = some y) : Cal Θ mX8_isAsInBase 2 45 0 0 [vr 8 (v0 + 1), vi (v1), vi (v2)] (hq D x) (Ret (vi y) (hq D x)) := by
  refine Cal.of (by decide +kernel) rfl rfl (Nat.le_of_ble_eq_true rfl) ?_
  show Ev Θ mX8_isAsInBase 2 45 0 0 0 [(0, vr 8 (v0 + 1)), (1, vi (v1)), (2, vi (v2))] [] (hq D x) (Ret (vi y) (hq D x))
  unfold F_X8_isAsInBase at h
  refine Ev.aload_n (q := 0) ⟨dX8_isAsInBase_0, rfl⟩ rfl rfl ?_
  refine Ev.iload_n (q := 1) ⟨dX8_isAsInBase_1, rfl⟩ rfl rfl ?_
  refine Ev.iconst ⟨dX8_isAsInBase_2, rfl⟩ (inRd rfl) ?_
  refine Ev.iload_n (q := 2) ⟨dX8_isAsInBase_3, rfl⟩ rfl rfl ?_
  obtain ⟨r2, hv1, h⟩ := bnd_s h
  refine Ev.callV1 (mc1 := 0) (ms1 := 0) (v := vi r2) (h1 := hq D x) vX8_209 (c_X8_is Θ D z _ _ _ _ _ _ hv1) rfl rfl (by decide) rfl ⟨by decide, by decide, Nat.le_of_eq (Nat.zero_add _), Nat.le_of_eq (Nat.zero_add _), Nat.le_of_ble_eq_true rfl⟩ ⟨dX8_isAsInBase_4, rfl⟩ ?_
  clear hv1
  refine Ev.istore_n (i := 3) (ls' := [(0, _), (1, _), (2, _), (3, _)]) ⟨dX8_isAsInBase_7, rfl⟩ rfl (by decide) rfl ?_
  refine Ev.iconst ⟨dX8_isAsInBase_8, rfl⟩ (inRd rfl) ?_
  refine Ev.istore (i := 4) (ls' := [(0, _), (1, _), (2, _), (3, _), (4, _)]) ⟨dX8_isAsInBase_9, rfl⟩ (by decide) rfl ?_
  obtain ⟨s11, hl, h⟩ := bnd_s h
  refine e_X8_isAsInBase_11 Θ D z _ _ _ _ _ _ _ _ _ _ _ hl ?_
  clear hl
  refine Ev.iload_n (q := 3) ⟨dX8_isAsInBase_56, rfl⟩ rfl rfl ?_
  obtain ⟨c12, h⟩ := ckZ_s h
  obtain rfl := Option.some.inj h
  exact Ev.ireturn (ty := .boolean) ⟨dX8_isAsInBase_57, rfl⟩ rfl (nz c12) ⟨rfl, rfl⟩

def F_X8_kill_2 (z : Nat) (v0 : Nat) (v1 : Int) : Nat → Int → Mm → Option (Mm)
  | 0, _, _ => none
  | k + 1, v2, x => ckI (3 : Int) 5366 <| if (x.1 27 0 ((3 : Int)).toNat) ≤ v2 then (some (x)) else ((F_X8_isWithin z (v0) (v2) (v1) x).bind fun r3 => if r3 = 0 then (ckR ((v2 + 1)) <| F_X8_kill_2 z v0 v1 k ((v2 + 1)) x) else (ckR (((191 : Int) + v2)) <| ckI ((191 : Int) + v2) 5366 <| (some (wI x 27 0 (((191 : Int) + v2)).toNat ((0 : Int)))).bind fun x7 => ckR ((v2 + 1)) <| F_X8_kill_2 z v0 v1 k ((v2 + 1)) x7))
set_option maxHeartbeats 4000000 in
set_option maxRecDepth 20000 in
theorem e_X8_kill_2 (Θ : GC) (D : Nat → Nat → Prop) (z : Nat) (v0 : Nat) (v1 : Int) (Q : Ro → Hp → Prop) (mc ms : Nat) : ∀ (k : Nat) (v2 : Int) (x : Mm) (y), F_X8_kill_2 z v0 v1 k v2 x = some y → (Ev Θ mX8_kill 1 23 mc ms 38 [(0, vr 8 (v0 + 1)), (1, vi (v1))] [] (hq D y) Q) → Ev Θ mX8_kill 1 23 mc ms 2 [(0, vr 8 (v0 + 1)), (1, vi (v1)), (2, vi (v2))] [] (hq D x) Q := by
  intro k
  induction k with
  | zero => intro v2 x y h; exact absurd h (by unfold F_X8_kill_2; exact nofun)
  | succ k ih =>
    intro v2 x y h k1
    unfold F_X8_kill_2 at h
    refine Ev.iload_n (q := 2) ⟨dX8_kill_2, rfl⟩ rfl rfl ?_
    refine Ev.aload_n (q := 0) ⟨dX8_kill_3, rfl⟩ rfl rfl ?_
    refine Ev.getRk (C2 := 27) (r := 0) fX8_13 rfl (by decide) (by decide) ⟨dX8_kill_4, rfl⟩ ?_
    refine Ev.iconst ⟨dX8_kill_7, rfl⟩ (inRd rfl) ?_
    obtain ⟨c1, h⟩ := ckI_s h
    refine Ev.iaload (by decide) c1.1 c1.2 ⟨dX8_kill_8, rfl⟩ ?_
    refine Ev.icmp_ge jX8_kill_9 (fun hc => ?_) (fun hc => ?_)
    · replace h := (if_pos hc).symm.trans h; clear hc
      refine Ev.keep [0, 1] rfl ?_
      obtain rfl := Option.some.inj h
      exact k1
    · replace h := (if_neg hc).symm.trans h; clear hc
      refine Ev.aload_n (q := 0) ⟨dX8_kill_12, rfl⟩ rfl rfl ?_
      refine Ev.iload_n (q := 2) ⟨dX8_kill_13, rfl⟩ rfl rfl ?_
      refine Ev.iload_n (q := 1) ⟨dX8_kill_14, rfl⟩ rfl rfl ?_
      obtain ⟨r3, hv2, h⟩ := bnd_s h
      refine Ev.callV1 (mc1 := mc) (ms1 := ms) (v := vi r3) (h1 := hq D x) vX8_180 (c_X8_isWithin Θ D z _ _ _ _ _ hv2) rfl rfl (by decide) rfl ⟨by decide, by decide, Nat.le_of_eq (Nat.zero_add _), Nat.le_of_eq (Nat.zero_add _), Nat.le_of_ble_eq_true rfl⟩ ⟨dX8_kill_15, rfl⟩ ?_
      clear hv2
      refine Ev.if_eq jX8_kill_18 (fun hc => ?_) (fun hc => ?_)
      · replace h := (if_pos hc).symm.trans h; clear hc
        obtain ⟨c4, h⟩ := ckR_s h
        refine Ev.iinc (q := 2) (ls' := [(0, _), (1, _), (2, _)]) ⟨dX8_kill_32, rfl⟩ rfl (by decide) c4 rfl ?_
        refine Ev.goto jX8_kill_35 ?_
        exact ih _ _ _ h k1
      · replace h := (if_neg hc).symm.trans h; clear hc
        refine Ev.aload_n (q := 0) ⟨dX8_kill_21, rfl⟩ rfl rfl ?_
        refine Ev.getRk (C2 := 27) (r := 0) fX8_13 rfl (by decide) (by decide) ⟨dX8_kill_22, rfl⟩ ?_
        refine Ev.sipush ⟨dX8_kill_25, rfl⟩ (inRd rfl) (by decide) ?_
        refine Ev.iload_n (q := 2) ⟨dX8_kill_28, rfl⟩ rfl rfl ?_
        obtain ⟨c5, h⟩ := ckR_s h
        refine Ev.iadd ⟨dX8_kill_29, rfl⟩ c5 ?_
        refine Ev.iconst ⟨dX8_kill_30, rfl⟩ (inRd rfl) ?_
        obtain ⟨c6, h⟩ := ckI_s h
        obtain ⟨x7, ex, h⟩ := bnd_s h
        refine Ev.iastore (by decide) c6.1 c6.2 ⟨dX8_kill_31, rfl⟩ ?_
        refine Ev.cast ?_ rfl rfl (hqI ex)
        clear ex
        obtain ⟨c8, h⟩ := ckR_s h
        refine Ev.iinc (q := 2) (ls' := [(0, _), (1, _), (2, _)]) ⟨dX8_kill_32, rfl⟩ rfl (by decide) c8 rfl ?_
        refine Ev.goto jX8_kill_35 ?_
        exact ih _ _ _ h k1
def F_X8_kill (z : Nat) (v0 : Nat) (v1 : Int) (x : Mm) : Option (Mm) := (F_X8_kill_2 z (v0) (v1) z (v1) x).bind fun s9 => some (s9)
set_option maxHeartbeats 4000000 in
set_option maxRecDepth 20000 in
theorem c_X8_kill (Θ : GC) (D : Nat → Nat → Prop) (z : Nat) (v0 : Nat) (v1 : Int) (x : Mm) (y) (h : F_X8_kill z v0 v1 x = some y) : Cal Θ mX8_kill 1 23 0 0 [vr 8 (v0 + 1), vi (v1)] (hq D x) (RetN (hq D y)) := by
  refine Cal.of (by decide +kernel) rfl rfl (Nat.le_of_ble_eq_true rfl) ?_
  show Ev Θ mX8_kill 1 23 0 0 0 [(0, vr 8 (v0 + 1)), (1, vi (v1))] [] (hq D x) (RetN (hq D y))
  unfold F_X8_kill at h
  refine Ev.iload_n (q := 1) ⟨dX8_kill_0, rfl⟩ rfl rfl ?_
  refine Ev.istore_n (i := 2) (ls' := [(0, _), (1, _), (2, _)]) ⟨dX8_kill_1, rfl⟩ rfl (by decide) rfl ?_
  obtain ⟨s9, hl, h⟩ := bnd_s h
  refine e_X8_kill_2 Θ D z _ _ _ _ _ _ _ _ _ hl ?_
  clear hl
  obtain rfl := Option.some.inj h
  exact Ev.ret ⟨dX8_kill_38, rfl⟩ rfl ⟨rfl, rfl⟩

def F_X8_mergeRemoved_14 (z : Nat) (v0 : Nat) (v1 : Int) (v2 : Int) (x : Mm) : Nat → Int → Int → Option (Int)
  | 0, _, _ => none
  | k + 1, v3, v4 => ckI (3 : Int) 5366 <| if (x.1 27 0 ((3 : Int)).toNat) ≤ v4 then (some (v3)) else (if v3 = 0 then (ckR ((v4 + 1)) <| F_X8_mergeRemoved_14 z v0 v1 v2 x k ((0 : Int)) ((v4 + 1))) else ((F_X8_isAlive z (v0) (v4) x).bind fun r6 => if r6 = 0 then (ckR ((v4 + 1)) <| F_X8_mergeRemoved_14 z v0 v1 v2 x k ((1 : Int)) ((v4 + 1))) else ((F_X8_isWithin z (v0) (v4) (v2) x).bind fun r9 => if r9 = 0 then (ckR ((v4 + 1)) <| F_X8_mergeRemoved_14 z v0 v1 v2 x k ((1 : Int)) ((v4 + 1))) else ((F_X8_isAsInBase z (v0) (v1) (v4) x).bind fun r12 => if r12 = 0 then (ckR ((v4 + 1)) <| F_X8_mergeRemoved_14 z v0 v1 v2 x k ((0 : Int)) ((v4 + 1))) else (ckR ((v4 + 1)) <| F_X8_mergeRemoved_14 z v0 v1 v2 x k ((1 : Int)) ((v4 + 1)))))))
set_option maxHeartbeats 4000000 in
set_option maxRecDepth 20000 in
theorem e_X8_mergeRemoved_14 (Θ : GC) (D : Nat → Nat → Prop) (z : Nat) (v0 : Nat) (v1 : Int) (v2 : Int) (x : Mm) (Q : Ro → Hp → Prop) (mc ms : Nat) : ∀ (k : Nat) (v3 : Int) (v4 : Int) (y), F_X8_mergeRemoved_14 z v0 v1 v2 x k v3 v4 = some y → (Ev Θ mX8_mergeRemoved 3 69 mc ms 70 [(0, vr 8 (v0 + 1)), (1, vi (v1)), (2, vi (v2)), (3, vi (y))] [] (hq D x) Q) → Ev Θ mX8_mergeRemoved 3 69 mc ms 14 [(0, vr 8 (v0 + 1)), (1, vi (v1)), (2, vi (v2)), (3, vi (v3)), (4, vi (v4))] [] (hq D x) Q := by
  intro k
  induction k with
  | zero => intro v3 v4 y h; exact absurd h (by unfold F_X8_mergeRemoved_14; exact nofun)
  | succ k ih =>
    intro v3 v4 y h k1
    unfold F_X8_mergeRemoved_14 at h
    refine Ev.iload (q := 4) ⟨dX8_mergeRemoved_14, rfl⟩ rfl ?_
    refine Ev.aload_n (q := 0) ⟨dX8_mergeRemoved_16, rfl⟩ rfl rfl ?_
    refine Ev.getRk (C2 := 27) (r := 0) fX8_13 rfl (by decide) (by decide) ⟨dX8_mergeRemoved_17, rfl⟩ ?_
    refine Ev.iconst ⟨dX8_mergeRemoved_20, rfl⟩ (inRd rfl) ?_
    obtain ⟨c3, h⟩ := ckI_s h
    refine Ev.iaload (by decide) c3.1 c3.2 ⟨dX8_mergeRemoved_21, rfl⟩ ?_
    refine Ev.icmp_ge jX8_mergeRemoved_22 (fun hc => ?_) (fun hc => ?_)
    · replace h := (if_pos hc).symm.trans h; clear hc
      refine Ev.keep [0, 1, 2, 3] rfl ?_
      obtain rfl := Option.some.inj h
      exact k1
    · replace h := (if_neg hc).symm.trans h; clear hc
      refine Ev.iload_n (q := 3) ⟨dX8_mergeRemoved_25, rfl⟩ rfl rfl ?_
      refine Ev.if_eq jX8_mergeRemoved_26 (fun hc => ?_) (fun hc => ?_)
      · replace h := (if_pos hc).symm.trans h; clear hc
        refine Ev.iconst ⟨dX8_mergeRemoved_62, rfl⟩ (inRd rfl) ?_
        refine Ev.istore_n (i := 3) (ls' := [(0, _), (1, _), (2, _), (3, _), (4, _)]) ⟨dX8_mergeRemoved_63, rfl⟩ rfl (by decide) rfl ?_
        obtain ⟨c4, h⟩ := ckR_s h
        refine Ev.iinc (q := 4) (ls' := [(0, _), (1, _), (2, _), (3, _), (4, _)]) ⟨dX8_mergeRemoved_64, rfl⟩ rfl (by decide) c4 rfl ?_
        refine Ev.goto jX8_mergeRemoved_67 ?_
        exact ih _ _ _ h k1
      · replace h := (if_neg hc).symm.trans h; clear hc
        refine Ev.aload_n (q := 0) ⟨dX8_mergeRemoved_29, rfl⟩ rfl rfl ?_
        refine Ev.iload (q := 4) ⟨dX8_mergeRemoved_30, rfl⟩ rfl ?_
        obtain ⟨r6, hv5, h⟩ := bnd_s h
        refine Ev.callV1 (mc1 := mc) (ms1 := ms) (v := vi r6) (h1 := hq D x) vX8_194 (c_X8_isAlive Θ D z _ _ _ _ hv5) rfl rfl (by decide) rfl ⟨by decide, by decide, Nat.le_of_eq (Nat.zero_add _), Nat.le_of_eq (Nat.zero_add _), Nat.le_of_ble_eq_true rfl⟩ ⟨dX8_mergeRemoved_32, rfl⟩ ?_
        clear hv5
        refine Ev.if_eq jX8_mergeRemoved_35 (fun hc => ?_) (fun hc => ?_)
        · replace h := (if_pos hc).symm.trans h; clear hc
          refine Ev.iconst ⟨dX8_mergeRemoved_58, rfl⟩ (inRd rfl) ?_
          refine Ev.goto jX8_mergeRemoved_59 ?_
          refine Ev.istore_n (i := 3) (ls' := [(0, _), (1, _), (2, _), (3, _), (4, _)]) ⟨dX8_mergeRemoved_63, rfl⟩ rfl (by decide) rfl ?_
          obtain ⟨c7, h⟩ := ckR_s h
          refine Ev.iinc (q := 4) (ls' := [(0, _), (1, _), (2, _), (3, _), (4, _)]) ⟨dX8_mergeRemoved_64, rfl⟩ rfl (by decide) c7 rfl ?_
          refine Ev.goto jX8_mergeRemoved_67 ?_
          exact ih _ _ _ h k1
        · replace h := (if_neg hc).symm.trans h; clear hc
          refine Ev.aload_n (q := 0) ⟨dX8_mergeRemoved_38, rfl⟩ rfl rfl ?_
          refine Ev.iload (q := 4) ⟨dX8_mergeRemoved_39, rfl⟩ rfl ?_
          refine Ev.iload_n (q := 2) ⟨dX8_mergeRemoved_41, rfl⟩ rfl rfl ?_
          obtain ⟨r9, hv8, h⟩ := bnd_s h
          refine Ev.callV1 (mc1 := mc) (ms1 := ms) (v := vi r9) (h1 := hq D x) vX8_180 (c_X8_isWithin Θ D z _ _ _ _ _ hv8) rfl rfl (by decide) rfl ⟨by decide, by decide, Nat.le_of_eq (Nat.zero_add _), Nat.le_of_eq (Nat.zero_add _), Nat.le_of_ble_eq_true rfl⟩ ⟨dX8_mergeRemoved_42, rfl⟩ ?_
          clear hv8
          refine Ev.if_eq jX8_mergeRemoved_45 (fun hc => ?_) (fun hc => ?_)
          · replace h := (if_pos hc).symm.trans h; clear hc
            refine Ev.iconst ⟨dX8_mergeRemoved_58, rfl⟩ (inRd rfl) ?_
            refine Ev.goto jX8_mergeRemoved_59 ?_
            refine Ev.istore_n (i := 3) (ls' := [(0, _), (1, _), (2, _), (3, _), (4, _)]) ⟨dX8_mergeRemoved_63, rfl⟩ rfl (by decide) rfl ?_
            obtain ⟨c10, h⟩ := ckR_s h
            refine Ev.iinc (q := 4) (ls' := [(0, _), (1, _), (2, _), (3, _), (4, _)]) ⟨dX8_mergeRemoved_64, rfl⟩ rfl (by decide) c10 rfl ?_
            refine Ev.goto jX8_mergeRemoved_67 ?_
            exact ih _ _ _ h k1
          · replace h := (if_neg hc).symm.trans h; clear hc
            refine Ev.aload_n (q := 0) ⟨dX8_mergeRemoved_48, rfl⟩ rfl rfl ?_
            refine Ev.iload_n (q := 1) ⟨dX8_mergeRemoved_49, rfl⟩ rfl rfl ?_
            refine Ev.iload (q := 4) ⟨dX8_mergeRemoved_50, rfl⟩ rfl ?_
            obtain ⟨r12, hv11, h⟩ := bnd_s h
            refine Ev.callV1 (mc1 := mc) (ms1 := ms) (v := vi r12) (h1 := hq D x) vX8_256 (c_X8_isAsInBase Θ D z _ _ _ _ _ hv11) rfl rfl (by decide) rfl ⟨by decide, by decide, Nat.le_of_eq (Nat.zero_add _), Nat.le_of_eq (Nat.zero_add _), Nat.le_of_ble_eq_true rfl⟩ ⟨dX8_mergeRemoved_52, rfl⟩ ?_
            clear hv11
            refine Ev.if_eq jX8_mergeRemoved_55 (fun hc => ?_) (fun hc => ?_)
            · replace h := (if_pos hc).symm.trans h; clear hc
              refine Ev.iconst ⟨dX8_mergeRemoved_62, rfl⟩ (inRd rfl) ?_
              refine Ev.istore_n (i := 3) (ls' := [(0, _), (1, _), (2, _), (3, _), (4, _)]) ⟨dX8_mergeRemoved_63, rfl⟩ rfl (by decide) rfl ?_
              obtain ⟨c13, h⟩ := ckR_s h
              refine Ev.iinc (q := 4) (ls' := [(0, _), (1, _), (2, _), (3, _), (4, _)]) ⟨dX8_mergeRemoved_64, rfl⟩ rfl (by decide) c13 rfl ?_
              refine Ev.goto jX8_mergeRemoved_67 ?_
              exact ih _ _ _ h k1
            · replace h := (if_neg hc).symm.trans h; clear hc
              refine Ev.iconst ⟨dX8_mergeRemoved_58, rfl⟩ (inRd rfl) ?_
              refine Ev.goto jX8_mergeRemoved_59 ?_
              refine Ev.istore_n (i := 3) (ls' := [(0, _), (1, _), (2, _), (3, _), (4, _)]) ⟨dX8_mergeRemoved_63, rfl⟩ rfl (by decide) rfl ?_
              obtain ⟨c14, h⟩ := ckR_s h
              refine Ev.iinc (q := 4) (ls' := [(0, _), (1, _), (2, _), (3, _), (4, _)]) ⟨dX8_mergeRemoved_64, rfl⟩ rfl (by decide) c14 rfl ?_
              refine Ev.goto jX8_mergeRemoved_67 ?_
              exact ih _ _ _ h k1
def F_X8_mergeRemoved (z : Nat) (v0 : Nat) (v1 : Int) (v2 : Int) (x : Mm) : Option (Mm) := (F_X8_isAlive z (v0) (v2) x).bind fun r2 => if r2 = 0 then (some (x)) else ((F_X8_mergeRemoved_14 z (v0) (v1) (v2) x z ((1 : Int)) (v2)).bind fun s15 => if s15 = 0 then ((F_X8_object z (v0) ((4 : Int)) (v2) ((-1 : Int)) ((0 : Int)) (v1) x).bind fun r17 => some (r17)) else ((F_X8_kill z (v0) (v2) x).bind fun r19 => some (r19)))
set_option maxHeartbeats 4000000 in
set_option maxRecDepth 20000 in
theorem c_X8_mergeRemoved (Θ : GC) (D : Nat → Nat → Prop) (z : Nat) (v0 : Nat) (v1 : Int) (v2 : Int) (x : Mm) (y) (h : F_X8_mergeRemoved z v0 v1 v2 x = some y) : Cal Θ mX8_mergeRemoved 3 69 0 0 [vr 8 (v0 + 1), vi (v1), vi (v2)] (hq D x) (RetN (hq D y)) := by
  refine Cal.of (by decide +kernel) rfl rfl (Nat.le_of_ble_eq_true rfl) ?_
  show Ev Θ mX8_mergeRemoved 3 69 0 0 0 [(0, vr 8 (v0 + 1)), (1, vi (v1)), (2, vi (v2))] [] (hq D x) (RetN (hq D y))
  unfold F_X8_mergeRemoved at h
  refine Ev.aload_n (q := 0) ⟨dX8_mergeRemoved_0, rfl⟩ rfl rfl ?_
  refine Ev.iload_n (q := 2) ⟨dX8_mergeRemoved_1, rfl⟩ rfl rfl ?_
  obtain ⟨r2, hv1, h⟩ := bnd_s h
  refine Ev.callV1 (mc1 := 0) (ms1 := 0) (v := vi r2) (h1 := hq D x) vX8_194 (c_X8_isAlive Θ D z _ _ _ _ hv1) rfl rfl (by decide) rfl ⟨by decide, by decide, Nat.le_of_eq (Nat.zero_add _), Nat.le_of_eq (Nat.zero_add _), Nat.le_of_ble_eq_true rfl⟩ ⟨dX8_mergeRemoved_2, rfl⟩ ?_
  clear hv1
  refine Ev.if_ne jX8_mergeRemoved_5 (fun hc => ?_) (fun hc => ?_)
  · replace h := (if_neg hc).symm.trans h; clear hc
    refine Ev.iconst ⟨dX8_mergeRemoved_9, rfl⟩ (inRd rfl) ?_
    refine Ev.istore_n (i := 3) (ls' := [(0, _), (1, _), (2, _), (3, _)]) ⟨dX8_mergeRemoved_10, rfl⟩ rfl (by decide) rfl ?_
    refine Ev.iload_n (q := 2) ⟨dX8_mergeRemoved_11, rfl⟩ rfl rfl ?_
    refine Ev.istore (i := 4) (ls' := [(0, _), (1, _), (2, _), (3, _), (4, _)]) ⟨dX8_mergeRemoved_12, rfl⟩ (by decide) rfl ?_
    obtain ⟨s15, hl, h⟩ := bnd_s h
    refine e_X8_mergeRemoved_14 Θ D z _ _ _ _ _ _ _ _ _ _ _ hl ?_
    clear hl
    refine Ev.iload_n (q := 3) ⟨dX8_mergeRemoved_70, rfl⟩ rfl rfl ?_
    refine Ev.if_eq jX8_mergeRemoved_71 (fun hc => ?_) (fun hc => ?_)
    · replace h := (if_pos hc).symm.trans h; clear hc
      refine Ev.aload_n (q := 0) ⟨dX8_mergeRemoved_82, rfl⟩ rfl rfl ?_
      refine Ev.iconst ⟨dX8_mergeRemoved_83, rfl⟩ (inRd rfl) ?_
      refine Ev.iload_n (q := 2) ⟨dX8_mergeRemoved_84, rfl⟩ rfl rfl ?_
      refine Ev.iconst ⟨dX8_mergeRemoved_85, rfl⟩ (inRd rfl) ?_
      refine Ev.iconst ⟨dX8_mergeRemoved_86, rfl⟩ (inRd rfl) ?_
      refine Ev.iload_n (q := 1) ⟨dX8_mergeRemoved_87, rfl⟩ rfl rfl ?_
      obtain ⟨r17, hv16, h⟩ := bnd_s h
      refine Ev.callVN (mc1 := 0) (ms1 := 0) (h1 := hq D r17) vX8_234 (c_X8_object Θ D z _ _ _ _ _ _ _ _ hv16) rfl rfl (by decide) rfl ⟨by decide, by decide, Nat.le_of_eq (Nat.zero_add _), Nat.le_of_eq (Nat.zero_add _), Nat.le_of_ble_eq_true rfl⟩ ⟨dX8_mergeRemoved_88, rfl⟩ ?_
      clear hv16
      obtain rfl := Option.some.inj h
      exact Ev.ret ⟨dX8_mergeRemoved_91, rfl⟩ rfl ⟨rfl, rfl⟩
    · replace h := (if_neg hc).symm.trans h; clear hc
      refine Ev.aload_n (q := 0) ⟨dX8_mergeRemoved_74, rfl⟩ rfl rfl ?_
      refine Ev.iload_n (q := 2) ⟨dX8_mergeRemoved_75, rfl⟩ rfl rfl ?_
      obtain ⟨r19, hv18, h⟩ := bnd_s h
      refine Ev.callVN (mc1 := 0) (ms1 := 0) (h1 := hq D r19) vX8_259 (c_X8_kill Θ D z _ _ _ _ hv18) rfl rfl (by decide) rfl ⟨by decide, by decide, Nat.le_of_eq (Nat.zero_add _), Nat.le_of_eq (Nat.zero_add _), Nat.le_of_ble_eq_true rfl⟩ ⟨dX8_mergeRemoved_76, rfl⟩ ?_
      clear hv18
      refine Ev.goto jX8_mergeRemoved_79 ?_
      obtain rfl := Option.some.inj h
      exact Ev.ret ⟨dX8_mergeRemoved_91, rfl⟩ rfl ⟨rfl, rfl⟩
  · replace h := (if_pos hc).symm.trans h; clear hc
    obtain rfl := Option.some.inj h
    exact Ev.ret ⟨dX8_mergeRemoved_8, rfl⟩ rfl ⟨rfl, rfl⟩

def F_X8_isTop (z : Nat) (v0 : Nat) (v1 : Int) (v2 : Int) (x : Mm) : Option (Int) := (F_X8_is z (v0) (v1) ((0 : Int)) (v2) x).bind fun r2 => if r2 = 0 then (some ((0 : Int))) else ((F_X8_is z (v0) (v1) ((60 : Int)) (v2) x).bind fun r4 => if r4 = 0 then (ckR (((11 : Int) + v2)) <| ckI ((11 : Int) + v2) 5366 <| (F_X8_is z (v0) (v1) ((60 : Int)) ((x.1 27 0 (((11 : Int) + v2)).toNat)) x).bind fun r8 => if r8 = 0 then (some ((0 : Int))) else (some ((1 : Int)))) else (some ((0 : Int))))
set_option maxHeartbeats 4000000 in
set_option maxRecDepth 20000 in
theorem c_X8_isTop (Θ : GC) (D : Nat → Nat → Prop) (z : Nat) (v0 : Nat) (v1 : Int) (v2 : Int) (x : Mm) (y) (h : F_X8_isTop z v0 v1 v2 x = some y) : Cal Θ mX8_isTop 2 45 0 0 [vr 8 (v0 + 1), vi (v1), vi (v2)] (hq D x) (Ret (vi y) (hq D x)) := by
  refine Cal.of (by decide +kernel) rfl rfl (Nat.le_of_ble_eq_true rfl) ?_
  show Ev Θ mX8_isTop 2 45 0 0 0 [(0, vr 8 (v0 + 1)), (1, vi (v1)), (2, vi (v2))] [] (hq D x) (Ret (vi y) (hq D x))
  unfold F_X8_isTop at h
  refine Ev.aload_n (q := 0) ⟨dX8_isTop_0, rfl⟩ rfl rfl ?_
  refine Ev.iload_n (q := 1) ⟨dX8_isTop_1, rfl⟩ rfl rfl ?_
  refine Ev.iconst ⟨dX8_isTop_2, rfl⟩ (inRd rfl) ?_
  refine Ev.iload_n (q := 2) ⟨dX8_isTop_3, rfl⟩ rfl rfl ?_
  obtain ⟨r2, hv1, h⟩ := bnd_s h
  refine Ev.callV1 (mc1 := 0) (ms1 := 0) (v := vi r2) (h1 := hq D x) vX8_209 (c_X8_is Θ D z _ _ _ _ _ _ hv1) rfl rfl (by decide) rfl ⟨by decide, by decide, Nat.le_of_eq (Nat.zero_add _), Nat.le_of_eq (Nat.zero_add _), Nat.le_of_ble_eq_true rfl⟩ ⟨dX8_isTop_4, rfl⟩ ?_
  clear hv1
  refine Ev.if_eq jX8_isTop_7 (fun hc => ?_) (fun hc => ?_)
  · replace h := (if_pos hc).symm.trans h; clear hc
    refine Ev.iconst ⟨dX8_isTop_44, rfl⟩ (inRd rfl) ?_
    obtain rfl := Option.some.inj h
    exact Ev.ireturn (ty := .boolean) ⟨dX8_isTop_45, rfl⟩ rfl rfl ⟨rfl, rfl⟩
  · replace h := (if_neg hc).symm.trans h; clear hc
    refine Ev.aload_n (q := 0) ⟨dX8_isTop_10, rfl⟩ rfl rfl ?_
    refine Ev.iload_n (q := 1) ⟨dX8_isTop_11, rfl⟩ rfl rfl ?_
    refine Ev.bipush ⟨dX8_isTop_12, rfl⟩ (inRd rfl) (by decide) ?_
    refine Ev.iload_n (q := 2) ⟨dX8_isTop_14, rfl⟩ rfl rfl ?_
    obtain ⟨r4, hv3, h⟩ := bnd_s h
    refine Ev.callV1 (mc1 := 0) (ms1 := 0) (v := vi r4) (h1 := hq D x) vX8_209 (c_X8_is Θ D z _ _ _ _ _ _ hv3) rfl rfl (by decide) rfl ⟨by decide, by decide, Nat.le_of_eq (Nat.zero_add _), Nat.le_of_eq (Nat.zero_add _), Nat.le_of_ble_eq_true rfl⟩ ⟨dX8_isTop_15, rfl⟩ ?_
    clear hv3
    refine Ev.if_ne jX8_isTop_18 (fun hc => ?_) (fun hc => ?_)
    · replace h := (if_neg hc).symm.trans h; clear hc
      refine Ev.iconst ⟨dX8_isTop_44, rfl⟩ (inRd rfl) ?_
      obtain rfl := Option.some.inj h
      exact Ev.ireturn (ty := .boolean) ⟨dX8_isTop_45, rfl⟩ rfl rfl ⟨rfl, rfl⟩
    · replace h := (if_pos hc).symm.trans h; clear hc
      refine Ev.aload_n (q := 0) ⟨dX8_isTop_21, rfl⟩ rfl rfl ?_
      refine Ev.iload_n (q := 1) ⟨dX8_isTop_22, rfl⟩ rfl rfl ?_
      refine Ev.bipush ⟨dX8_isTop_23, rfl⟩ (inRd rfl) (by decide) ?_
      refine Ev.aload_n (q := 0) ⟨dX8_isTop_25, rfl⟩ rfl rfl ?_
      refine Ev.getRk (C2 := 27) (r := 0) fX8_13 rfl (by decide) (by decide) ⟨dX8_isTop_26, rfl⟩ ?_
      refine Ev.bipush ⟨dX8_isTop_29, rfl⟩ (inRd rfl) (by decide) ?_
      refine Ev.iload_n (q := 2) ⟨dX8_isTop_31, rfl⟩ rfl rfl ?_
      obtain ⟨c5, h⟩ := ckR_s h
      refine Ev.iadd ⟨dX8_isTop_32, rfl⟩ c5 ?_
      obtain ⟨c6, h⟩ := ckI_s h
      refine Ev.iaload (by decide) c6.1 c6.2 ⟨dX8_isTop_33, rfl⟩ ?_
      obtain ⟨r8, hv7, h⟩ := bnd_s h
      refine Ev.callV1 (mc1 := 0) (ms1 := 0) (v := vi r8) (h1 := hq D x) vX8_209 (c_X8_is Θ D z _ _ _ _ _ _ hv7) rfl rfl (by decide) rfl ⟨by decide, by decide, Nat.le_of_eq (Nat.zero_add _), Nat.le_of_eq (Nat.zero_add _), Nat.le_of_ble_eq_true rfl⟩ ⟨dX8_isTop_34, rfl⟩ ?_
      clear hv7
      refine Ev.if_eq jX8_isTop_37 (fun hc => ?_) (fun hc => ?_)
      · replace h := (if_pos hc).symm.trans h; clear hc
        refine Ev.iconst ⟨dX8_isTop_44, rfl⟩ (inRd rfl) ?_
        obtain rfl := Option.some.inj h
        exact Ev.ireturn (ty := .boolean) ⟨dX8_isTop_45, rfl⟩ rfl rfl ⟨rfl, rfl⟩
      · replace h := (if_neg hc).symm.trans h; clear hc
        refine Ev.iconst ⟨dX8_isTop_40, rfl⟩ (inRd rfl) ?_
        refine Ev.goto jX8_isTop_41 ?_
        obtain rfl := Option.some.inj h
        exact Ev.ireturn (ty := .boolean) ⟨dX8_isTop_45, rfl⟩ rfl rfl ⟨rfl, rfl⟩

def F_X8_endLease_45 (z : Nat) (v0 : Nat) (v1 : Int) : Nat → Int → Mm → Option (Mm)
  | 0, _, _ => none
  | k + 1, v2, x => if (900 : Int) ≤ v2 then (some (x)) else ((F_X8_partOf z (v1) ((0 : Int)) (v2) x).bind fun r16 => ckI r16 5366 <| (some (wI x 27 0 (r16).toNat ((0 : Int)))).bind fun x18 => ckR ((v2 + 1)) <| F_X8_endLease_45 z v0 v1 k ((v2 + 1)) x18)
set_option maxHeartbeats 4000000 in
set_option maxRecDepth 20000 in
theorem e_X8_endLease_45 (Θ : GC) (D : Nat → Nat → Prop) (z : Nat) (v0 : Nat) (v1 : Int) (Q : Ro → Hp → Prop) (mc ms : Nat) : ∀ (k : Nat) (v2 : Int) (x : Mm) (y), F_X8_endLease_45 z v0 v1 k v2 x = some y → (Ev Θ mX8_endLease 1 22 mc ms 70 [(0, vr 8 (v0 + 1)), (1, vi (v1))] [] (hq D y) Q) → Ev Θ mX8_endLease 1 22 mc ms 45 [(0, vr 8 (v0 + 1)), (1, vi (v1)), (2, vi (v2))] [] (hq D x) Q := by
  intro k
  induction k with
  | zero => intro v2 x y h; exact absurd h (by unfold F_X8_endLease_45; exact nofun)
  | succ k ih =>
    intro v2 x y h k1
    unfold F_X8_endLease_45 at h
    refine Ev.iload_n (q := 2) ⟨dX8_endLease_45, rfl⟩ rfl rfl ?_
    refine Ev.sipush ⟨dX8_endLease_46, rfl⟩ (inRd rfl) (by decide) ?_
    refine Ev.icmp_ge jX8_endLease_49 (fun hc => ?_) (fun hc => ?_)
    · replace h := (if_pos hc).symm.trans h; clear hc
      refine Ev.keep [0, 1] rfl ?_
      obtain rfl := Option.some.inj h
      exact k1
    · replace h := (if_neg hc).symm.trans h; clear hc
      refine Ev.aload_n (q := 0) ⟨dX8_endLease_52, rfl⟩ rfl rfl ?_
      refine Ev.getRk (C2 := 27) (r := 0) fX8_13 rfl (by decide) (by decide) ⟨dX8_endLease_53, rfl⟩ ?_
      refine Ev.iload_n (q := 1) ⟨dX8_endLease_56, rfl⟩ rfl rfl ?_
      refine Ev.iconst ⟨dX8_endLease_57, rfl⟩ (inRd rfl) ?_
      refine Ev.iload_n (q := 2) ⟨dX8_endLease_58, rfl⟩ rfl rfl ?_
      obtain ⟨r16, hv15, h⟩ := bnd_s h
      refine Ev.callS1 (mc1 := mc) (ms1 := ms) (v := vi r16) (h1 := hq D x) sX8_173 (c_X8_partOf Θ D z _ _ _ _ _ hv15) rfl rfl ⟨by decide, by decide, Nat.le_of_eq (Nat.zero_add _), Nat.le_of_eq (Nat.zero_add _), Nat.le_of_ble_eq_true rfl⟩ ⟨dX8_endLease_59, rfl⟩ ?_
      clear hv15
      refine Ev.iconst ⟨dX8_endLease_62, rfl⟩ (inRd rfl) ?_
      obtain ⟨c17, h⟩ := ckI_s h
      obtain ⟨x18, ex, h⟩ := bnd_s h
      refine Ev.iastore (by decide) c17.1 c17.2 ⟨dX8_endLease_63, rfl⟩ ?_
      refine Ev.cast ?_ rfl rfl (hqI ex)
      clear ex
      obtain ⟨c19, h⟩ := ckR_s h
      refine Ev.iinc (q := 2) (ls' := [(0, _), (1, _), (2, _)]) ⟨dX8_endLease_64, rfl⟩ rfl (by decide) c19 rfl ?_
      refine Ev.goto jX8_endLease_67 ?_
      exact ih _ _ _ h k1
def F_X8_endLease (z : Nat) (v0 : Nat) (v1 : Int) (x : Mm) : Option (Mm) := ckR (((3 : Int) * v1)) <| ckR (((611 : Int) + ((3 : Int) * v1))) <| ckI ((611 : Int) + ((3 : Int) * v1)) 5366 <| (some (wI x 27 0 (((611 : Int) + ((3 : Int) * v1))).toNat ((-1 : Int)))).bind fun x4 => ckR (((3 : Int) * v1)) <| ckR (((611 : Int) + ((3 : Int) * v1))) <| ckR ((((611 : Int) + ((3 : Int) * v1)) + (1 : Int))) <| ckI (((611 : Int) + ((3 : Int) * v1)) + (1 : Int)) 5366 <| (some (wI x4 27 0 ((((611 : Int) + ((3 : Int) * v1)) + (1 : Int))).toNat ((0 : Int)))).bind fun x9 => ckR (((3 : Int) * v1)) <| ckR (((611 : Int) + ((3 : Int) * v1))) <| ckR ((((611 : Int) + ((3 : Int) * v1)) + (2 : Int))) <| ckI (((611 : Int) + ((3 : Int) * v1)) + (2 : Int)) 5366 <| (some (wI x9 27 0 ((((611 : Int) + ((3 : Int) * v1)) + (2 : Int))).toNat ((0 : Int)))).bind fun x14 => (F_X8_endLease_45 z (v0) (v1) z ((0 : Int)) x14).bind fun s20 => some (s20)
set_option maxHeartbeats 4000000 in
set_option maxRecDepth 20000 in
theorem c_X8_endLease (Θ : GC) (D : Nat → Nat → Prop) (z : Nat) (v0 : Nat) (v1 : Int) (x : Mm) (y) (h : F_X8_endLease z v0 v1 x = some y) : Cal Θ mX8_endLease 1 22 0 0 [vr 8 (v0 + 1), vi (v1)] (hq D x) (RetN (hq D y)) := by
  refine Cal.of (by decide +kernel) rfl rfl (Nat.le_of_ble_eq_true rfl) ?_
  show Ev Θ mX8_endLease 1 22 0 0 0 [(0, vr 8 (v0 + 1)), (1, vi (v1))] [] (hq D x) (RetN (hq D y))
  unfold F_X8_endLease at h
  refine Ev.aload_n (q := 0) ⟨dX8_endLease_0, rfl⟩ rfl rfl ?_
  refine Ev.getRk (C2 := 27) (r := 0) fX8_13 rfl (by decide) (by decide) ⟨dX8_endLease_1, rfl⟩ ?_
  refine Ev.sipush ⟨dX8_endLease_4, rfl⟩ (inRd rfl) (by decide) ?_
  refine Ev.iconst ⟨dX8_endLease_7, rfl⟩ (inRd rfl) ?_
  refine Ev.iload_n (q := 1) ⟨dX8_endLease_8, rfl⟩ rfl rfl ?_
  obtain ⟨c1, h⟩ := ckR_s h
  refine Ev.imul ⟨dX8_endLease_9, rfl⟩ c1 ?_
  obtain ⟨c2, h⟩ := ckR_s h
  refine Ev.iadd ⟨dX8_endLease_10, rfl⟩ c2 ?_
  refine Ev.iconst ⟨dX8_endLease_11, rfl⟩ (inRd rfl) ?_
  obtain ⟨c3, h⟩ := ckI_s h
  obtain ⟨x4, ex, h⟩ := bnd_s h
  refine Ev.iastore (by decide) c3.1 c3.2 ⟨dX8_endLease_12, rfl⟩ ?_
  refine Ev.cast ?_ rfl rfl (hqI ex)
  clear ex
  refine Ev.aload_n (q := 0) ⟨dX8_endLease_13, rfl⟩ rfl rfl ?_
  refine Ev.getRk (C2 := 27) (r := 0) fX8_13 rfl (by decide) (by decide) ⟨dX8_endLease_14, rfl⟩ ?_
  refine Ev.sipush ⟨dX8_endLease_17, rfl⟩ (inRd rfl) (by decide) ?_
  refine Ev.iconst ⟨dX8_endLease_20, rfl⟩ (inRd rfl) ?_
  refine Ev.iload_n (q := 1) ⟨dX8_endLease_21, rfl⟩ rfl rfl ?_
  obtain ⟨c5, h⟩ := ckR_s h
  refine Ev.imul ⟨dX8_endLease_22, rfl⟩ c5 ?_
  obtain ⟨c6, h⟩ := ckR_s h
  refine Ev.iadd ⟨dX8_endLease_23, rfl⟩ c6 ?_
  refine Ev.iconst ⟨dX8_endLease_24, rfl⟩ (inRd rfl) ?_
  obtain ⟨c7, h⟩ := ckR_s h
  refine Ev.iadd ⟨dX8_endLease_25, rfl⟩ c7 ?_
  refine Ev.iconst ⟨dX8_endLease_26, rfl⟩ (inRd rfl) ?_
  obtain ⟨c8, h⟩ := ckI_s h
  obtain ⟨x9, ex, h⟩ := bnd_s h
  refine Ev.iastore (by decide) c8.1 c8.2 ⟨dX8_endLease_27, rfl⟩ ?_
  refine Ev.cast ?_ rfl rfl (hqI ex)
  clear ex
  refine Ev.aload_n (q := 0) ⟨dX8_endLease_28, rfl⟩ rfl rfl ?_
  refine Ev.getRk (C2 := 27) (r := 0) fX8_13 rfl (by decide) (by decide) ⟨dX8_endLease_29, rfl⟩ ?_
  refine Ev.sipush ⟨dX8_endLease_32, rfl⟩ (inRd rfl) (by decide) ?_
  refine Ev.iconst ⟨dX8_endLease_35, rfl⟩ (inRd rfl) ?_
  refine Ev.iload_n (q := 1) ⟨dX8_endLease_36, rfl⟩ rfl rfl ?_
  obtain ⟨c10, h⟩ := ckR_s h
  refine Ev.imul ⟨dX8_endLease_37, rfl⟩ c10 ?_
  obtain ⟨c11, h⟩ := ckR_s h
  refine Ev.iadd ⟨dX8_endLease_38, rfl⟩ c11 ?_
  refine Ev.iconst ⟨dX8_endLease_39, rfl⟩ (inRd rfl) ?_
  obtain ⟨c12, h⟩ := ckR_s h
  refine Ev.iadd ⟨dX8_endLease_40, rfl⟩ c12 ?_
  refine Ev.iconst ⟨dX8_endLease_41, rfl⟩ (inRd rfl) ?_
  obtain ⟨c13, h⟩ := ckI_s h
  obtain ⟨x14, ex, h⟩ := bnd_s h
  refine Ev.iastore (by decide) c13.1 c13.2 ⟨dX8_endLease_42, rfl⟩ ?_
  refine Ev.cast ?_ rfl rfl (hqI ex)
  clear ex
  refine Ev.iconst ⟨dX8_endLease_43, rfl⟩ (inRd rfl) ?_
  refine Ev.istore_n (i := 2) (ls' := [(0, _), (1, _), (2, _)]) ⟨dX8_endLease_44, rfl⟩ rfl (by decide) rfl ?_
  obtain ⟨s20, hl, h⟩ := bnd_s h
  refine e_X8_endLease_45 Θ D z _ _ _ _ _ _ _ _ _ hl ?_
  clear hl
  obtain rfl := Option.some.inj h
  exact Ev.ret ⟨dX8_endLease_70, rfl⟩ rfl ⟨rfl, rfl⟩

def F_X8_merge_7 (z : Nat) (v0 : Nat) (v1 : Int) : Nat → Int → Mm → Option (Mm)
  | 0, _, _ => none
  | k + 1, v2, x => ckI (3 : Int) 5366 <| if (x.1 27 0 ((3 : Int)).toNat) ≤ v2 then (some (x)) else ((F_X8_is z (v0) (v1) ((120 : Int)) (v2) x).bind fun r4 => if r4 = 0 then (ckR ((v2 + 1)) <| F_X8_merge_7 z v0 v1 k ((v2 + 1)) x) else ((F_X8_is z (v0) (v1) ((60 : Int)) (v2) x).bind fun r7 => if r7 = 0 then (ckR ((v2 + 1)) <| F_X8_merge_7 z v0 v1 k ((v2 + 1)) x) else ((F_X8_mergeAdded z (v0) (v1) (v2) x).bind fun r10 => ckR ((v2 + 1)) <| F_X8_merge_7 z v0 v1 k ((v2 + 1)) r10)))
set_option maxHeartbeats 4000000 in
set_option maxRecDepth 20000 in
theorem e_X8_merge_7 (Θ : GC) (D : Nat → Nat → Prop) (z : Nat) (v0 : Nat) (v1 : Int) (Q : Ro → Hp → Prop) (mc ms : Nat) : ∀ (k : Nat) (v2 : Int) (x : Mm) (y), F_X8_merge_7 z v0 v1 k v2 x = some y → (Ev Θ mX8_merge 5 115 mc ms 51 [(0, vr 8 (v0 + 1)), (1, vi (v1))] [] (hq D y) Q) → Ev Θ mX8_merge 5 115 mc ms 7 [(0, vr 8 (v0 + 1)), (1, vi (v1)), (2, vi (v2))] [] (hq D x) Q := by
  intro k
  induction k with
  | zero => intro v2 x y h; exact absurd h (by unfold F_X8_merge_7; exact nofun)
  | succ k ih =>
    intro v2 x y h k1
    unfold F_X8_merge_7 at h
    refine Ev.iload_n (q := 2) ⟨dX8_merge_7, rfl⟩ rfl rfl ?_
    refine Ev.aload_n (q := 0) ⟨dX8_merge_8, rfl⟩ rfl rfl ?_
    refine Ev.getRk (C2 := 27) (r := 0) fX8_13 rfl (by decide) (by decide) ⟨dX8_merge_9, rfl⟩ ?_
    refine Ev.iconst ⟨dX8_merge_12, rfl⟩ (inRd rfl) ?_
    obtain ⟨c2, h⟩ := ckI_s h
    refine Ev.iaload (by decide) c2.1 c2.2 ⟨dX8_merge_13, rfl⟩ ?_
    refine Ev.icmp_ge jX8_merge_14 (fun hc => ?_) (fun hc => ?_)
    · replace h := (if_pos hc).symm.trans h; clear hc
      refine Ev.keep [0, 1] rfl ?_
      obtain rfl := Option.some.inj h
      exact k1
    · replace h := (if_neg hc).symm.trans h; clear hc
      refine Ev.aload_n (q := 0) ⟨dX8_merge_17, rfl⟩ rfl rfl ?_
      refine Ev.iload_n (q := 1) ⟨dX8_merge_18, rfl⟩ rfl rfl ?_
      refine Ev.bipush ⟨dX8_merge_19, rfl⟩ (inRd rfl) (by decide) ?_
      refine Ev.iload_n (q := 2) ⟨dX8_merge_21, rfl⟩ rfl rfl ?_
      obtain ⟨r4, hv3, h⟩ := bnd_s h
      refine Ev.callV1 (mc1 := mc) (ms1 := ms) (v := vi r4) (h1 := hq D x) vX8_209 (c_X8_is Θ D z _ _ _ _ _ _ hv3) rfl rfl (by decide) rfl ⟨by decide, by decide, Nat.le_of_eq (Nat.zero_add _), Nat.le_of_eq (Nat.zero_add _), Nat.le_of_ble_eq_true rfl⟩ ⟨dX8_merge_22, rfl⟩ ?_
      clear hv3
      refine Ev.if_eq jX8_merge_25 (fun hc => ?_) (fun hc => ?_)
      · replace h := (if_pos hc).symm.trans h; clear hc
        obtain ⟨c5, h⟩ := ckR_s h
        refine Ev.iinc (q := 2) (ls' := [(0, _), (1, _), (2, _)]) ⟨dX8_merge_45, rfl⟩ rfl (by decide) c5 rfl ?_
        refine Ev.goto jX8_merge_48 ?_
        exact ih _ _ _ h k1
      · replace h := (if_neg hc).symm.trans h; clear hc
        refine Ev.aload_n (q := 0) ⟨dX8_merge_28, rfl⟩ rfl rfl ?_
        refine Ev.iload_n (q := 1) ⟨dX8_merge_29, rfl⟩ rfl rfl ?_
        refine Ev.bipush ⟨dX8_merge_30, rfl⟩ (inRd rfl) (by decide) ?_
        refine Ev.iload_n (q := 2) ⟨dX8_merge_32, rfl⟩ rfl rfl ?_
        obtain ⟨r7, hv6, h⟩ := bnd_s h
        refine Ev.callV1 (mc1 := mc) (ms1 := ms) (v := vi r7) (h1 := hq D x) vX8_209 (c_X8_is Θ D z _ _ _ _ _ _ hv6) rfl rfl (by decide) rfl ⟨by decide, by decide, Nat.le_of_eq (Nat.zero_add _), Nat.le_of_eq (Nat.zero_add _), Nat.le_of_ble_eq_true rfl⟩ ⟨dX8_merge_33, rfl⟩ ?_
        clear hv6
        refine Ev.if_eq jX8_merge_36 (fun hc => ?_) (fun hc => ?_)
        · replace h := (if_pos hc).symm.trans h; clear hc
          obtain ⟨c8, h⟩ := ckR_s h
          refine Ev.iinc (q := 2) (ls' := [(0, _), (1, _), (2, _)]) ⟨dX8_merge_45, rfl⟩ rfl (by decide) c8 rfl ?_
          refine Ev.goto jX8_merge_48 ?_
          exact ih _ _ _ h k1
        · replace h := (if_neg hc).symm.trans h; clear hc
          refine Ev.aload_n (q := 0) ⟨dX8_merge_39, rfl⟩ rfl rfl ?_
          refine Ev.iload_n (q := 1) ⟨dX8_merge_40, rfl⟩ rfl rfl ?_
          refine Ev.iload_n (q := 2) ⟨dX8_merge_41, rfl⟩ rfl rfl ?_
          obtain ⟨r10, hv9, h⟩ := bnd_s h
          refine Ev.callVN (mc1 := mc) (ms1 := ms) (h1 := hq D r10) vX8_262 (c_X8_mergeAdded Θ D z _ _ _ _ _ hv9) rfl rfl (by decide) rfl ⟨by decide, by decide, Nat.le_of_eq (Nat.zero_add _), Nat.le_of_eq (Nat.zero_add _), Nat.le_of_ble_eq_true rfl⟩ ⟨dX8_merge_42, rfl⟩ ?_
          clear hv9
          obtain ⟨c11, h⟩ := ckR_s h
          refine Ev.iinc (q := 2) (ls' := [(0, _), (1, _), (2, _)]) ⟨dX8_merge_45, rfl⟩ rfl (by decide) c11 rfl ?_
          refine Ev.goto jX8_merge_48 ?_
          exact ih _ _ _ h k1

def F_X8_merge_53 (z : Nat) (v0 : Nat) (v1 : Int) : Nat → Int → Mm → Option (Mm)
  | 0, _, _ => none
  | k + 1, v2, x => ckI (3 : Int) 5366 <| if (x.1 27 0 ((3 : Int)).toNat) ≤ v2 then (some (x)) else ((F_X8_mergeChanged z (v0) (v1) (v2) x).bind fun r15 => ckR ((v2 + 1)) <| F_X8_merge_53 z v0 v1 k ((v2 + 1)) r15)
set_option maxHeartbeats 4000000 in
set_option maxRecDepth 20000 in
theorem e_X8_merge_53 (Θ : GC) (D : Nat → Nat → Prop) (z : Nat) (v0 : Nat) (v1 : Int) (Q : Ro → Hp → Prop) (mc ms : Nat) : ∀ (k : Nat) (v2 : Int) (x : Mm) (y), F_X8_merge_53 z v0 v1 k v2 x = some y → (Ev Θ mX8_merge 5 115 mc ms 75 [(0, vr 8 (v0 + 1)), (1, vi (v1))] [] (hq D y) Q) → Ev Θ mX8_merge 5 115 mc ms 53 [(0, vr 8 (v0 + 1)), (1, vi (v1)), (2, vi (v2))] [] (hq D x) Q := by
  intro k
  induction k with
  | zero => intro v2 x y h; exact absurd h (by unfold F_X8_merge_53; exact nofun)
  | succ k ih =>
    intro v2 x y h k1
    unfold F_X8_merge_53 at h
    refine Ev.iload_n (q := 2) ⟨dX8_merge_53, rfl⟩ rfl rfl ?_
    refine Ev.aload_n (q := 0) ⟨dX8_merge_54, rfl⟩ rfl rfl ?_
    refine Ev.getRk (C2 := 27) (r := 0) fX8_13 rfl (by decide) (by decide) ⟨dX8_merge_55, rfl⟩ ?_
    refine Ev.iconst ⟨dX8_merge_58, rfl⟩ (inRd rfl) ?_
    obtain ⟨c13, h⟩ := ckI_s h
    refine Ev.iaload (by decide) c13.1 c13.2 ⟨dX8_merge_59, rfl⟩ ?_
    refine Ev.icmp_ge jX8_merge_60 (fun hc => ?_) (fun hc => ?_)
    · replace h := (if_pos hc).symm.trans h; clear hc
      refine Ev.keep [0, 1] rfl ?_
      obtain rfl := Option.some.inj h
      exact k1
    · replace h := (if_neg hc).symm.trans h; clear hc
      refine Ev.aload_n (q := 0) ⟨dX8_merge_63, rfl⟩ rfl rfl ?_
      refine Ev.iload_n (q := 1) ⟨dX8_merge_64, rfl⟩ rfl rfl ?_
      refine Ev.iload_n (q := 2) ⟨dX8_merge_65, rfl⟩ rfl rfl ?_
      obtain ⟨r15, hv14, h⟩ := bnd_s h
      refine Ev.callVN (mc1 := mc) (ms1 := ms) (h1 := hq D r15) vX8_266 (c_X8_mergeChanged Θ D z _ _ _ _ _ hv14) rfl rfl (by decide) rfl ⟨by decide, by decide, Nat.le_of_eq (Nat.zero_add _), Nat.le_of_eq (Nat.zero_add _), Nat.le_of_ble_eq_true rfl⟩ ⟨dX8_merge_66, rfl⟩ ?_
      clear hv14
      obtain ⟨c16, h⟩ := ckR_s h
      refine Ev.iinc (q := 2) (ls' := [(0, _), (1, _), (2, _)]) ⟨dX8_merge_69, rfl⟩ rfl (by decide) c16 rfl ?_
      refine Ev.goto jX8_merge_72 ?_
      exact ih _ _ _ h k1

def F_X8_merge_77 (z : Nat) (v0 : Nat) (v1 : Int) : Nat → Int → Mm → Option (Mm)
  | 0, _, _ => none
  | k + 1, v2, x => ckI (3 : Int) 5366 <| if (x.1 27 0 ((3 : Int)).toNat) ≤ v2 then (some (x)) else ((F_X8_isTop z (v0) (v1) (v2) x).bind fun r20 => if r20 = 0 then (ckR ((v2 + 1)) <| F_X8_merge_77 z v0 v1 k ((v2 + 1)) x) else ((F_X8_mergeRemoved z (v0) (v1) (v2) x).bind fun r23 => ckR ((v2 + 1)) <| F_X8_merge_77 z v0 v1 k ((v2 + 1)) r23))
set_option maxHeartbeats 4000000 in
set_option maxRecDepth 20000 in
theorem e_X8_merge_77 (Θ : GC) (D : Nat → Nat → Prop) (z : Nat) (v0 : Nat) (v1 : Int) (Q : Ro → Hp → Prop) (mc ms : Nat) : ∀ (k : Nat) (v2 : Int) (x : Mm) (y), F_X8_merge_77 z v0 v1 k v2 x = some y → (Ev Θ mX8_merge 5 115 mc ms 108 [(0, vr 8 (v0 + 1)), (1, vi (v1))] [] (hq D y) Q) → Ev Θ mX8_merge 5 115 mc ms 77 [(0, vr 8 (v0 + 1)), (1, vi (v1)), (2, vi (v2))] [] (hq D x) Q := by
  intro k
  induction k with
  | zero => intro v2 x y h; exact absurd h (by unfold F_X8_merge_77; exact nofun)
  | succ k ih =>
    intro v2 x y h k1
    unfold F_X8_merge_77 at h
    refine Ev.iload_n (q := 2) ⟨dX8_merge_77, rfl⟩ rfl rfl ?_
    refine Ev.aload_n (q := 0) ⟨dX8_merge_78, rfl⟩ rfl rfl ?_
    refine Ev.getRk (C2 := 27) (r := 0) fX8_13 rfl (by decide) (by decide) ⟨dX8_merge_79, rfl⟩ ?_
    refine Ev.iconst ⟨dX8_merge_82, rfl⟩ (inRd rfl) ?_
    obtain ⟨c18, h⟩ := ckI_s h
    refine Ev.iaload (by decide) c18.1 c18.2 ⟨dX8_merge_83, rfl⟩ ?_
    refine Ev.icmp_ge jX8_merge_84 (fun hc => ?_) (fun hc => ?_)
    · replace h := (if_pos hc).symm.trans h; clear hc
      refine Ev.keep [0, 1] rfl ?_
      obtain rfl := Option.some.inj h
      exact k1
    · replace h := (if_neg hc).symm.trans h; clear hc
      refine Ev.aload_n (q := 0) ⟨dX8_merge_87, rfl⟩ rfl rfl ?_
      refine Ev.iload_n (q := 1) ⟨dX8_merge_88, rfl⟩ rfl rfl ?_
      refine Ev.iload_n (q := 2) ⟨dX8_merge_89, rfl⟩ rfl rfl ?_
      obtain ⟨r20, hv19, h⟩ := bnd_s h
      refine Ev.callV1 (mc1 := mc) (ms1 := ms) (v := vi r20) (h1 := hq D x) vX8_269 (c_X8_isTop Θ D z _ _ _ _ _ hv19) rfl rfl (by decide) rfl ⟨by decide, by decide, Nat.le_of_eq (Nat.zero_add _), Nat.le_of_eq (Nat.zero_add _), Nat.le_of_ble_eq_true rfl⟩ ⟨dX8_merge_90, rfl⟩ ?_
      clear hv19
      refine Ev.if_eq jX8_merge_93 (fun hc => ?_) (fun hc => ?_)
      · replace h := (if_pos hc).symm.trans h; clear hc
        obtain ⟨c21, h⟩ := ckR_s h
        refine Ev.iinc (q := 2) (ls' := [(0, _), (1, _), (2, _)]) ⟨dX8_merge_102, rfl⟩ rfl (by decide) c21 rfl ?_
        refine Ev.goto jX8_merge_105 ?_
        exact ih _ _ _ h k1
      · replace h := (if_neg hc).symm.trans h; clear hc
        refine Ev.aload_n (q := 0) ⟨dX8_merge_96, rfl⟩ rfl rfl ?_
        refine Ev.iload_n (q := 1) ⟨dX8_merge_97, rfl⟩ rfl rfl ?_
        refine Ev.iload_n (q := 2) ⟨dX8_merge_98, rfl⟩ rfl rfl ?_
        obtain ⟨r23, hv22, h⟩ := bnd_s h
        refine Ev.callVN (mc1 := mc) (ms1 := ms) (h1 := hq D r23) vX8_272 (c_X8_mergeRemoved Θ D z _ _ _ _ _ hv22) rfl rfl (by decide) rfl ⟨by decide, by decide, Nat.le_of_eq (Nat.zero_add _), Nat.le_of_eq (Nat.zero_add _), Nat.le_of_ble_eq_true rfl⟩ ⟨dX8_merge_99, rfl⟩ ?_
        clear hv22
        obtain ⟨c24, h⟩ := ckR_s h
        refine Ev.iinc (q := 2) (ls' := [(0, _), (1, _), (2, _)]) ⟨dX8_merge_102, rfl⟩ rfl (by decide) c24 rfl ?_
        refine Ev.goto jX8_merge_105 ?_
        exact ih _ _ _ h k1
def F_X8_merge (z : Nat) (v0 : Nat) (v1 : Int) (x : Mm) : Option (Int × Mm) := (some (wI x 8 v0 14 ((0 : Int)))).bind fun x1 => (F_X8_merge_7 z (v0) (v1) z ((0 : Int)) x1).bind fun s12 => (F_X8_merge_53 z (v0) (v1) z ((0 : Int)) s12).bind fun s17 => (F_X8_merge_77 z (v0) (v1) z ((1 : Int)) s17).bind fun s25 => (F_X8_endLease z (v0) (v1) s25).bind fun r27 => some (((r27.1 8 v0 14), r27))
set_option maxHeartbeats 4000000 in
set_option maxRecDepth 20000 in
theorem c_X8_merge (Θ : GC) (D : Nat → Nat → Prop) (z : Nat) (v0 : Nat) (v1 : Int) (x : Mm) (y) (h : F_X8_merge z v0 v1 x = some y) : Cal Θ mX8_merge 5 115 0 0 [vr 8 (v0 + 1), vi (v1)] (hq D x) (Ret (vi y.1) (hq D y.2)) := by
  refine Cal.of (by decide +kernel) rfl rfl (Nat.le_of_ble_eq_true rfl) ?_
  show Ev Θ mX8_merge 5 115 0 0 0 [(0, vr 8 (v0 + 1)), (1, vi (v1))] [] (hq D x) (Ret (vi y.1) (hq D y.2))
  unfold F_X8_merge at h
  refine Ev.aload_n (q := 0) ⟨dX8_merge_0, rfl⟩ rfl rfl ?_
  refine Ev.iconst ⟨dX8_merge_1, rfl⟩ (inRd rfl) ?_
  obtain ⟨x1, ex, h⟩ := bnd_s h
  refine Ev.putI fX8_231 ⟨dX8_merge_2, rfl⟩ ?_
  refine Ev.cast ?_ rfl rfl (hqI ex)
  clear ex
  refine Ev.iconst ⟨dX8_merge_5, rfl⟩ (inRd rfl) ?_
  refine Ev.istore_n (i := 2) (ls' := [(0, _), (1, _), (2, _)]) ⟨dX8_merge_6, rfl⟩ rfl (by decide) rfl ?_
  obtain ⟨s12, hl, h⟩ := bnd_s h
  refine e_X8_merge_7 Θ D z _ _ _ _ _ _ _ _ _ hl ?_
  clear hl
  refine Ev.iconst ⟨dX8_merge_51, rfl⟩ (inRd rfl) ?_
  refine Ev.istore_n (i := 2) (ls' := [(0, _), (1, _), (2, _)]) ⟨dX8_merge_52, rfl⟩ rfl (by decide) rfl ?_
  obtain ⟨s17, hl, h⟩ := bnd_s h
  refine e_X8_merge_53 Θ D z _ _ _ _ _ _ _ _ _ hl ?_
  clear hl
  refine Ev.iconst ⟨dX8_merge_75, rfl⟩ (inRd rfl) ?_
  refine Ev.istore_n (i := 2) (ls' := [(0, _), (1, _), (2, _)]) ⟨dX8_merge_76, rfl⟩ rfl (by decide) rfl ?_
  obtain ⟨s25, hl, h⟩ := bnd_s h
  refine e_X8_merge_77 Θ D z _ _ _ _ _ _ _ _ _ hl ?_
  clear hl
  refine Ev.aload_n (q := 0) ⟨dX8_merge_108, rfl⟩ rfl rfl ?_
  refine Ev.iload_n (q := 1) ⟨dX8_merge_109, rfl⟩ rfl rfl ?_
  obtain ⟨r27, hv26, h⟩ := bnd_s h
  refine Ev.callVN (mc1 := 0) (ms1 := 0) (h1 := hq D r27) vX8_275 (c_X8_endLease Θ D z _ _ _ _ hv26) rfl rfl (by decide) rfl ⟨by decide, by decide, Nat.le_of_eq (Nat.zero_add _), Nat.le_of_eq (Nat.zero_add _), Nat.le_of_ble_eq_true rfl⟩ ⟨dX8_merge_110, rfl⟩ ?_
  clear hv26
  refine Ev.aload_n (q := 0) ⟨dX8_merge_113, rfl⟩ rfl rfl ?_
  refine Ev.getI fX8_231 (Or.inl rfl) ⟨dX8_merge_114, rfl⟩ ?_
  obtain rfl := Option.some.inj h
  exact Ev.ireturn (ty := .int) ⟨dX8_merge_117, rfl⟩ rfl rfl ⟨rfl, rfl⟩

def F_X8_commit (z : Nat) (v0 : Nat) (v1 : Int) (x : Mm) : Option (Int × Mm) := (some (wI x 8 v0 0 ((0 : Int)))).bind fun x1 => (F_X8_isClient z (v0) (v1) x1).bind fun r3 => (F_X8_fails z (v0) (r3) ((1 : Int)) x1).bind fun r5 => if r5.1 = 0 then ((F_X8_hasLease z (v0) (v1) r5.2).bind fun r7 => (F_X8_fails z (v0) (r7) ((2 : Int)) r5.2).bind fun r9 => if r9.1 = 0 then ((F_X8_record z (v0) r9.2).bind fun r11 => (F_X8_merge z (v0) (v1) r11).bind fun r13 => some ((r13.1, r13.2))) else (some (((0 : Int), r9.2)))) else (some (((0 : Int), r5.2)))
set_option maxHeartbeats 4000000 in
set_option maxRecDepth 20000 in
theorem c_X8_commit (Θ : GC) (D : Nat → Nat → Prop) (z : Nat) (v0 : Nat) (v1 : Int) (x : Mm) (y) (h : F_X8_commit z v0 v1 x = some y) : Cal Θ mX8_commit 6 137 0 0 [vr 8 (v0 + 1), vi (v1)] (hq D x) (Ret (vi y.1) (hq D y.2)) := by
  refine Cal.of (by decide +kernel) rfl rfl (Nat.le_of_ble_eq_true rfl) ?_
  show Ev Θ mX8_commit 6 137 0 0 0 [(0, vr 8 (v0 + 1)), (1, vi (v1))] [] (hq D x) (Ret (vi y.1) (hq D y.2))
  unfold F_X8_commit at h
  refine Ev.aload_n (q := 0) ⟨dX8_commit_0, rfl⟩ rfl rfl ?_
  refine Ev.iconst ⟨dX8_commit_1, rfl⟩ (inRd rfl) ?_
  obtain ⟨x1, ex, h⟩ := bnd_s h
  refine Ev.putI fX8_38 ⟨dX8_commit_2, rfl⟩ ?_
  refine Ev.cast ?_ rfl rfl (hqI ex)
  clear ex
  refine Ev.aload_n (q := 0) ⟨dX8_commit_5, rfl⟩ rfl rfl ?_
  refine Ev.aload_n (q := 0) ⟨dX8_commit_6, rfl⟩ rfl rfl ?_
  refine Ev.iload_n (q := 1) ⟨dX8_commit_7, rfl⟩ rfl rfl ?_
  obtain ⟨r3, hv2, h⟩ := bnd_s h
  refine Ev.callV1 (mc1 := 0) (ms1 := 0) (v := vi r3) (h1 := hq D x1) vX8_188 (c_X8_isClient Θ D z _ _ _ _ hv2) rfl rfl (by decide) rfl ⟨by decide, by decide, Nat.le_of_eq (Nat.zero_add _), Nat.le_of_eq (Nat.zero_add _), Nat.le_of_ble_eq_true rfl⟩ ⟨dX8_commit_8, rfl⟩ ?_
  clear hv2
  refine Ev.iconst ⟨dX8_commit_11, rfl⟩ (inRd rfl) ?_
  obtain ⟨r5, hv4, h⟩ := bnd_s h
  refine Ev.callV1 (mc1 := 0) (ms1 := 0) (v := vi r5.1) (h1 := hq D r5.2) vX8_49 (c_X8_fails Θ D z _ _ _ _ _ hv4) rfl rfl (by decide) rfl ⟨by decide, by decide, Nat.le_of_eq (Nat.zero_add _), Nat.le_of_eq (Nat.zero_add _), Nat.le_of_ble_eq_true rfl⟩ ⟨dX8_commit_12, rfl⟩ ?_
  clear hv4
  refine Ev.if_ne jX8_commit_15 (fun hc => ?_) (fun hc => ?_)
  · replace h := (if_neg hc).symm.trans h; clear hc
    refine Ev.iconst ⟨dX8_commit_31, rfl⟩ (inRd rfl) ?_
    obtain rfl := Option.some.inj h
    exact Ev.ireturn (ty := .int) ⟨dX8_commit_32, rfl⟩ rfl rfl ⟨rfl, rfl⟩
  · replace h := (if_pos hc).symm.trans h; clear hc
    refine Ev.aload_n (q := 0) ⟨dX8_commit_18, rfl⟩ rfl rfl ?_
    refine Ev.aload_n (q := 0) ⟨dX8_commit_19, rfl⟩ rfl rfl ?_
    refine Ev.iload_n (q := 1) ⟨dX8_commit_20, rfl⟩ rfl rfl ?_
    obtain ⟨r7, hv6, h⟩ := bnd_s h
    refine Ev.callV1 (mc1 := 0) (ms1 := 0) (v := vi r7) (h1 := hq D r5.2) vX8_177 (c_X8_hasLease Θ D z _ _ _ _ hv6) rfl rfl (by decide) rfl ⟨by decide, by decide, Nat.le_of_eq (Nat.zero_add _), Nat.le_of_eq (Nat.zero_add _), Nat.le_of_ble_eq_true rfl⟩ ⟨dX8_commit_21, rfl⟩ ?_
    clear hv6
    refine Ev.iconst ⟨dX8_commit_24, rfl⟩ (inRd rfl) ?_
    obtain ⟨r9, hv8, h⟩ := bnd_s h
    refine Ev.callV1 (mc1 := 0) (ms1 := 0) (v := vi r9.1) (h1 := hq D r9.2) vX8_49 (c_X8_fails Θ D z _ _ _ _ _ hv8) rfl rfl (by decide) rfl ⟨by decide, by decide, Nat.le_of_eq (Nat.zero_add _), Nat.le_of_eq (Nat.zero_add _), Nat.le_of_ble_eq_true rfl⟩ ⟨dX8_commit_25, rfl⟩ ?_
    clear hv8
    refine Ev.if_eq jX8_commit_28 (fun hc => ?_) (fun hc => ?_)
    · replace h := (if_pos hc).symm.trans h; clear hc
      refine Ev.aload_n (q := 0) ⟨dX8_commit_33, rfl⟩ rfl rfl ?_
      obtain ⟨r11, hv10, h⟩ := bnd_s h
      refine Ev.callVN (mc1 := 0) (ms1 := 0) (h1 := hq D r11) vX8_201 (c_X8_record Θ D z _ _ _ hv10) rfl rfl (by decide) rfl ⟨by decide, by decide, Nat.le_of_eq (Nat.zero_add _), Nat.le_of_eq (Nat.zero_add _), Nat.le_of_ble_eq_true rfl⟩ ⟨dX8_commit_34, rfl⟩ ?_
      clear hv10
      refine Ev.aload_n (q := 0) ⟨dX8_commit_37, rfl⟩ rfl rfl ?_
      refine Ev.iload_n (q := 1) ⟨dX8_commit_38, rfl⟩ rfl rfl ?_
      obtain ⟨r13, hv12, h⟩ := bnd_s h
      refine Ev.callV1 (mc1 := 0) (ms1 := 0) (v := vi r13.1) (h1 := hq D r13.2) vX8_278 (c_X8_merge Θ D z _ _ _ _ hv12) rfl rfl (by decide) rfl ⟨by decide, by decide, Nat.le_of_eq (Nat.zero_add _), Nat.le_of_eq (Nat.zero_add _), Nat.le_of_ble_eq_true rfl⟩ ⟨dX8_commit_39, rfl⟩ ?_
      clear hv12
      obtain rfl := Option.some.inj h
      exact Ev.ireturn (ty := .int) ⟨dX8_commit_42, rfl⟩ rfl rfl ⟨rfl, rfl⟩
    · replace h := (if_neg hc).symm.trans h; clear hc
      refine Ev.iconst ⟨dX8_commit_31, rfl⟩ (inRd rfl) ?_
      obtain rfl := Option.some.inj h
      exact Ev.ireturn (ty := .int) ⟨dX8_commit_32, rfl⟩ rfl rfl ⟨rfl, rfl⟩

def F_X8_abandon (z : Nat) (v0 : Nat) (v1 : Int) (x : Mm) : Option (Int × Mm) := (some (wI x 8 v0 0 ((0 : Int)))).bind fun x1 => (F_X8_isClient z (v0) (v1) x1).bind fun r3 => (F_X8_fails z (v0) (r3) ((1 : Int)) x1).bind fun r5 => if r5.1 = 0 then ((F_X8_hasLease z (v0) (v1) r5.2).bind fun r7 => (F_X8_fails z (v0) (r7) ((2 : Int)) r5.2).bind fun r9 => if r9.1 = 0 then ((F_X8_record z (v0) r9.2).bind fun r11 => (F_X8_allChanges z (v0) (v1) r11).bind fun r13 => (F_X8_endLease z (v0) (v1) r11).bind fun r15 => some ((r13, r15))) else (some (((0 : Int), r9.2)))) else (some (((0 : Int), r5.2)))
set_option maxHeartbeats 4000000 in
set_option maxRecDepth 20000 in
theorem c_X8_abandon (Θ : GC) (D : Nat → Nat → Prop) (z : Nat) (v0 : Nat) (v1 : Int) (x : Mm) (y) (h : F_X8_abandon z v0 v1 x = some y) : Cal Θ mX8_abandon 5 115 0 0 [vr 8 (v0 + 1), vi (v1)] (hq D x) (Ret (vi y.1) (hq D y.2)) := by
  refine Cal.of (by decide +kernel) rfl rfl (Nat.le_of_ble_eq_true rfl) ?_
  show Ev Θ mX8_abandon 5 115 0 0 0 [(0, vr 8 (v0 + 1)), (1, vi (v1))] [] (hq D x) (Ret (vi y.1) (hq D y.2))
  unfold F_X8_abandon at h
  refine Ev.aload_n (q := 0) ⟨dX8_abandon_0, rfl⟩ rfl rfl ?_
  refine Ev.iconst ⟨dX8_abandon_1, rfl⟩ (inRd rfl) ?_
  obtain ⟨x1, ex, h⟩ := bnd_s h
  refine Ev.putI fX8_38 ⟨dX8_abandon_2, rfl⟩ ?_
  refine Ev.cast ?_ rfl rfl (hqI ex)
  clear ex
  refine Ev.aload_n (q := 0) ⟨dX8_abandon_5, rfl⟩ rfl rfl ?_
  refine Ev.aload_n (q := 0) ⟨dX8_abandon_6, rfl⟩ rfl rfl ?_
  refine Ev.iload_n (q := 1) ⟨dX8_abandon_7, rfl⟩ rfl rfl ?_
  obtain ⟨r3, hv2, h⟩ := bnd_s h
  refine Ev.callV1 (mc1 := 0) (ms1 := 0) (v := vi r3) (h1 := hq D x1) vX8_188 (c_X8_isClient Θ D z _ _ _ _ hv2) rfl rfl (by decide) rfl ⟨by decide, by decide, Nat.le_of_eq (Nat.zero_add _), Nat.le_of_eq (Nat.zero_add _), Nat.le_of_ble_eq_true rfl⟩ ⟨dX8_abandon_8, rfl⟩ ?_
  clear hv2
  refine Ev.iconst ⟨dX8_abandon_11, rfl⟩ (inRd rfl) ?_
  obtain ⟨r5, hv4, h⟩ := bnd_s h
  refine Ev.callV1 (mc1 := 0) (ms1 := 0) (v := vi r5.1) (h1 := hq D r5.2) vX8_49 (c_X8_fails Θ D z _ _ _ _ _ hv4) rfl rfl (by decide) rfl ⟨by decide, by decide, Nat.le_of_eq (Nat.zero_add _), Nat.le_of_eq (Nat.zero_add _), Nat.le_of_ble_eq_true rfl⟩ ⟨dX8_abandon_12, rfl⟩ ?_
  clear hv4
  refine Ev.if_ne jX8_abandon_15 (fun hc => ?_) (fun hc => ?_)
  · replace h := (if_neg hc).symm.trans h; clear hc
    refine Ev.iconst ⟨dX8_abandon_31, rfl⟩ (inRd rfl) ?_
    obtain rfl := Option.some.inj h
    exact Ev.ireturn (ty := .int) ⟨dX8_abandon_32, rfl⟩ rfl rfl ⟨rfl, rfl⟩
  · replace h := (if_pos hc).symm.trans h; clear hc
    refine Ev.aload_n (q := 0) ⟨dX8_abandon_18, rfl⟩ rfl rfl ?_
    refine Ev.aload_n (q := 0) ⟨dX8_abandon_19, rfl⟩ rfl rfl ?_
    refine Ev.iload_n (q := 1) ⟨dX8_abandon_20, rfl⟩ rfl rfl ?_
    obtain ⟨r7, hv6, h⟩ := bnd_s h
    refine Ev.callV1 (mc1 := 0) (ms1 := 0) (v := vi r7) (h1 := hq D r5.2) vX8_177 (c_X8_hasLease Θ D z _ _ _ _ hv6) rfl rfl (by decide) rfl ⟨by decide, by decide, Nat.le_of_eq (Nat.zero_add _), Nat.le_of_eq (Nat.zero_add _), Nat.le_of_ble_eq_true rfl⟩ ⟨dX8_abandon_21, rfl⟩ ?_
    clear hv6
    refine Ev.iconst ⟨dX8_abandon_24, rfl⟩ (inRd rfl) ?_
    obtain ⟨r9, hv8, h⟩ := bnd_s h
    refine Ev.callV1 (mc1 := 0) (ms1 := 0) (v := vi r9.1) (h1 := hq D r9.2) vX8_49 (c_X8_fails Θ D z _ _ _ _ _ hv8) rfl rfl (by decide) rfl ⟨by decide, by decide, Nat.le_of_eq (Nat.zero_add _), Nat.le_of_eq (Nat.zero_add _), Nat.le_of_ble_eq_true rfl⟩ ⟨dX8_abandon_25, rfl⟩ ?_
    clear hv8
    refine Ev.if_eq jX8_abandon_28 (fun hc => ?_) (fun hc => ?_)
    · replace h := (if_pos hc).symm.trans h; clear hc
      refine Ev.aload_n (q := 0) ⟨dX8_abandon_33, rfl⟩ rfl rfl ?_
      obtain ⟨r11, hv10, h⟩ := bnd_s h
      refine Ev.callVN (mc1 := 0) (ms1 := 0) (h1 := hq D r11) vX8_201 (c_X8_record Θ D z _ _ _ hv10) rfl rfl (by decide) rfl ⟨by decide, by decide, Nat.le_of_eq (Nat.zero_add _), Nat.le_of_eq (Nat.zero_add _), Nat.le_of_ble_eq_true rfl⟩ ⟨dX8_abandon_34, rfl⟩ ?_
      clear hv10
      refine Ev.aload_n (q := 0) ⟨dX8_abandon_37, rfl⟩ rfl rfl ?_
      refine Ev.iload_n (q := 1) ⟨dX8_abandon_38, rfl⟩ rfl rfl ?_
      obtain ⟨r13, hv12, h⟩ := bnd_s h
      refine Ev.callV1 (mc1 := 0) (ms1 := 0) (v := vi r13) (h1 := hq D r11) vX8_281 (c_X8_allChanges Θ D z _ _ _ _ hv12) rfl rfl (by decide) rfl ⟨by decide, by decide, Nat.le_of_eq (Nat.zero_add _), Nat.le_of_eq (Nat.zero_add _), Nat.le_of_ble_eq_true rfl⟩ ⟨dX8_abandon_39, rfl⟩ ?_
      clear hv12
      refine Ev.istore_n (i := 2) (ls' := [(0, _), (1, _), (2, _)]) ⟨dX8_abandon_42, rfl⟩ rfl (by decide) rfl ?_
      refine Ev.aload_n (q := 0) ⟨dX8_abandon_43, rfl⟩ rfl rfl ?_
      refine Ev.iload_n (q := 1) ⟨dX8_abandon_44, rfl⟩ rfl rfl ?_
      obtain ⟨r15, hv14, h⟩ := bnd_s h
      refine Ev.callVN (mc1 := 0) (ms1 := 0) (h1 := hq D r15) vX8_275 (c_X8_endLease Θ D z _ _ _ _ hv14) rfl rfl (by decide) rfl ⟨by decide, by decide, Nat.le_of_eq (Nat.zero_add _), Nat.le_of_eq (Nat.zero_add _), Nat.le_of_ble_eq_true rfl⟩ ⟨dX8_abandon_45, rfl⟩ ?_
      clear hv14
      refine Ev.iload_n (q := 2) ⟨dX8_abandon_48, rfl⟩ rfl rfl ?_
      obtain rfl := Option.some.inj h
      exact Ev.ireturn (ty := .int) ⟨dX8_abandon_49, rfl⟩ rfl rfl ⟨rfl, rfl⟩
    · replace h := (if_neg hc).symm.trans h; clear hc
      refine Ev.iconst ⟨dX8_abandon_31, rfl⟩ (inRd rfl) ?_
      obtain rfl := Option.some.inj h
      exact Ev.ireturn (ty := .int) ⟨dX8_abandon_32, rfl⟩ rfl rfl ⟨rfl, rfl⟩

def F_X8_resolve_140 (z : Nat) (v0 : Nat) (v1 : Int) (v2 : Int) (v4 : Int) (v5 : Int) (x : Mm) : Option (Int × Mm) := if v2 = 0 then ((F_X8_dropConflict z (v0) (v1) x).bind fun r19 => ckI (4 : Int) 5366 <| some (((r19.1 27 0 ((4 : Int)).toNat), r19))) else (if v4 = (4 : Int) then ((F_X8_kill z (v0) (v5) x).bind fun r25 => (F_X8_dropConflict z (v0) (v1) r25).bind fun r27 => ckI (4 : Int) 5366 <| some (((r27.1 27 0 ((4 : Int)).toNat), r27))) else ((F_X8_dropConflict z (v0) (v1) x).bind fun r22 => ckI (4 : Int) 5366 <| some (((r22.1 27 0 ((4 : Int)).toNat), r22))))
set_option maxHeartbeats 4000000 in
set_option maxRecDepth 20000 in
theorem e_X8_resolve_140 (Θ : GC) (D : Nat → Nat → Prop) (z : Nat) (v0 : Nat) (v1 : Int) (v2 : Int) (v4 : Int) (v5 : Int) (x : Mm) (y) (h : F_X8_resolve_140 z v0 v1 v2 v4 v5 x = some y) : Ev Θ mX8_resolve 2 45 0 0 140 [(0, vr 8 (v0 + 1)), (1, vi (v1)), (2, vi (v2)), (4, vi (v4)), (5, vi (v5))] [] (hq D x) (Ret (vi y.1) (hq D y.2)) := by
  unfold F_X8_resolve_140 at h
  refine Ev.iload_n (q := 2) ⟨dX8_resolve_140, rfl⟩ rfl rfl ?_
  refine Ev.if_eq jX8_resolve_141 (fun hc => ?_) (fun hc => ?_)
  · replace h := (if_pos hc).symm.trans h; clear hc
    refine Ev.aload_n (q := 0) ⟨dX8_resolve_156, rfl⟩ rfl rfl ?_
    refine Ev.iload_n (q := 1) ⟨dX8_resolve_157, rfl⟩ rfl rfl ?_
    obtain ⟨r19, hv18, h⟩ := bnd_s h
    refine Ev.callVN (mc1 := 0) (ms1 := 0) (h1 := hq D r19) vX8_227 (c_X8_dropConflict Θ D z _ _ _ _ hv18) rfl rfl (by decide) rfl ⟨by decide, by decide, Nat.le_of_eq (Nat.zero_add _), Nat.le_of_eq (Nat.zero_add _), Nat.le_of_ble_eq_true rfl⟩ ⟨dX8_resolve_158, rfl⟩ ?_
    clear hv18
    refine Ev.aload_n (q := 0) ⟨dX8_resolve_161, rfl⟩ rfl rfl ?_
    refine Ev.getRk (C2 := 27) (r := 0) fX8_13 rfl (by decide) (by decide) ⟨dX8_resolve_162, rfl⟩ ?_
    refine Ev.iconst ⟨dX8_resolve_165, rfl⟩ (inRd rfl) ?_
    obtain ⟨c20, h⟩ := ckI_s h
    refine Ev.iaload (by decide) c20.1 c20.2 ⟨dX8_resolve_166, rfl⟩ ?_
    obtain rfl := Option.some.inj h
    exact Ev.ireturn (ty := .int) ⟨dX8_resolve_167, rfl⟩ rfl rfl ⟨rfl, rfl⟩
  · replace h := (if_neg hc).symm.trans h; clear hc
    refine Ev.iload (q := 3) ⟨dX8_resolve_144, rfl⟩ rfl ?_
    refine Ev.iconst ⟨dX8_resolve_146, rfl⟩ (inRd rfl) ?_
    refine Ev.icmp_ne jX8_resolve_147 (fun hc => ?_) (fun hc => ?_)
    · replace h := (if_neg hc).symm.trans h; clear hc
      refine Ev.aload_n (q := 0) ⟨dX8_resolve_156, rfl⟩ rfl rfl ?_
      refine Ev.iload_n (q := 1) ⟨dX8_resolve_157, rfl⟩ rfl rfl ?_
      obtain ⟨r22, hv21, h⟩ := bnd_s h
      refine Ev.callVN (mc1 := 0) (ms1 := 0) (h1 := hq D r22) vX8_227 (c_X8_dropConflict Θ D z _ _ _ _ hv21) rfl rfl (by decide) rfl ⟨by decide, by decide, Nat.le_of_eq (Nat.zero_add _), Nat.le_of_eq (Nat.zero_add _), Nat.le_of_ble_eq_true rfl⟩ ⟨dX8_resolve_158, rfl⟩ ?_
      clear hv21
      refine Ev.aload_n (q := 0) ⟨dX8_resolve_161, rfl⟩ rfl rfl ?_
      refine Ev.getRk (C2 := 27) (r := 0) fX8_13 rfl (by decide) (by decide) ⟨dX8_resolve_162, rfl⟩ ?_
      refine Ev.iconst ⟨dX8_resolve_165, rfl⟩ (inRd rfl) ?_
      obtain ⟨c23, h⟩ := ckI_s h
      refine Ev.iaload (by decide) c23.1 c23.2 ⟨dX8_resolve_166, rfl⟩ ?_
      obtain rfl := Option.some.inj h
      exact Ev.ireturn (ty := .int) ⟨dX8_resolve_167, rfl⟩ rfl rfl ⟨rfl, rfl⟩
    · replace h := (if_pos hc).symm.trans h; clear hc
      refine Ev.aload_n (q := 0) ⟨dX8_resolve_150, rfl⟩ rfl rfl ?_
      refine Ev.iload (q := 4) ⟨dX8_resolve_151, rfl⟩ rfl ?_
      obtain ⟨r25, hv24, h⟩ := bnd_s h
      refine Ev.callVN (mc1 := 0) (ms1 := 0) (h1 := hq D r25) vX8_259 (c_X8_kill Θ D z _ _ _ _ hv24) rfl rfl (by decide) rfl ⟨by decide, by decide, Nat.le_of_eq (Nat.zero_add _), Nat.le_of_eq (Nat.zero_add _), Nat.le_of_ble_eq_true rfl⟩ ⟨dX8_resolve_153, rfl⟩ ?_
      clear hv24
      refine Ev.aload_n (q := 0) ⟨dX8_resolve_156, rfl⟩ rfl rfl ?_
      refine Ev.iload_n (q := 1) ⟨dX8_resolve_157, rfl⟩ rfl rfl ?_
      obtain ⟨r27, hv26, h⟩ := bnd_s h
      refine Ev.callVN (mc1 := 0) (ms1 := 0) (h1 := hq D r27) vX8_227 (c_X8_dropConflict Θ D z _ _ _ _ hv26) rfl rfl (by decide) rfl ⟨by decide, by decide, Nat.le_of_eq (Nat.zero_add _), Nat.le_of_eq (Nat.zero_add _), Nat.le_of_ble_eq_true rfl⟩ ⟨dX8_resolve_158, rfl⟩ ?_
      clear hv26
      refine Ev.aload_n (q := 0) ⟨dX8_resolve_161, rfl⟩ rfl rfl ?_
      refine Ev.getRk (C2 := 27) (r := 0) fX8_13 rfl (by decide) (by decide) ⟨dX8_resolve_162, rfl⟩ ?_
      refine Ev.iconst ⟨dX8_resolve_165, rfl⟩ (inRd rfl) ?_
      obtain ⟨c28, h⟩ := ckI_s h
      refine Ev.iaload (by decide) c28.1 c28.2 ⟨dX8_resolve_166, rfl⟩ ?_
      obtain rfl := Option.some.inj h
      exact Ev.ireturn (ty := .int) ⟨dX8_resolve_167, rfl⟩ rfl rfl ⟨rfl, rfl⟩

def F_X8_resolve_87 (z : Nat) (v0 : Nat) (v1 : Int) (v2 : Int) (v3 : Int) (v4 : Int) (v5 : Int) (u0 : Int) (u1 : Nat) (x : Mm) : Option (Int × Mm) := (F_X8_fails z (u1) (u0) ((2 : Int)) x).bind fun r15 => if r15.1 = 0 then ((F_X8_record z (v0) r15.2).bind fun r17 => if v2 = 0 then (F_X8_resolve_140 z (v0) (v1) (v2) (v4) (v5) r17) else (if v4 = 0 then (ckR (((6 : Int) * v5)) <| ckR (((251 : Int) + ((6 : Int) * v5))) <| ckR ((v3 + (2 : Int))) <| ckI (v3 + (2 : Int)) 5366 <| ckR ((((251 : Int) + ((6 : Int) * v5)) + (r17.1 27 0 ((v3 + (2 : Int))).toNat))) <| ckR ((v3 + (3 : Int))) <| ckI (v3 + (3 : Int)) 5366 <| ckI (((251 : Int) + ((6 : Int) * v5)) + (r17.1 27 0 ((v3 + (2 : Int))).toNat)) 5366 <| (some (wI r17 27 0 ((((251 : Int) + ((6 : Int) * v5)) + (r17.1 27 0 ((v3 + (2 : Int))).toNat))).toNat ((r17.1 27 0 ((v3 + (3 : Int))).toNat)))).bind fun x37 => F_X8_resolve_140 z (v0) (v1) (v2) (v4) (v5) x37) else (F_X8_resolve_140 z (v0) (v1) (v2) (v4) (v5) r17))) else (some (((0 : Int), r15.2)))
set_option maxHeartbeats 4000000 in
set_option maxRecDepth 20000 in
theorem e_X8_resolve_87 (Θ : GC) (D : Nat → Nat → Prop) (z : Nat) (v0 : Nat) (v1 : Int) (v2 : Int) (v3 : Int) (v4 : Int) (v5 : Int) (u0 : Int) (u1 : Nat) (x : Mm) (y) (h : F_X8_resolve_87 z v0 v1 v2 v3 v4 v5 u0 u1 x = some y) : Ev Θ mX8_resolve 2 45 0 0 87 [(0, vr 8 (v0 + 1)), (1, vi (v1)), (2, vi (v2)), (3, vi (v3)), (4, vi (v4)), (5, vi (v5))] [vi (u0), vr 8 (u1 + 1)] (hq D x) (Ret (vi y.1) (hq D y.2)) := by
  unfold F_X8_resolve_87 at h
  refine Ev.iconst ⟨dX8_resolve_87, rfl⟩ (inRd rfl) ?_
  obtain ⟨r15, hv14, h⟩ := bnd_s h
  refine Ev.callV1 (mc1 := 0) (ms1 := 0) (v := vi r15.1) (h1 := hq D r15.2) vX8_49 (c_X8_fails Θ D z _ _ _ _ _ hv14) rfl rfl (by decide) rfl ⟨by decide, by decide, Nat.le_of_eq (Nat.zero_add _), Nat.le_of_eq (Nat.zero_add _), Nat.le_of_ble_eq_true rfl⟩ ⟨dX8_resolve_88, rfl⟩ ?_
  clear hv14
  refine Ev.if_eq jX8_resolve_91 (fun hc => ?_) (fun hc => ?_)
  · replace h := (if_pos hc).symm.trans h; clear hc
    refine Ev.aload_n (q := 0) ⟨dX8_resolve_96, rfl⟩ rfl rfl ?_
    obtain ⟨r17, hv16, h⟩ := bnd_s h
    refine Ev.callVN (mc1 := 0) (ms1 := 0) (h1 := hq D r17) vX8_201 (c_X8_record Θ D z _ _ _ hv16) rfl rfl (by decide) rfl ⟨by decide, by decide, Nat.le_of_eq (Nat.zero_add _), Nat.le_of_eq (Nat.zero_add _), Nat.le_of_ble_eq_true rfl⟩ ⟨dX8_resolve_97, rfl⟩ ?_
    clear hv16
    refine Ev.iload_n (q := 2) ⟨dX8_resolve_100, rfl⟩ rfl rfl ?_
    refine Ev.if_eq jX8_resolve_101 (fun hc => ?_) (fun hc => ?_)
    · replace h := (if_pos hc).symm.trans h; clear hc
      refine Ev.keep [0, 1, 2, 4, 5] rfl ?_
      exact e_X8_resolve_140 Θ D z _ _ _ _ _ _ _ h
    · replace h := (if_neg hc).symm.trans h; clear hc
      refine Ev.iload (q := 4) ⟨dX8_resolve_104, rfl⟩ rfl ?_
      refine Ev.if_ne jX8_resolve_106 (fun hc => ?_) (fun hc => ?_)
      · replace h := (if_neg hc).symm.trans h; clear hc
        refine Ev.keep [0, 1, 2, 4, 5] rfl ?_
        exact e_X8_resolve_140 Θ D z _ _ _ _ _ _ _ h
      · replace h := (if_pos hc).symm.trans h; clear hc
        refine Ev.aload_n (q := 0) ⟨dX8_resolve_109, rfl⟩ rfl rfl ?_
        refine Ev.getRk (C2 := 27) (r := 0) fX8_13 rfl (by decide) (by decide) ⟨dX8_resolve_110, rfl⟩ ?_
        refine Ev.sipush ⟨dX8_resolve_113, rfl⟩ (inRd rfl) (by decide) ?_
        refine Ev.bipush ⟨dX8_resolve_116, rfl⟩ (inRd rfl) (by decide) ?_
        refine Ev.iload (q := 5) ⟨dX8_resolve_118, rfl⟩ rfl ?_
        obtain ⟨c29, h⟩ := ckR_s h
        refine Ev.imul ⟨dX8_resolve_120, rfl⟩ c29 ?_
        obtain ⟨c30, h⟩ := ckR_s h
        refine Ev.iadd ⟨dX8_resolve_121, rfl⟩ c30 ?_
        refine Ev.aload_n (q := 0) ⟨dX8_resolve_122, rfl⟩ rfl rfl ?_
        refine Ev.getRk (C2 := 27) (r := 0) fX8_13 rfl (by decide) (by decide) ⟨dX8_resolve_123, rfl⟩ ?_
        refine Ev.iload_n (q := 3) ⟨dX8_resolve_126, rfl⟩ rfl rfl ?_
        refine Ev.iconst ⟨dX8_resolve_127, rfl⟩ (inRd rfl) ?_
        obtain ⟨c31, h⟩ := ckR_s h
        refine Ev.iadd ⟨dX8_resolve_128, rfl⟩ c31 ?_
        obtain ⟨c32, h⟩ := ckI_s h
        refine Ev.iaload (by decide) c32.1 c32.2 ⟨dX8_resolve_129, rfl⟩ ?_
        obtain ⟨c33, h⟩ := ckR_s h
        refine Ev.iadd ⟨dX8_resolve_130, rfl⟩ c33 ?_
        refine Ev.aload_n (q := 0) ⟨dX8_resolve_131, rfl⟩ rfl rfl ?_
        refine Ev.getRk (C2 := 27) (r := 0) fX8_13 rfl (by decide) (by decide) ⟨dX8_resolve_132, rfl⟩ ?_
        refine Ev.iload_n (q := 3) ⟨dX8_resolve_135, rfl⟩ rfl rfl ?_
        refine Ev.iconst ⟨dX8_resolve_136, rfl⟩ (inRd rfl) ?_
        obtain ⟨c34, h⟩ := ckR_s h
        refine Ev.iadd ⟨dX8_resolve_137, rfl⟩ c34 ?_
        obtain ⟨c35, h⟩ := ckI_s h
        refine Ev.iaload (by decide) c35.1 c35.2 ⟨dX8_resolve_138, rfl⟩ ?_
        obtain ⟨c36, h⟩ := ckI_s h
        obtain ⟨x37, ex, h⟩ := bnd_s h
        refine Ev.iastore (by decide) c36.1 c36.2 ⟨dX8_resolve_139, rfl⟩ ?_
        refine Ev.cast ?_ rfl rfl (hqI ex)
        clear ex
        refine Ev.keep [0, 1, 2, 4, 5] rfl ?_
        exact e_X8_resolve_140 Θ D z _ _ _ _ _ _ _ h
  · replace h := (if_neg hc).symm.trans h; clear hc
    refine Ev.iconst ⟨dX8_resolve_94, rfl⟩ (inRd rfl) ?_
    obtain rfl := Option.some.inj h
    exact Ev.ireturn (ty := .int) ⟨dX8_resolve_95, rfl⟩ rfl rfl ⟨rfl, rfl⟩

def F_X8_resolve_82 (z : Nat) (v0 : Nat) (v1 : Int) (v2 : Int) (v3 : Int) (v4 : Int) (v5 : Int) (u0 : Nat) (x : Mm) : Option (Int × Mm) := F_X8_resolve_87 z (v0) (v1) (v2) (v3) (v4) (v5) ((1 : Int)) (u0) x
set_option maxHeartbeats 4000000 in
set_option maxRecDepth 20000 in
theorem e_X8_resolve_82 (Θ : GC) (D : Nat → Nat → Prop) (z : Nat) (v0 : Nat) (v1 : Int) (v2 : Int) (v3 : Int) (v4 : Int) (v5 : Int) (u0 : Nat) (x : Mm) (y) (h : F_X8_resolve_82 z v0 v1 v2 v3 v4 v5 u0 x = some y) : Ev Θ mX8_resolve 2 45 0 0 82 [(0, vr 8 (v0 + 1)), (1, vi (v1)), (2, vi (v2)), (3, vi (v3)), (4, vi (v4)), (5, vi (v5))] [vr 8 (u0 + 1)] (hq D x) (Ret (vi y.1) (hq D y.2)) := by
  unfold F_X8_resolve_82 at h
  refine Ev.iconst ⟨dX8_resolve_82, rfl⟩ (inRd rfl) ?_
  refine Ev.goto jX8_resolve_83 ?_
  exact e_X8_resolve_87 Θ D z _ _ _ _ _ _ _ _ _ _ h

def F_X8_resolve_86 (z : Nat) (v0 : Nat) (v1 : Int) (v2 : Int) (v3 : Int) (v4 : Int) (v5 : Int) (u0 : Nat) (x : Mm) : Option (Int × Mm) := F_X8_resolve_87 z (v0) (v1) (v2) (v3) (v4) (v5) ((0 : Int)) (u0) x
set_option maxHeartbeats 4000000 in
set_option maxRecDepth 20000 in
theorem e_X8_resolve_86 (Θ : GC) (D : Nat → Nat → Prop) (z : Nat) (v0 : Nat) (v1 : Int) (v2 : Int) (v3 : Int) (v4 : Int) (v5 : Int) (u0 : Nat) (x : Mm) (y) (h : F_X8_resolve_86 z v0 v1 v2 v3 v4 v5 u0 x = some y) : Ev Θ mX8_resolve 2 45 0 0 86 [(0, vr 8 (v0 + 1)), (1, vi (v1)), (2, vi (v2)), (3, vi (v3)), (4, vi (v4)), (5, vi (v5))] [vr 8 (u0 + 1)] (hq D x) (Ret (vi y.1) (hq D y.2)) := by
  unfold F_X8_resolve_86 at h
  refine Ev.iconst ⟨dX8_resolve_86, rfl⟩ (inRd rfl) ?_
  exact e_X8_resolve_87 Θ D z _ _ _ _ _ _ _ _ _ _ h

def F_X8_resolve_73 (z : Nat) (v0 : Nat) (v1 : Int) (v2 : Int) (v3 : Int) (v4 : Int) (v5 : Int) (u0 : Nat) (x : Mm) : Option (Int × Mm) := (F_X8_isAlive z (v0) (v5) x).bind fun r39 => if r39 = 0 then (F_X8_resolve_86 z (v0) (v1) (v2) (v3) (v4) (v5) (u0) x) else (F_X8_resolve_82 z (v0) (v1) (v2) (v3) (v4) (v5) (u0) x)
set_option maxHeartbeats 4000000 in
set_option maxRecDepth 20000 in
theorem e_X8_resolve_73 (Θ : GC) (D : Nat → Nat → Prop) (z : Nat) (v0 : Nat) (v1 : Int) (v2 : Int) (v3 : Int) (v4 : Int) (v5 : Int) (u0 : Nat) (x : Mm) (y) (h : F_X8_resolve_73 z v0 v1 v2 v3 v4 v5 u0 x = some y) : Ev Θ mX8_resolve 2 45 0 0 73 [(0, vr 8 (v0 + 1)), (1, vi (v1)), (2, vi (v2)), (3, vi (v3)), (4, vi (v4)), (5, vi (v5))] [vr 8 (u0 + 1)] (hq D x) (Ret (vi y.1) (hq D y.2)) := by
  unfold F_X8_resolve_73 at h
  refine Ev.aload_n (q := 0) ⟨dX8_resolve_73, rfl⟩ rfl rfl ?_
  refine Ev.iload (q := 5) ⟨dX8_resolve_74, rfl⟩ rfl ?_
  obtain ⟨r39, hv38, h⟩ := bnd_s h
  refine Ev.callV1 (mc1 := 0) (ms1 := 0) (v := vi r39) (h1 := hq D x) vX8_194 (c_X8_isAlive Θ D z _ _ _ _ hv38) rfl rfl (by decide) rfl ⟨by decide, by decide, Nat.le_of_eq (Nat.zero_add _), Nat.le_of_eq (Nat.zero_add _), Nat.le_of_ble_eq_true rfl⟩ ⟨dX8_resolve_76, rfl⟩ ?_
  clear hv38
  refine Ev.if_eq jX8_resolve_79 (fun hc => ?_) (fun hc => ?_)
  · replace h := (if_pos hc).symm.trans h; clear hc
    exact e_X8_resolve_86 Θ D z _ _ _ _ _ _ _ _ _ h
  · replace h := (if_neg hc).symm.trans h; clear hc
    exact e_X8_resolve_82 Θ D z _ _ _ _ _ _ _ _ _ h
def F_X8_resolve (z : Nat) (v0 : Nat) (v1 : Int) (v2 : Int) (x : Mm) : Option (Int × Mm) := (some (wI x 8 v0 0 ((0 : Int)))).bind fun x1 => ckI (4 : Int) 5366 <| ckR (((x1.1 27 0 ((4 : Int)).toNat) - (1 : Int))) <| (F_X8_in z (v1) ((0 : Int)) (((x1.1 27 0 ((4 : Int)).toNat) - (1 : Int))) x1).bind fun r5 => (F_X8_fails z (v0) (r5) ((1 : Int)) x1).bind fun r7 => if r7.1 = 0 then (ckR (((6 : Int) * v1)) <| ckR (((626 : Int) + ((6 : Int) * v1))) <| ckR ((((626 : Int) + ((6 : Int) * v1)) + (0 : Int))) <| ckI (((626 : Int) + ((6 : Int) * v1)) + (0 : Int)) 5366 <| ckR ((((626 : Int) + ((6 : Int) * v1)) + (1 : Int))) <| ckI (((626 : Int) + ((6 : Int) * v1)) + (1 : Int)) 5366 <| if v2 = 0 then (F_X8_resolve_82 z (v0) (v1) (v2) (((626 : Int) + ((6 : Int) * v1))) ((r7.2.1 27 0 ((((626 : Int) + ((6 : Int) * v1)) + (0 : Int))).toNat)) ((r7.2.1 27 0 ((((626 : Int) + ((6 : Int) * v1)) + (1 : Int))).toNat)) (v0) r7.2) else (if (r7.2.1 27 0 ((((626 : Int) + ((6 : Int) * v1)) + (0 : Int))).toNat) = 0 then (F_X8_resolve_73 z (v0) (v1) (v2) (((626 : Int) + ((6 : Int) * v1))) ((r7.2.1 27 0 ((((626 : Int) + ((6 : Int) * v1)) + (0 : Int))).toNat)) ((r7.2.1 27 0 ((((626 : Int) + ((6 : Int) * v1)) + (1 : Int))).toNat)) (v0) r7.2) else (if (r7.2.1 27 0 ((((626 : Int) + ((6 : Int) * v1)) + (0 : Int))).toNat) = (4 : Int) then (F_X8_resolve_73 z (v0) (v1) (v2) (((626 : Int) + ((6 : Int) * v1))) ((r7.2.1 27 0 ((((626 : Int) + ((6 : Int) * v1)) + (0 : Int))).toNat)) ((r7.2.1 27 0 ((((626 : Int) + ((6 : Int) * v1)) + (1 : Int))).toNat)) (v0) r7.2) else (F_X8_resolve_86 z (v0) (v1) (v2) (((626 : Int) + ((6 : Int) * v1))) ((r7.2.1 27 0 ((((626 : Int) + ((6 : Int) * v1)) + (0 : Int))).toNat)) ((r7.2.1 27 0 ((((626 : Int) + ((6 : Int) * v1)) + (1 : Int))).toNat)) (v0) r7.2)))) else (some (((0 : Int), r7.2)))
set_option maxHeartbeats 4000000 in
set_option maxRecDepth 20000 in
theorem c_X8_resolve (Θ : GC) (D : Nat → Nat → Prop) (z : Nat) (v0 : Nat) (v1 : Int) (v2 : Int) (x : Mm) (y) (h : F_X8_resolve z v0 v1 v2 x = some y) : Cal Θ mX8_resolve 2 45 0 0 [vr 8 (v0 + 1), vi (v1), vi (v2)] (hq D x) (Ret (vi y.1) (hq D y.2)) := by
  refine Cal.of (by decide +kernel) rfl rfl (Nat.le_of_ble_eq_true rfl) ?_
  show Ev Θ mX8_resolve 2 45 0 0 0 [(0, vr 8 (v0 + 1)), (1, vi (v1)), (2, vi (v2))] [] (hq D x) (Ret (vi y.1) (hq D y.2))
  unfold F_X8_resolve at h
  refine Ev.aload_n (q := 0) ⟨dX8_resolve_0, rfl⟩ rfl rfl ?_
  refine Ev.iconst ⟨dX8_resolve_1, rfl⟩ (inRd rfl) ?_
  obtain ⟨x1, ex, h⟩ := bnd_s h
  refine Ev.putI fX8_38 ⟨dX8_resolve_2, rfl⟩ ?_
  refine Ev.cast ?_ rfl rfl (hqI ex)
  clear ex
  refine Ev.aload_n (q := 0) ⟨dX8_resolve_5, rfl⟩ rfl rfl ?_
  refine Ev.iload_n (q := 1) ⟨dX8_resolve_6, rfl⟩ rfl rfl ?_
  refine Ev.iconst ⟨dX8_resolve_7, rfl⟩ (inRd rfl) ?_
  refine Ev.aload_n (q := 0) ⟨dX8_resolve_8, rfl⟩ rfl rfl ?_
  refine Ev.getRk (C2 := 27) (r := 0) fX8_13 rfl (by decide) (by decide) ⟨dX8_resolve_9, rfl⟩ ?_
  refine Ev.iconst ⟨dX8_resolve_12, rfl⟩ (inRd rfl) ?_
  obtain ⟨c2, h⟩ := ckI_s h
  refine Ev.iaload (by decide) c2.1 c2.2 ⟨dX8_resolve_13, rfl⟩ ?_
  refine Ev.iconst ⟨dX8_resolve_14, rfl⟩ (inRd rfl) ?_
  obtain ⟨c3, h⟩ := ckR_s h
  refine Ev.isub ⟨dX8_resolve_15, rfl⟩ c3 ?_
  obtain ⟨r5, hv4, h⟩ := bnd_s h
  refine Ev.callS1 (mc1 := 0) (ms1 := 0) (v := vi r5) (h1 := hq D x1) sX8_53 (c_X8_in Θ D z _ _ _ _ _ hv4) rfl rfl ⟨by decide, by decide, Nat.le_of_eq (Nat.zero_add _), Nat.le_of_eq (Nat.zero_add _), Nat.le_of_ble_eq_true rfl⟩ ⟨dX8_resolve_16, rfl⟩ ?_
  clear hv4
  refine Ev.iconst ⟨dX8_resolve_19, rfl⟩ (inRd rfl) ?_
  obtain ⟨r7, hv6, h⟩ := bnd_s h
  refine Ev.callV1 (mc1 := 0) (ms1 := 0) (v := vi r7.1) (h1 := hq D r7.2) vX8_49 (c_X8_fails Θ D z _ _ _ _ _ hv6) rfl rfl (by decide) rfl ⟨by decide, by decide, Nat.le_of_eq (Nat.zero_add _), Nat.le_of_eq (Nat.zero_add _), Nat.le_of_ble_eq_true rfl⟩ ⟨dX8_resolve_20, rfl⟩ ?_
  clear hv6
  refine Ev.if_eq jX8_resolve_23 (fun hc => ?_) (fun hc => ?_)
  · replace h := (if_pos hc).symm.trans h; clear hc
    refine Ev.sipush ⟨dX8_resolve_28, rfl⟩ (inRd rfl) (by decide) ?_
    refine Ev.bipush ⟨dX8_resolve_31, rfl⟩ (inRd rfl) (by decide) ?_
    refine Ev.iload_n (q := 1) ⟨dX8_resolve_33, rfl⟩ rfl rfl ?_
    obtain ⟨c8, h⟩ := ckR_s h
    refine Ev.imul ⟨dX8_resolve_34, rfl⟩ c8 ?_
    obtain ⟨c9, h⟩ := ckR_s h
    refine Ev.iadd ⟨dX8_resolve_35, rfl⟩ c9 ?_
    refine Ev.istore_n (i := 3) (ls' := [(0, _), (1, _), (2, _), (3, _)]) ⟨dX8_resolve_36, rfl⟩ rfl (by decide) rfl ?_
    refine Ev.aload_n (q := 0) ⟨dX8_resolve_37, rfl⟩ rfl rfl ?_
    refine Ev.getRk (C2 := 27) (r := 0) fX8_13 rfl (by decide) (by decide) ⟨dX8_resolve_38, rfl⟩ ?_
    refine Ev.iload_n (q := 3) ⟨dX8_resolve_41, rfl⟩ rfl rfl ?_
    refine Ev.iconst ⟨dX8_resolve_42, rfl⟩ (inRd rfl) ?_
    obtain ⟨c10, h⟩ := ckR_s h
    refine Ev.iadd ⟨dX8_resolve_43, rfl⟩ c10 ?_
    obtain ⟨c11, h⟩ := ckI_s h
    refine Ev.iaload (by decide) c11.1 c11.2 ⟨dX8_resolve_44, rfl⟩ ?_
    refine Ev.istore (i := 4) (ls' := [(0, _), (1, _), (2, _), (3, _), (4, _)]) ⟨dX8_resolve_45, rfl⟩ (by decide) rfl ?_
    refine Ev.aload_n (q := 0) ⟨dX8_resolve_47, rfl⟩ rfl rfl ?_
    refine Ev.getRk (C2 := 27) (r := 0) fX8_13 rfl (by decide) (by decide) ⟨dX8_resolve_48, rfl⟩ ?_
    refine Ev.iload_n (q := 3) ⟨dX8_resolve_51, rfl⟩ rfl rfl ?_
    refine Ev.iconst ⟨dX8_resolve_52, rfl⟩ (inRd rfl) ?_
    obtain ⟨c12, h⟩ := ckR_s h
    refine Ev.iadd ⟨dX8_resolve_53, rfl⟩ c12 ?_
    obtain ⟨c13, h⟩ := ckI_s h
    refine Ev.iaload (by decide) c13.1 c13.2 ⟨dX8_resolve_54, rfl⟩ ?_
    refine Ev.istore (i := 5) (ls' := [(0, _), (1, _), (2, _), (3, _), (4, _), (5, _)]) ⟨dX8_resolve_55, rfl⟩ (by decide) rfl ?_
    refine Ev.aload_n (q := 0) ⟨dX8_resolve_57, rfl⟩ rfl rfl ?_
    refine Ev.iload_n (q := 2) ⟨dX8_resolve_58, rfl⟩ rfl rfl ?_
    refine Ev.if_eq jX8_resolve_59 (fun hc => ?_) (fun hc => ?_)
    · replace h := (if_pos hc).symm.trans h; clear hc
      exact e_X8_resolve_82 Θ D z _ _ _ _ _ _ _ _ _ h
    · replace h := (if_neg hc).symm.trans h; clear hc
      refine Ev.iload (q := 4) ⟨dX8_resolve_62, rfl⟩ rfl ?_
      refine Ev.if_eq jX8_resolve_64 (fun hc => ?_) (fun hc => ?_)
      · replace h := (if_pos hc).symm.trans h; clear hc
        exact e_X8_resolve_73 Θ D z _ _ _ _ _ _ _ _ _ h
      · replace h := (if_neg hc).symm.trans h; clear hc
        refine Ev.iload (q := 4) ⟨dX8_resolve_67, rfl⟩ rfl ?_
        refine Ev.iconst ⟨dX8_resolve_69, rfl⟩ (inRd rfl) ?_
        refine Ev.icmp_ne jX8_resolve_70 (fun hc => ?_) (fun hc => ?_)
        · replace h := (if_neg hc).symm.trans h; clear hc
          exact e_X8_resolve_86 Θ D z _ _ _ _ _ _ _ _ _ h
        · replace h := (if_pos hc).symm.trans h; clear hc
          exact e_X8_resolve_73 Θ D z _ _ _ _ _ _ _ _ _ h
  · replace h := (if_neg hc).symm.trans h; clear hc
    refine Ev.iconst ⟨dX8_resolve_26, rfl⟩ (inRd rfl) ?_
    obtain rfl := Option.some.inj h
    exact Ev.ireturn (ty := .int) ⟨dX8_resolve_27, rfl⟩ rfl rfl ⟨rfl, rfl⟩

def F_X8_advance_71 (z : Nat) (v0 : Nat) (v1 : Int) (v3 : Int) : Nat → Int → Int → Mm → Option (Int × Mm)
  | 0, _, _, _ => none
  | k + 1, v2, v4, x => ckI (2 : Int) 5366 <| if (x.1 27 0 ((2 : Int)).toNat) ≤ v4 then (some ((v2, x))) else ((F_X8_hasLease z (v0) (v4) x).bind fun r14 => if r14 = 0 then (ckR ((v4 + 1)) <| F_X8_advance_71 z v0 v1 v3 k (v2) ((v4 + 1)) x) else (ckR (((3 : Int) * v4)) <| ckR (((611 : Int) + ((3 : Int) * v4))) <| ckR ((((611 : Int) + ((3 : Int) * v4)) + (1 : Int))) <| ckI (((611 : Int) + ((3 : Int) * v4)) + (1 : Int)) 5366 <| ckI (0 : Int) 5366 <| if (x.1 27 0 ((((611 : Int) + ((3 : Int) * v4)) + (1 : Int))).toNat) = (x.1 27 0 ((0 : Int)).toNat) then ((F_X8_merge z (v0) (v4) x).bind fun r23 => ckR ((v2 + 1)) <| ckR ((v4 + 1)) <| F_X8_advance_71 z v0 v1 v3 k ((v2 + 1)) ((v4 + 1)) r23.2) else (ckR ((v4 + 1)) <| F_X8_advance_71 z v0 v1 v3 k (v2) ((v4 + 1)) x)))
set_option maxHeartbeats 4000000 in
set_option maxRecDepth 20000 in
theorem e_X8_advance_71 (Θ : GC) (D : Nat → Nat → Prop) (z : Nat) (v0 : Nat) (v1 : Int) (v3 : Int) (Q : Ro → Hp → Prop) (mc ms : Nat) : ∀ (k : Nat) (v2 : Int) (v4 : Int) (x : Mm) (y), F_X8_advance_71 z v0 v1 v3 k v2 v4 x = some y → (Ev Θ mX8_advance 6 137 mc ms 131 [(0, vr 8 (v0 + 1)), (1, vi (v1)), (2, vi (y.1)), (3, vi (v3))] [] (hq D y.2) Q) → Ev Θ mX8_advance 6 137 mc ms 71 [(0, vr 8 (v0 + 1)), (1, vi (v1)), (2, vi (v2)), (3, vi (v3)), (4, vi (v4))] [] (hq D x) Q := by
  intro k
  induction k with
  | zero => intro v2 v4 x y h; exact absurd h (by unfold F_X8_advance_71; exact nofun)
  | succ k ih =>
    intro v2 v4 x y h k1
    unfold F_X8_advance_71 at h
    refine Ev.iload (q := 4) ⟨dX8_advance_71, rfl⟩ rfl ?_
    refine Ev.aload_n (q := 0) ⟨dX8_advance_73, rfl⟩ rfl rfl ?_
    refine Ev.getRk (C2 := 27) (r := 0) fX8_13 rfl (by decide) (by decide) ⟨dX8_advance_74, rfl⟩ ?_
    refine Ev.iconst ⟨dX8_advance_77, rfl⟩ (inRd rfl) ?_
    obtain ⟨c12, h⟩ := ckI_s h
    refine Ev.iaload (by decide) c12.1 c12.2 ⟨dX8_advance_78, rfl⟩ ?_
    refine Ev.icmp_ge jX8_advance_79 (fun hc => ?_) (fun hc => ?_)
    · replace h := (if_pos hc).symm.trans h; clear hc
      refine Ev.keep [0, 1, 2, 3] rfl ?_
      obtain rfl := Option.some.inj h
      exact k1
    · replace h := (if_neg hc).symm.trans h; clear hc
      refine Ev.aload_n (q := 0) ⟨dX8_advance_82, rfl⟩ rfl rfl ?_
      refine Ev.iload (q := 4) ⟨dX8_advance_83, rfl⟩ rfl ?_
      obtain ⟨r14, hv13, h⟩ := bnd_s h
      refine Ev.callV1 (mc1 := mc) (ms1 := ms) (v := vi r14) (h1 := hq D x) vX8_177 (c_X8_hasLease Θ D z _ _ _ _ hv13) rfl rfl (by decide) rfl ⟨by decide, by decide, Nat.le_of_eq (Nat.zero_add _), Nat.le_of_eq (Nat.zero_add _), Nat.le_of_ble_eq_true rfl⟩ ⟨dX8_advance_85, rfl⟩ ?_
      clear hv13
      refine Ev.if_eq jX8_advance_88 (fun hc => ?_) (fun hc => ?_)
      · replace h := (if_pos hc).symm.trans h; clear hc
        obtain ⟨c15, h⟩ := ckR_s h
        refine Ev.iinc (q := 4) (ls' := [(0, _), (1, _), (2, _), (3, _), (4, _)]) ⟨dX8_advance_125, rfl⟩ rfl (by decide) c15 rfl ?_
        refine Ev.goto jX8_advance_128 ?_
        exact ih _ _ _ _ h k1
      · replace h := (if_neg hc).symm.trans h; clear hc
        refine Ev.aload_n (q := 0) ⟨dX8_advance_91, rfl⟩ rfl rfl ?_
        refine Ev.getRk (C2 := 27) (r := 0) fX8_13 rfl (by decide) (by decide) ⟨dX8_advance_92, rfl⟩ ?_
        refine Ev.sipush ⟨dX8_advance_95, rfl⟩ (inRd rfl) (by decide) ?_
        refine Ev.iconst ⟨dX8_advance_98, rfl⟩ (inRd rfl) ?_
        refine Ev.iload (q := 4) ⟨dX8_advance_99, rfl⟩ rfl ?_
        obtain ⟨c16, h⟩ := ckR_s h
        refine Ev.imul ⟨dX8_advance_101, rfl⟩ c16 ?_
        obtain ⟨c17, h⟩ := ckR_s h
        refine Ev.iadd ⟨dX8_advance_102, rfl⟩ c17 ?_
        refine Ev.iconst ⟨dX8_advance_103, rfl⟩ (inRd rfl) ?_
        obtain ⟨c18, h⟩ := ckR_s h
        refine Ev.iadd ⟨dX8_advance_104, rfl⟩ c18 ?_
        obtain ⟨c19, h⟩ := ckI_s h
        refine Ev.iaload (by decide) c19.1 c19.2 ⟨dX8_advance_105, rfl⟩ ?_
        refine Ev.aload_n (q := 0) ⟨dX8_advance_106, rfl⟩ rfl rfl ?_
        refine Ev.getRk (C2 := 27) (r := 0) fX8_13 rfl (by decide) (by decide) ⟨dX8_advance_107, rfl⟩ ?_
        refine Ev.iconst ⟨dX8_advance_110, rfl⟩ (inRd rfl) ?_
        obtain ⟨c20, h⟩ := ckI_s h
        refine Ev.iaload (by decide) c20.1 c20.2 ⟨dX8_advance_111, rfl⟩ ?_
        refine Ev.icmp_ne jX8_advance_112 (fun hc => ?_) (fun hc => ?_)
        · replace h := (if_neg hc).symm.trans h; clear hc
          obtain ⟨c21, h⟩ := ckR_s h
          refine Ev.iinc (q := 4) (ls' := [(0, _), (1, _), (2, _), (3, _), (4, _)]) ⟨dX8_advance_125, rfl⟩ rfl (by decide) c21 rfl ?_
          refine Ev.goto jX8_advance_128 ?_
          exact ih _ _ _ _ h k1
        · replace h := (if_pos hc).symm.trans h; clear hc
          refine Ev.aload_n (q := 0) ⟨dX8_advance_115, rfl⟩ rfl rfl ?_
          refine Ev.iload (q := 4) ⟨dX8_advance_116, rfl⟩ rfl ?_
          obtain ⟨r23, hv22, h⟩ := bnd_s h
          refine Ev.callV1 (mc1 := mc) (ms1 := ms) (v := vi r23.1) (h1 := hq D r23.2) vX8_278 (c_X8_merge Θ D z _ _ _ _ hv22) rfl rfl (by decide) rfl ⟨by decide, by decide, Nat.le_of_eq (Nat.zero_add _), Nat.le_of_eq (Nat.zero_add _), Nat.le_of_ble_eq_true rfl⟩ ⟨dX8_advance_118, rfl⟩ ?_
          clear hv22
          refine Ev.pop ⟨dX8_advance_121, rfl⟩ rfl ?_
          obtain ⟨c24, h⟩ := ckR_s h
          refine Ev.iinc (q := 2) (ls' := [(0, _), (1, _), (2, _), (3, _), (4, _)]) ⟨dX8_advance_122, rfl⟩ rfl (by decide) c24 rfl ?_
          obtain ⟨c25, h⟩ := ckR_s h
          refine Ev.iinc (q := 4) (ls' := [(0, _), (1, _), (2, _), (3, _), (4, _)]) ⟨dX8_advance_125, rfl⟩ rfl (by decide) c25 rfl ?_
          refine Ev.goto jX8_advance_128 ?_
          exact ih _ _ _ _ h k1

def F_X8_advance_53 (z : Nat) (v0 : Nat) (v1 : Int) : Nat → Int → Int → Mm → Option (Int × Mm)
  | 0, _, _, _ => none
  | k + 1, v2, v3, x => if v1 ≤ v3 then (some ((v2, x))) else (ckI (0 : Int) 5366 <| ckR (((x.1 27 0 ((0 : Int)).toNat) + (1 : Int))) <| ckI (0 : Int) 5366 <| (some (wI x 27 0 ((0 : Int)).toNat (((x.1 27 0 ((0 : Int)).toNat) + (1 : Int))))).bind fun x11 => (F_X8_advance_71 z (v0) (v1) (v3) z (v2) ((0 : Int)) x11).bind fun s26 => ckR ((v3 + 1)) <| F_X8_advance_53 z v0 v1 k (s26.1) ((v3 + 1)) s26.2)
set_option maxHeartbeats 4000000 in
set_option maxRecDepth 20000 in
theorem e_X8_advance_53 (Θ : GC) (D : Nat → Nat → Prop) (z : Nat) (v0 : Nat) (v1 : Int) (Q : Ro → Hp → Prop) (mc ms : Nat) : ∀ (k : Nat) (v2 : Int) (v3 : Int) (x : Mm) (y), F_X8_advance_53 z v0 v1 k v2 v3 x = some y → (Ev Θ mX8_advance 6 137 mc ms 137 [(0, vr 8 (v0 + 1)), (1, vi (v1)), (2, vi (y.1))] [] (hq D y.2) Q) → Ev Θ mX8_advance 6 137 mc ms 53 [(0, vr 8 (v0 + 1)), (1, vi (v1)), (2, vi (v2)), (3, vi (v3))] [] (hq D x) Q := by
  intro k
  induction k with
  | zero => intro v2 v3 x y h; exact absurd h (by unfold F_X8_advance_53; exact nofun)
  | succ k ih =>
    intro v2 v3 x y h k1
    unfold F_X8_advance_53 at h
    refine Ev.iload_n (q := 3) ⟨dX8_advance_53, rfl⟩ rfl rfl ?_
    refine Ev.iload_n (q := 1) ⟨dX8_advance_54, rfl⟩ rfl rfl ?_
    refine Ev.icmp_ge jX8_advance_55 (fun hc => ?_) (fun hc => ?_)
    · replace h := (if_pos hc).symm.trans h; clear hc
      refine Ev.keep [0, 1, 2] rfl ?_
      obtain rfl := Option.some.inj h
      exact k1
    · replace h := (if_neg hc).symm.trans h; clear hc
      refine Ev.aload_n (q := 0) ⟨dX8_advance_58, rfl⟩ rfl rfl ?_
      refine Ev.getRk (C2 := 27) (r := 0) fX8_13 rfl (by decide) (by decide) ⟨dX8_advance_59, rfl⟩ ?_
      refine Ev.iconst ⟨dX8_advance_62, rfl⟩ (inRd rfl) ?_
      refine Ev.dup2 ⟨dX8_advance_63, rfl⟩ rfl rfl ?_
      obtain ⟨c8, h⟩ := ckI_s h
      refine Ev.iaload (by decide) c8.1 c8.2 ⟨dX8_advance_64, rfl⟩ ?_
      refine Ev.iconst ⟨dX8_advance_65, rfl⟩ (inRd rfl) ?_
      obtain ⟨c9, h⟩ := ckR_s h
      refine Ev.iadd ⟨dX8_advance_66, rfl⟩ c9 ?_
      obtain ⟨c10, h⟩ := ckI_s h
      obtain ⟨x11, ex, h⟩ := bnd_s h
      refine Ev.iastore (by decide) c10.1 c10.2 ⟨dX8_advance_67, rfl⟩ ?_
      refine Ev.cast ?_ rfl rfl (hqI ex)
      clear ex
      refine Ev.iconst ⟨dX8_advance_68, rfl⟩ (inRd rfl) ?_
      refine Ev.istore (i := 4) (ls' := [(0, _), (1, _), (2, _), (3, _), (4, _)]) ⟨dX8_advance_69, rfl⟩ (by decide) rfl ?_
      obtain ⟨s26, hl, h⟩ := bnd_s h
      refine e_X8_advance_71 Θ D z _ _ _ _ _ _ _ _ _ _ _ hl ?_
      clear hl
      obtain ⟨c27, h⟩ := ckR_s h
      refine Ev.iinc (q := 3) (ls' := [(0, _), (1, _), (2, _), (3, _)]) ⟨dX8_advance_131, rfl⟩ rfl (by decide) c27 rfl ?_
      refine Ev.goto jX8_advance_134 ?_
      exact ih _ _ _ _ h k1

def F_X8_advance_36 (z : Nat) (v0 : Nat) (v1 : Int) (u0 : Int) (u1 : Nat) (x : Mm) : Option (Int × Mm) := (F_X8_fails z (u1) (u0) ((1 : Int)) x).bind fun r5 => if r5.1 = 0 then ((F_X8_record z (v0) r5.2).bind fun r7 => (F_X8_advance_53 z (v0) (v1) z ((0 : Int)) ((0 : Int)) r7).bind fun s28 => some ((s28.1, s28.2))) else (some (((0 : Int), r5.2)))
set_option maxHeartbeats 4000000 in
set_option maxRecDepth 20000 in
theorem e_X8_advance_36 (Θ : GC) (D : Nat → Nat → Prop) (z : Nat) (v0 : Nat) (v1 : Int) (u0 : Int) (u1 : Nat) (x : Mm) (y) (h : F_X8_advance_36 z v0 v1 u0 u1 x = some y) : Ev Θ mX8_advance 6 137 0 0 36 [(0, vr 8 (v0 + 1)), (1, vi (v1))] [vi (u0), vr 8 (u1 + 1)] (hq D x) (Ret (vi y.1) (hq D y.2)) := by
  unfold F_X8_advance_36 at h
  refine Ev.iconst ⟨dX8_advance_36, rfl⟩ (inRd rfl) ?_
  obtain ⟨r5, hv4, h⟩ := bnd_s h
  refine Ev.callV1 (mc1 := 0) (ms1 := 0) (v := vi r5.1) (h1 := hq D r5.2) vX8_49 (c_X8_fails Θ D z _ _ _ _ _ hv4) rfl rfl (by decide) rfl ⟨by decide, by decide, Nat.le_of_eq (Nat.zero_add _), Nat.le_of_eq (Nat.zero_add _), Nat.le_of_ble_eq_true rfl⟩ ⟨dX8_advance_37, rfl⟩ ?_
  clear hv4
  refine Ev.if_eq jX8_advance_40 (fun hc => ?_) (fun hc => ?_)
  · replace h := (if_pos hc).symm.trans h; clear hc
    refine Ev.aload_n (q := 0) ⟨dX8_advance_45, rfl⟩ rfl rfl ?_
    obtain ⟨r7, hv6, h⟩ := bnd_s h
    refine Ev.callVN (mc1 := 0) (ms1 := 0) (h1 := hq D r7) vX8_201 (c_X8_record Θ D z _ _ _ hv6) rfl rfl (by decide) rfl ⟨by decide, by decide, Nat.le_of_eq (Nat.zero_add _), Nat.le_of_eq (Nat.zero_add _), Nat.le_of_ble_eq_true rfl⟩ ⟨dX8_advance_46, rfl⟩ ?_
    clear hv6
    refine Ev.iconst ⟨dX8_advance_49, rfl⟩ (inRd rfl) ?_
    refine Ev.istore_n (i := 2) (ls' := [(0, _), (1, _), (2, _)]) ⟨dX8_advance_50, rfl⟩ rfl (by decide) rfl ?_
    refine Ev.iconst ⟨dX8_advance_51, rfl⟩ (inRd rfl) ?_
    refine Ev.istore_n (i := 3) (ls' := [(0, _), (1, _), (2, _), (3, _)]) ⟨dX8_advance_52, rfl⟩ rfl (by decide) rfl ?_
    obtain ⟨s28, hl, h⟩ := bnd_s h
    refine e_X8_advance_53 Θ D z _ _ _ _ _ _ _ _ _ _ hl ?_
    clear hl
    refine Ev.iload_n (q := 2) ⟨dX8_advance_137, rfl⟩ rfl rfl ?_
    obtain rfl := Option.some.inj h
    exact Ev.ireturn (ty := .int) ⟨dX8_advance_138, rfl⟩ rfl rfl ⟨rfl, rfl⟩
  · replace h := (if_neg hc).symm.trans h; clear hc
    refine Ev.iconst ⟨dX8_advance_43, rfl⟩ (inRd rfl) ?_
    obtain rfl := Option.some.inj h
    exact Ev.ireturn (ty := .int) ⟨dX8_advance_44, rfl⟩ rfl rfl ⟨rfl, rfl⟩

def F_X8_advance_35 (z : Nat) (v0 : Nat) (v1 : Int) (u0 : Nat) (x : Mm) : Option (Int × Mm) := F_X8_advance_36 z (v0) (v1) ((0 : Int)) (u0) x
set_option maxHeartbeats 4000000 in
set_option maxRecDepth 20000 in
theorem e_X8_advance_35 (Θ : GC) (D : Nat → Nat → Prop) (z : Nat) (v0 : Nat) (v1 : Int) (u0 : Nat) (x : Mm) (y) (h : F_X8_advance_35 z v0 v1 u0 x = some y) : Ev Θ mX8_advance 6 137 0 0 35 [(0, vr 8 (v0 + 1)), (1, vi (v1))] [vr 8 (u0 + 1)] (hq D x) (Ret (vi y.1) (hq D y.2)) := by
  unfold F_X8_advance_35 at h
  refine Ev.iconst ⟨dX8_advance_35, rfl⟩ (inRd rfl) ?_
  exact e_X8_advance_36 Θ D z _ _ _ _ _ _ h
def F_X8_advance (z : Nat) (v0 : Nat) (v1 : Int) (x : Mm) : Option (Int × Mm) := (some (wI x 8 v0 0 ((0 : Int)))).bind fun x1 => (F_X8_in z (v1) ((1 : Int)) ((200 : Int)) x1).bind fun r3 => if r3 = 0 then (F_X8_advance_35 z (v0) (v1) (v0) x1) else (ckI (0 : Int) 5366 <| ckR (((x1.1 27 0 ((0 : Int)).toNat) + v1)) <| if (9999 : Int) < ((x1.1 27 0 ((0 : Int)).toNat) + v1) then (F_X8_advance_35 z (v0) (v1) (v0) x1) else (F_X8_advance_36 z (v0) (v1) ((1 : Int)) (v0) x1))
set_option maxHeartbeats 4000000 in
set_option maxRecDepth 20000 in
theorem c_X8_advance (Θ : GC) (D : Nat → Nat → Prop) (z : Nat) (v0 : Nat) (v1 : Int) (x : Mm) (y) (h : F_X8_advance z v0 v1 x = some y) : Cal Θ mX8_advance 6 137 0 0 [vr 8 (v0 + 1), vi (v1)] (hq D x) (Ret (vi y.1) (hq D y.2)) := by
  refine Cal.of (by decide +kernel) rfl rfl (Nat.le_of_ble_eq_true rfl) ?_
  show Ev Θ mX8_advance 6 137 0 0 0 [(0, vr 8 (v0 + 1)), (1, vi (v1))] [] (hq D x) (Ret (vi y.1) (hq D y.2))
  unfold F_X8_advance at h
  refine Ev.aload_n (q := 0) ⟨dX8_advance_0, rfl⟩ rfl rfl ?_
  refine Ev.iconst ⟨dX8_advance_1, rfl⟩ (inRd rfl) ?_
  obtain ⟨x1, ex, h⟩ := bnd_s h
  refine Ev.putI fX8_38 ⟨dX8_advance_2, rfl⟩ ?_
  refine Ev.cast ?_ rfl rfl (hqI ex)
  clear ex
  refine Ev.aload_n (q := 0) ⟨dX8_advance_5, rfl⟩ rfl rfl ?_
  refine Ev.iload_n (q := 1) ⟨dX8_advance_6, rfl⟩ rfl rfl ?_
  refine Ev.iconst ⟨dX8_advance_7, rfl⟩ (inRd rfl) ?_
  refine Ev.sipush ⟨dX8_advance_8, rfl⟩ (inRd rfl) (by decide) ?_
  obtain ⟨r3, hv2, h⟩ := bnd_s h
  refine Ev.callS1 (mc1 := 0) (ms1 := 0) (v := vi r3) (h1 := hq D x1) sX8_53 (c_X8_in Θ D z _ _ _ _ _ hv2) rfl rfl ⟨by decide, by decide, Nat.le_of_eq (Nat.zero_add _), Nat.le_of_eq (Nat.zero_add _), Nat.le_of_ble_eq_true rfl⟩ ⟨dX8_advance_11, rfl⟩ ?_
  clear hv2
  refine Ev.if_eq jX8_advance_14 (fun hc => ?_) (fun hc => ?_)
  · replace h := (if_pos hc).symm.trans h; clear hc
    exact e_X8_advance_35 Θ D z _ _ _ _ _ h
  · replace h := (if_neg hc).symm.trans h; clear hc
    refine Ev.aload_n (q := 0) ⟨dX8_advance_17, rfl⟩ rfl rfl ?_
    refine Ev.getRk (C2 := 27) (r := 0) fX8_13 rfl (by decide) (by decide) ⟨dX8_advance_18, rfl⟩ ?_
    refine Ev.iconst ⟨dX8_advance_21, rfl⟩ (inRd rfl) ?_
    obtain ⟨c29, h⟩ := ckI_s h
    refine Ev.iaload (by decide) c29.1 c29.2 ⟨dX8_advance_22, rfl⟩ ?_
    refine Ev.iload_n (q := 1) ⟨dX8_advance_23, rfl⟩ rfl rfl ?_
    obtain ⟨c30, h⟩ := ckR_s h
    refine Ev.iadd ⟨dX8_advance_24, rfl⟩ c30 ?_
    refine Ev.sipush ⟨dX8_advance_25, rfl⟩ (inRd rfl) (by decide) ?_
    refine Ev.icmp_gt jX8_advance_28 (fun hc => ?_) (fun hc => ?_)
    · replace h := (if_pos hc).symm.trans h; clear hc
      exact e_X8_advance_35 Θ D z _ _ _ _ _ h
    · replace h := (if_neg hc).symm.trans h; clear hc
      refine Ev.iconst ⟨dX8_advance_31, rfl⟩ (inRd rfl) ?_
      refine Ev.goto jX8_advance_32 ?_
      exact e_X8_advance_36 Θ D z _ _ _ _ _ _ h

def F_X8_tick (z : Nat) (v0 : Nat) (x : Mm) : Option (Int × Mm) := (some (wI x 8 v0 0 ((0 : Int)))).bind fun x1 => ckI (0 : Int) 5366 <| some (((x1.1 27 0 ((0 : Int)).toNat), x1))
set_option maxHeartbeats 4000000 in
set_option maxRecDepth 20000 in
theorem c_X8_tick (Θ : GC) (D : Nat → Nat → Prop) (z : Nat) (v0 : Nat) (x : Mm) (y) (h : F_X8_tick z v0 x = some y) : Cal Θ mX8_tick 0 0 0 0 [vr 8 (v0 + 1)] (hq D x) (Ret (vi y.1) (hq D y.2)) := by
  refine Cal.of (by decide +kernel) rfl rfl (Nat.le_of_ble_eq_true rfl) ?_
  show Ev Θ mX8_tick 0 0 0 0 0 [(0, vr 8 (v0 + 1))] [] (hq D x) (Ret (vi y.1) (hq D y.2))
  unfold F_X8_tick at h
  refine Ev.aload_n (q := 0) ⟨dX8_tick_0, rfl⟩ rfl rfl ?_
  refine Ev.iconst ⟨dX8_tick_1, rfl⟩ (inRd rfl) ?_
  obtain ⟨x1, ex, h⟩ := bnd_s h
  refine Ev.putI fX8_38 ⟨dX8_tick_2, rfl⟩ ?_
  refine Ev.cast ?_ rfl rfl (hqI ex)
  clear ex
  refine Ev.aload_n (q := 0) ⟨dX8_tick_5, rfl⟩ rfl rfl ?_
  refine Ev.getRk (C2 := 27) (r := 0) fX8_13 rfl (by decide) (by decide) ⟨dX8_tick_6, rfl⟩ ?_
  refine Ev.iconst ⟨dX8_tick_9, rfl⟩ (inRd rfl) ?_
  obtain ⟨c2, h⟩ := ckI_s h
  refine Ev.iaload (by decide) c2.1 c2.2 ⟨dX8_tick_10, rfl⟩ ?_
  obtain rfl := Option.some.inj h
  exact Ev.ireturn (ty := .int) ⟨dX8_tick_11, rfl⟩ rfl rfl ⟨rfl, rfl⟩

def F_X8_setup (z : Nat) (v0 : Nat) (v1 : Int) (x : Mm) : Option (Int × Mm) := (some (wI x 8 v0 0 ((0 : Int)))).bind fun x1 => (F_X8_in z (v1) ((0 : Int)) ((1 : Int)) x1).bind fun r3 => (F_X8_fails z (v0) (r3) ((1 : Int)) x1).bind fun r5 => if r5.1 = 0 then (if v1 = 0 then (ckI (1 : Int) 5366 <| some (((r5.2.1 27 0 ((1 : Int)).toNat), r5.2))) else (ckI (2 : Int) 5366 <| some (((r5.2.1 27 0 ((2 : Int)).toNat), r5.2)))) else (some (((0 : Int), r5.2)))
set_option maxHeartbeats 4000000 in
set_option maxRecDepth 20000 in
theorem c_X8_setup (Θ : GC) (D : Nat → Nat → Prop) (z : Nat) (v0 : Nat) (v1 : Int) (x : Mm) (y) (h : F_X8_setup z v0 v1 x = some y) : Cal Θ mX8_setup 1 22 0 0 [vr 8 (v0 + 1), vi (v1)] (hq D x) (Ret (vi y.1) (hq D y.2)) := by
  refine Cal.of (by decide +kernel) rfl rfl (Nat.le_of_ble_eq_true rfl) ?_
  show Ev Θ mX8_setup 1 22 0 0 0 [(0, vr 8 (v0 + 1)), (1, vi (v1))] [] (hq D x) (Ret (vi y.1) (hq D y.2))
  unfold F_X8_setup at h
  refine Ev.aload_n (q := 0) ⟨dX8_setup_0, rfl⟩ rfl rfl ?_
  refine Ev.iconst ⟨dX8_setup_1, rfl⟩ (inRd rfl) ?_
  obtain ⟨x1, ex, h⟩ := bnd_s h
  refine Ev.putI fX8_38 ⟨dX8_setup_2, rfl⟩ ?_
  refine Ev.cast ?_ rfl rfl (hqI ex)
  clear ex
  refine Ev.aload_n (q := 0) ⟨dX8_setup_5, rfl⟩ rfl rfl ?_
  refine Ev.iload_n (q := 1) ⟨dX8_setup_6, rfl⟩ rfl rfl ?_
  refine Ev.iconst ⟨dX8_setup_7, rfl⟩ (inRd rfl) ?_
  refine Ev.iconst ⟨dX8_setup_8, rfl⟩ (inRd rfl) ?_
  obtain ⟨r3, hv2, h⟩ := bnd_s h
  refine Ev.callS1 (mc1 := 0) (ms1 := 0) (v := vi r3) (h1 := hq D x1) sX8_53 (c_X8_in Θ D z _ _ _ _ _ hv2) rfl rfl ⟨by decide, by decide, Nat.le_of_eq (Nat.zero_add _), Nat.le_of_eq (Nat.zero_add _), Nat.le_of_ble_eq_true rfl⟩ ⟨dX8_setup_9, rfl⟩ ?_
  clear hv2
  refine Ev.iconst ⟨dX8_setup_12, rfl⟩ (inRd rfl) ?_
  obtain ⟨r5, hv4, h⟩ := bnd_s h
  refine Ev.callV1 (mc1 := 0) (ms1 := 0) (v := vi r5.1) (h1 := hq D r5.2) vX8_49 (c_X8_fails Θ D z _ _ _ _ _ hv4) rfl rfl (by decide) rfl ⟨by decide, by decide, Nat.le_of_eq (Nat.zero_add _), Nat.le_of_eq (Nat.zero_add _), Nat.le_of_ble_eq_true rfl⟩ ⟨dX8_setup_13, rfl⟩ ?_
  clear hv4
  refine Ev.if_eq jX8_setup_16 (fun hc => ?_) (fun hc => ?_)
  · replace h := (if_pos hc).symm.trans h; clear hc
    refine Ev.aload_n (q := 0) ⟨dX8_setup_23, rfl⟩ rfl rfl ?_
    refine Ev.getRk (C2 := 27) (r := 0) fX8_13 rfl (by decide) (by decide) ⟨dX8_setup_24, rfl⟩ ?_
    refine Ev.iload_n (q := 1) ⟨dX8_setup_27, rfl⟩ rfl rfl ?_
    refine Ev.if_ne jX8_setup_28 (fun hc => ?_) (fun hc => ?_)
    · replace h := (if_neg hc).symm.trans h; clear hc
      refine Ev.iconst ⟨dX8_setup_35, rfl⟩ (inRd rfl) ?_
      obtain ⟨c6, h⟩ := ckI_s h
      refine Ev.iaload (by decide) c6.1 c6.2 ⟨dX8_setup_36, rfl⟩ ?_
      obtain rfl := Option.some.inj h
      exact Ev.ireturn (ty := .int) ⟨dX8_setup_37, rfl⟩ rfl rfl ⟨rfl, rfl⟩
    · replace h := (if_pos hc).symm.trans h; clear hc
      refine Ev.iconst ⟨dX8_setup_31, rfl⟩ (inRd rfl) ?_
      refine Ev.goto jX8_setup_32 ?_
      obtain ⟨c7, h⟩ := ckI_s h
      refine Ev.iaload (by decide) c7.1 c7.2 ⟨dX8_setup_36, rfl⟩ ?_
      obtain rfl := Option.some.inj h
      exact Ev.ireturn (ty := .int) ⟨dX8_setup_37, rfl⟩ rfl rfl ⟨rfl, rfl⟩
  · replace h := (if_neg hc).symm.trans h; clear hc
    refine Ev.iconst ⟨dX8_setup_19, rfl⟩ (inRd rfl) ?_
    refine Ev.goto jX8_setup_20 ?_
    obtain rfl := Option.some.inj h
    exact Ev.ireturn (ty := .int) ⟨dX8_setup_37, rfl⟩ rfl rfl ⟨rfl, rfl⟩

def F_X8_rule (z : Nat) (v0 : Nat) (v1 : Int) (x : Mm) : Option (Int × Mm) := (some (wI x 8 v0 0 ((0 : Int)))).bind fun x1 => (F_X8_isField z (v0) (v1) x1).bind fun r3 => (F_X8_fails z (v0) (r3) ((1 : Int)) x1).bind fun r5 => if r5.1 = 0 then (ckR (((5 : Int) + v1)) <| ckI ((5 : Int) + v1) 5366 <| some (((r5.2.1 27 0 (((5 : Int) + v1)).toNat), r5.2))) else (some (((0 : Int), r5.2)))
set_option maxHeartbeats 4000000 in
set_option maxRecDepth 20000 in
theorem c_X8_rule (Θ : GC) (D : Nat → Nat → Prop) (z : Nat) (v0 : Nat) (v1 : Int) (x : Mm) (y) (h : F_X8_rule z v0 v1 x = some y) : Cal Θ mX8_rule 2 43 0 0 [vr 8 (v0 + 1), vi (v1)] (hq D x) (Ret (vi y.1) (hq D y.2)) := by
  refine Cal.of (by decide +kernel) rfl rfl (Nat.le_of_ble_eq_true rfl) ?_
  show Ev Θ mX8_rule 2 43 0 0 0 [(0, vr 8 (v0 + 1)), (1, vi (v1))] [] (hq D x) (Ret (vi y.1) (hq D y.2))
  unfold F_X8_rule at h
  refine Ev.aload_n (q := 0) ⟨dX8_rule_0, rfl⟩ rfl rfl ?_
  refine Ev.iconst ⟨dX8_rule_1, rfl⟩ (inRd rfl) ?_
  obtain ⟨x1, ex, h⟩ := bnd_s h
  refine Ev.putI fX8_38 ⟨dX8_rule_2, rfl⟩ ?_
  refine Ev.cast ?_ rfl rfl (hqI ex)
  clear ex
  refine Ev.aload_n (q := 0) ⟨dX8_rule_5, rfl⟩ rfl rfl ?_
  refine Ev.aload_n (q := 0) ⟨dX8_rule_6, rfl⟩ rfl rfl ?_
  refine Ev.iload_n (q := 1) ⟨dX8_rule_7, rfl⟩ rfl rfl ?_
  obtain ⟨r3, hv2, h⟩ := bnd_s h
  refine Ev.callV1 (mc1 := 0) (ms1 := 0) (v := vi r3) (h1 := hq D x1) vX8_205 (c_X8_isField Θ D z _ _ _ _ hv2) rfl rfl (by decide) rfl ⟨by decide, by decide, Nat.le_of_eq (Nat.zero_add _), Nat.le_of_eq (Nat.zero_add _), Nat.le_of_ble_eq_true rfl⟩ ⟨dX8_rule_8, rfl⟩ ?_
  clear hv2
  refine Ev.iconst ⟨dX8_rule_11, rfl⟩ (inRd rfl) ?_
  obtain ⟨r5, hv4, h⟩ := bnd_s h
  refine Ev.callV1 (mc1 := 0) (ms1 := 0) (v := vi r5.1) (h1 := hq D r5.2) vX8_49 (c_X8_fails Θ D z _ _ _ _ _ hv4) rfl rfl (by decide) rfl ⟨by decide, by decide, Nat.le_of_eq (Nat.zero_add _), Nat.le_of_eq (Nat.zero_add _), Nat.le_of_ble_eq_true rfl⟩ ⟨dX8_rule_12, rfl⟩ ?_
  clear hv4
  refine Ev.if_eq jX8_rule_15 (fun hc => ?_) (fun hc => ?_)
  · replace h := (if_pos hc).symm.trans h; clear hc
    refine Ev.aload_n (q := 0) ⟨dX8_rule_22, rfl⟩ rfl rfl ?_
    refine Ev.getRk (C2 := 27) (r := 0) fX8_13 rfl (by decide) (by decide) ⟨dX8_rule_23, rfl⟩ ?_
    refine Ev.iconst ⟨dX8_rule_26, rfl⟩ (inRd rfl) ?_
    refine Ev.iload_n (q := 1) ⟨dX8_rule_27, rfl⟩ rfl rfl ?_
    obtain ⟨c6, h⟩ := ckR_s h
    refine Ev.iadd ⟨dX8_rule_28, rfl⟩ c6 ?_
    obtain ⟨c7, h⟩ := ckI_s h
    refine Ev.iaload (by decide) c7.1 c7.2 ⟨dX8_rule_29, rfl⟩ ?_
    obtain rfl := Option.some.inj h
    exact Ev.ireturn (ty := .int) ⟨dX8_rule_30, rfl⟩ rfl rfl ⟨rfl, rfl⟩
  · replace h := (if_neg hc).symm.trans h; clear hc
    refine Ev.iconst ⟨dX8_rule_18, rfl⟩ (inRd rfl) ?_
    refine Ev.goto jX8_rule_19 ?_
    obtain rfl := Option.some.inj h
    exact Ev.ireturn (ty := .int) ⟨dX8_rule_30, rfl⟩ rfl rfl ⟨rfl, rfl⟩

def F_X8_nodeCount (z : Nat) (v0 : Nat) (x : Mm) : Option (Int × Mm) := (some (wI x 8 v0 0 ((0 : Int)))).bind fun x1 => ckI (3 : Int) 5366 <| some (((x1.1 27 0 ((3 : Int)).toNat), x1))
set_option maxHeartbeats 4000000 in
set_option maxRecDepth 20000 in
theorem c_X8_nodeCount (Θ : GC) (D : Nat → Nat → Prop) (z : Nat) (v0 : Nat) (x : Mm) (y) (h : F_X8_nodeCount z v0 x = some y) : Cal Θ mX8_nodeCount 0 0 0 0 [vr 8 (v0 + 1)] (hq D x) (Ret (vi y.1) (hq D y.2)) := by
  refine Cal.of (by decide +kernel) rfl rfl (Nat.le_of_ble_eq_true rfl) ?_
  show Ev Θ mX8_nodeCount 0 0 0 0 0 [(0, vr 8 (v0 + 1))] [] (hq D x) (Ret (vi y.1) (hq D y.2))
  unfold F_X8_nodeCount at h
  refine Ev.aload_n (q := 0) ⟨dX8_nodeCount_0, rfl⟩ rfl rfl ?_
  refine Ev.iconst ⟨dX8_nodeCount_1, rfl⟩ (inRd rfl) ?_
  obtain ⟨x1, ex, h⟩ := bnd_s h
  refine Ev.putI fX8_38 ⟨dX8_nodeCount_2, rfl⟩ ?_
  refine Ev.cast ?_ rfl rfl (hqI ex)
  clear ex
  refine Ev.aload_n (q := 0) ⟨dX8_nodeCount_5, rfl⟩ rfl rfl ?_
  refine Ev.getRk (C2 := 27) (r := 0) fX8_13 rfl (by decide) (by decide) ⟨dX8_nodeCount_6, rfl⟩ ?_
  refine Ev.iconst ⟨dX8_nodeCount_9, rfl⟩ (inRd rfl) ?_
  obtain ⟨c2, h⟩ := ckI_s h
  refine Ev.iaload (by decide) c2.1 c2.2 ⟨dX8_nodeCount_10, rfl⟩ ?_
  obtain rfl := Option.some.inj h
  exact Ev.ireturn (ty := .int) ⟨dX8_nodeCount_11, rfl⟩ rfl rfl ⟨rfl, rfl⟩

def F_X8_depth_4 (z : Nat) (v0 : Nat) (v1 : Int) (x : Mm) : Nat → Int → Int → Option (Int)
  | 0, _, _ => none
  | k + 1, v2, v3 => if v3 ≤ 0 then (some (v2)) else (ckR ((v2 + 1)) <| ckR (((11 : Int) + v3)) <| ckI ((11 : Int) + v3) 5366 <| F_X8_depth_4 z v0 v1 x k ((v2 + 1)) ((x.1 27 0 (((11 : Int) + v3)).toNat)))
set_option maxHeartbeats 4000000 in
set_option maxRecDepth 20000 in
theorem e_X8_depth_4 (Θ : GC) (D : Nat → Nat → Prop) (z : Nat) (v0 : Nat) (v1 : Int) (x : Mm) (Q : Ro → Hp → Prop) (mc ms : Nat) : ∀ (k : Nat) (v2 : Int) (v3 : Int) (y), F_X8_depth_4 z v0 v1 x k v2 v3 = some y → (Ev Θ mX8_depth 0 0 mc ms 24 [(0, vr 8 (v0 + 1)), (1, vi (v1)), (2, vi (y))] [] (hq D x) Q) → Ev Θ mX8_depth 0 0 mc ms 4 [(0, vr 8 (v0 + 1)), (1, vi (v1)), (2, vi (v2)), (3, vi (v3))] [] (hq D x) Q := by
  intro k
  induction k with
  | zero => intro v2 v3 y h; exact absurd h (by unfold F_X8_depth_4; exact nofun)
  | succ k ih =>
    intro v2 v3 y h k1
    unfold F_X8_depth_4 at h
    refine Ev.iload_n (q := 3) ⟨dX8_depth_4, rfl⟩ rfl rfl ?_
    refine Ev.if_le jX8_depth_5 (fun hc => ?_) (fun hc => ?_)
    · replace h := (if_pos hc).symm.trans h; clear hc
      refine Ev.keep [0, 1, 2] rfl ?_
      obtain rfl := Option.some.inj h
      exact k1
    · replace h := (if_neg hc).symm.trans h; clear hc
      obtain ⟨c1, h⟩ := ckR_s h
      refine Ev.iinc (q := 2) (ls' := [(0, _), (1, _), (2, _), (3, _)]) ⟨dX8_depth_8, rfl⟩ rfl (by decide) c1 rfl ?_
      refine Ev.aload_n (q := 0) ⟨dX8_depth_11, rfl⟩ rfl rfl ?_
      refine Ev.getRk (C2 := 27) (r := 0) fX8_13 rfl (by decide) (by decide) ⟨dX8_depth_12, rfl⟩ ?_
      refine Ev.bipush ⟨dX8_depth_15, rfl⟩ (inRd rfl) (by decide) ?_
      refine Ev.iload_n (q := 3) ⟨dX8_depth_17, rfl⟩ rfl rfl ?_
      obtain ⟨c2, h⟩ := ckR_s h
      refine Ev.iadd ⟨dX8_depth_18, rfl⟩ c2 ?_
      obtain ⟨c3, h⟩ := ckI_s h
      refine Ev.iaload (by decide) c3.1 c3.2 ⟨dX8_depth_19, rfl⟩ ?_
      refine Ev.istore_n (i := 3) (ls' := [(0, _), (1, _), (2, _), (3, _)]) ⟨dX8_depth_20, rfl⟩ rfl (by decide) rfl ?_
      refine Ev.goto jX8_depth_21 ?_
      exact ih _ _ _ h k1
def F_X8_depth (z : Nat) (v0 : Nat) (v1 : Int) (x : Mm) : Option (Int) := (F_X8_depth_4 z (v0) (v1) x z ((0 : Int)) (v1)).bind fun s4 => some (s4)
set_option maxHeartbeats 4000000 in
set_option maxRecDepth 20000 in
theorem c_X8_depth (Θ : GC) (D : Nat → Nat → Prop) (z : Nat) (v0 : Nat) (v1 : Int) (x : Mm) (y) (h : F_X8_depth z v0 v1 x = some y) : Cal Θ mX8_depth 0 0 0 0 [vr 8 (v0 + 1), vi (v1)] (hq D x) (Ret (vi y) (hq D x)) := by
  refine Cal.of (by decide +kernel) rfl rfl (Nat.le_of_ble_eq_true rfl) ?_
  show Ev Θ mX8_depth 0 0 0 0 0 [(0, vr 8 (v0 + 1)), (1, vi (v1))] [] (hq D x) (Ret (vi y) (hq D x))
  unfold F_X8_depth at h
  refine Ev.iconst ⟨dX8_depth_0, rfl⟩ (inRd rfl) ?_
  refine Ev.istore_n (i := 2) (ls' := [(0, _), (1, _), (2, _)]) ⟨dX8_depth_1, rfl⟩ rfl (by decide) rfl ?_
  refine Ev.iload_n (q := 1) ⟨dX8_depth_2, rfl⟩ rfl rfl ?_
  refine Ev.istore_n (i := 3) (ls' := [(0, _), (1, _), (2, _), (3, _)]) ⟨dX8_depth_3, rfl⟩ rfl (by decide) rfl ?_
  obtain ⟨s4, hl, h⟩ := bnd_s h
  refine e_X8_depth_4 Θ D z _ _ _ _ _ _ _ _ _ _ hl ?_
  clear hl
  refine Ev.iload_n (q := 2) ⟨dX8_depth_24, rfl⟩ rfl rfl ?_
  obtain rfl := Option.some.inj h
  exact Ev.ireturn (ty := .int) ⟨dX8_depth_25, rfl⟩ rfl rfl ⟨rfl, rfl⟩

def F_X8_node (z : Nat) (v0 : Nat) (v1 : Int) (v2 : Int) (x : Mm) : Option (Int × Mm) := (some (wI x 8 v0 0 ((0 : Int)))).bind fun x1 => (F_X8_isNode z (v0) (v1) x1).bind fun r3 => (F_X8_fails z (v0) (r3) ((1 : Int)) x1).bind fun r5 => if r5.1 = 0 then ((F_X8_in z (v2) ((0 : Int)) ((4 : Int)) r5.2).bind fun r7 => (F_X8_fails z (v0) (r7) ((2 : Int)) r5.2).bind fun r9 => if r9.1 = 0 then (if v2 = 0 then (ckR (((11 : Int) + v1)) <| ckI ((11 : Int) + v1) 5366 <| some (((r9.2.1 27 0 (((11 : Int) + v1)).toNat), r9.2))) else if v2 = 1 then (ckR (((71 : Int) + v1)) <| ckI ((71 : Int) + v1) 5366 <| some (((r9.2.1 27 0 (((71 : Int) + v1)).toNat), r9.2))) else if v2 = 2 then (ckR (((131 : Int) + v1)) <| ckI ((131 : Int) + v1) 5366 <| some (((r9.2.1 27 0 (((131 : Int) + v1)).toNat), r9.2))) else if v2 = 3 then (ckR (((191 : Int) + v1)) <| ckI ((191 : Int) + v1) 5366 <| some (((r9.2.1 27 0 (((191 : Int) + v1)).toNat), r9.2))) else ((F_X8_depth z (v0) (v1) r9.2).bind fun r19 => some ((r19, r9.2)))) else (some (((0 : Int), r9.2)))) else (some (((0 : Int), r5.2)))
set_option maxHeartbeats 4000000 in
set_option maxRecDepth 20000 in
theorem c_X8_node (Θ : GC) (D : Nat → Nat → Prop) (z : Nat) (v0 : Nat) (v1 : Int) (v2 : Int) (x : Mm) (y) (h : F_X8_node z v0 v1 v2 x = some y) : Cal Θ mX8_node 2 43 0 0 [vr 8 (v0 + 1), vi (v1), vi (v2)] (hq D x) (Ret (vi y.1) (hq D y.2)) := by
  refine Cal.of (by decide +kernel) rfl rfl (Nat.le_of_ble_eq_true rfl) ?_
  show Ev Θ mX8_node 2 43 0 0 0 [(0, vr 8 (v0 + 1)), (1, vi (v1)), (2, vi (v2))] [] (hq D x) (Ret (vi y.1) (hq D y.2))
  unfold F_X8_node at h
  refine Ev.aload_n (q := 0) ⟨dX8_node_0, rfl⟩ rfl rfl ?_
  refine Ev.iconst ⟨dX8_node_1, rfl⟩ (inRd rfl) ?_
  obtain ⟨x1, ex, h⟩ := bnd_s h
  refine Ev.putI fX8_38 ⟨dX8_node_2, rfl⟩ ?_
  refine Ev.cast ?_ rfl rfl (hqI ex)
  clear ex
  refine Ev.aload_n (q := 0) ⟨dX8_node_5, rfl⟩ rfl rfl ?_
  refine Ev.aload_n (q := 0) ⟨dX8_node_6, rfl⟩ rfl rfl ?_
  refine Ev.iload_n (q := 1) ⟨dX8_node_7, rfl⟩ rfl rfl ?_
  obtain ⟨r3, hv2, h⟩ := bnd_s h
  refine Ev.callV1 (mc1 := 0) (ms1 := 0) (v := vi r3) (h1 := hq D x1) vX8_191 (c_X8_isNode Θ D z _ _ _ _ hv2) rfl rfl (by decide) rfl ⟨by decide, by decide, Nat.le_of_eq (Nat.zero_add _), Nat.le_of_eq (Nat.zero_add _), Nat.le_of_ble_eq_true rfl⟩ ⟨dX8_node_8, rfl⟩ ?_
  clear hv2
  refine Ev.iconst ⟨dX8_node_11, rfl⟩ (inRd rfl) ?_
  obtain ⟨r5, hv4, h⟩ := bnd_s h
  refine Ev.callV1 (mc1 := 0) (ms1 := 0) (v := vi r5.1) (h1 := hq D r5.2) vX8_49 (c_X8_fails Θ D z _ _ _ _ _ hv4) rfl rfl (by decide) rfl ⟨by decide, by decide, Nat.le_of_eq (Nat.zero_add _), Nat.le_of_eq (Nat.zero_add _), Nat.le_of_ble_eq_true rfl⟩ ⟨dX8_node_12, rfl⟩ ?_
  clear hv4
  refine Ev.if_ne jX8_node_15 (fun hc => ?_) (fun hc => ?_)
  · replace h := (if_neg hc).symm.trans h; clear hc
    refine Ev.iconst ⟨dX8_node_32, rfl⟩ (inRd rfl) ?_
    obtain rfl := Option.some.inj h
    exact Ev.ireturn (ty := .int) ⟨dX8_node_33, rfl⟩ rfl rfl ⟨rfl, rfl⟩
  · replace h := (if_pos hc).symm.trans h; clear hc
    refine Ev.aload_n (q := 0) ⟨dX8_node_18, rfl⟩ rfl rfl ?_
    refine Ev.iload_n (q := 2) ⟨dX8_node_19, rfl⟩ rfl rfl ?_
    refine Ev.iconst ⟨dX8_node_20, rfl⟩ (inRd rfl) ?_
    refine Ev.iconst ⟨dX8_node_21, rfl⟩ (inRd rfl) ?_
    obtain ⟨r7, hv6, h⟩ := bnd_s h
    refine Ev.callS1 (mc1 := 0) (ms1 := 0) (v := vi r7) (h1 := hq D r5.2) sX8_53 (c_X8_in Θ D z _ _ _ _ _ hv6) rfl rfl ⟨by decide, by decide, Nat.le_of_eq (Nat.zero_add _), Nat.le_of_eq (Nat.zero_add _), Nat.le_of_ble_eq_true rfl⟩ ⟨dX8_node_22, rfl⟩ ?_
    clear hv6
    refine Ev.iconst ⟨dX8_node_25, rfl⟩ (inRd rfl) ?_
    obtain ⟨r9, hv8, h⟩ := bnd_s h
    refine Ev.callV1 (mc1 := 0) (ms1 := 0) (v := vi r9.1) (h1 := hq D r9.2) vX8_49 (c_X8_fails Θ D z _ _ _ _ _ hv8) rfl rfl (by decide) rfl ⟨by decide, by decide, Nat.le_of_eq (Nat.zero_add _), Nat.le_of_eq (Nat.zero_add _), Nat.le_of_ble_eq_true rfl⟩ ⟨dX8_node_26, rfl⟩ ?_
    clear hv8
    refine Ev.if_eq jX8_node_29 (fun hc => ?_) (fun hc => ?_)
    · replace h := (if_pos hc).symm.trans h; clear hc
      refine Ev.iload_n (q := 2) ⟨dX8_node_34, rfl⟩ rfl rfl ?_
      show Ev _ _ _ _ _ _ _ _ (vi (v2) :: _) _ _
      by_cases hk : v2 = 0
      · replace h := (if_pos hk).symm.trans h
        refine Ev.tswIn (tg := 64) (off := 29) dX8_node_35 (by omega) (by omega) (by rw [hk]; rfl) (by decide) ?_
        clear hk
        refine Ev.aload_n (q := 0) ⟨dX8_node_64, rfl⟩ rfl rfl ?_
        refine Ev.getRk (C2 := 27) (r := 0) fX8_13 rfl (by decide) (by decide) ⟨dX8_node_65, rfl⟩ ?_
        refine Ev.bipush ⟨dX8_node_68, rfl⟩ (inRd rfl) (by decide) ?_
        refine Ev.iload_n (q := 1) ⟨dX8_node_70, rfl⟩ rfl rfl ?_
        obtain ⟨c10, h⟩ := ckR_s h
        refine Ev.iadd ⟨dX8_node_71, rfl⟩ c10 ?_
        obtain ⟨c11, h⟩ := ckI_s h
        refine Ev.iaload (by decide) c11.1 c11.2 ⟨dX8_node_72, rfl⟩ ?_
        obtain rfl := Option.some.inj h
        exact Ev.ireturn (ty := .int) ⟨dX8_node_73, rfl⟩ rfl rfl ⟨rfl, rfl⟩
      replace h := (if_neg hk).symm.trans h
      have hn0 := hk; clear hk
      by_cases hk : v2 = 1
      · replace h := (if_pos hk).symm.trans h
        refine Ev.tswIn (tg := 74) (off := 39) dX8_node_35 (by omega) (by omega) (by rw [hk]; rfl) (by decide) ?_
        clear hk
        refine Ev.aload_n (q := 0) ⟨dX8_node_74, rfl⟩ rfl rfl ?_
        refine Ev.getRk (C2 := 27) (r := 0) fX8_13 rfl (by decide) (by decide) ⟨dX8_node_75, rfl⟩ ?_
        refine Ev.bipush ⟨dX8_node_78, rfl⟩ (inRd rfl) (by decide) ?_
        refine Ev.iload_n (q := 1) ⟨dX8_node_80, rfl⟩ rfl rfl ?_
        obtain ⟨c12, h⟩ := ckR_s h
        refine Ev.iadd ⟨dX8_node_81, rfl⟩ c12 ?_
        obtain ⟨c13, h⟩ := ckI_s h
        refine Ev.iaload (by decide) c13.1 c13.2 ⟨dX8_node_82, rfl⟩ ?_
        obtain rfl := Option.some.inj h
        exact Ev.ireturn (ty := .int) ⟨dX8_node_83, rfl⟩ rfl rfl ⟨rfl, rfl⟩
      replace h := (if_neg hk).symm.trans h
      have hn1 := hk; clear hk
      by_cases hk : v2 = 2
      · replace h := (if_pos hk).symm.trans h
        refine Ev.tswIn (tg := 84) (off := 49) dX8_node_35 (by omega) (by omega) (by rw [hk]; rfl) (by decide) ?_
        clear hk
        refine Ev.aload_n (q := 0) ⟨dX8_node_84, rfl⟩ rfl rfl ?_
        refine Ev.getRk (C2 := 27) (r := 0) fX8_13 rfl (by decide) (by decide) ⟨dX8_node_85, rfl⟩ ?_
        refine Ev.sipush ⟨dX8_node_88, rfl⟩ (inRd rfl) (by decide) ?_
        refine Ev.iload_n (q := 1) ⟨dX8_node_91, rfl⟩ rfl rfl ?_
        obtain ⟨c14, h⟩ := ckR_s h
        refine Ev.iadd ⟨dX8_node_92, rfl⟩ c14 ?_
        obtain ⟨c15, h⟩ := ckI_s h
        refine Ev.iaload (by decide) c15.1 c15.2 ⟨dX8_node_93, rfl⟩ ?_
        obtain rfl := Option.some.inj h
        exact Ev.ireturn (ty := .int) ⟨dX8_node_94, rfl⟩ rfl rfl ⟨rfl, rfl⟩
      replace h := (if_neg hk).symm.trans h
      have hn2 := hk; clear hk
      by_cases hk : v2 = 3
      · replace h := (if_pos hk).symm.trans h
        refine Ev.tswIn (tg := 95) (off := 60) dX8_node_35 (by omega) (by omega) (by rw [hk]; rfl) (by decide) ?_
        clear hk
        refine Ev.aload_n (q := 0) ⟨dX8_node_95, rfl⟩ rfl rfl ?_
        refine Ev.getRk (C2 := 27) (r := 0) fX8_13 rfl (by decide) (by decide) ⟨dX8_node_96, rfl⟩ ?_
        refine Ev.sipush ⟨dX8_node_99, rfl⟩ (inRd rfl) (by decide) ?_
        refine Ev.iload_n (q := 1) ⟨dX8_node_102, rfl⟩ rfl rfl ?_
        obtain ⟨c16, h⟩ := ckR_s h
        refine Ev.iadd ⟨dX8_node_103, rfl⟩ c16 ?_
        obtain ⟨c17, h⟩ := ckI_s h
        refine Ev.iaload (by decide) c17.1 c17.2 ⟨dX8_node_104, rfl⟩ ?_
        obtain rfl := Option.some.inj h
        exact Ev.ireturn (ty := .int) ⟨dX8_node_105, rfl⟩ rfl rfl ⟨rfl, rfl⟩
      replace h := (if_neg hk).symm.trans h
      have hn3 := hk; clear hk
      refine Ev.tswOut (tg := 106) dX8_node_35 (by omega) (by decide) ?_
      clear hn0 hn1 hn2 hn3
      refine Ev.aload_n (q := 0) ⟨dX8_node_106, rfl⟩ rfl rfl ?_
      refine Ev.iload_n (q := 1) ⟨dX8_node_107, rfl⟩ rfl rfl ?_
      obtain ⟨r19, hv18, h⟩ := bnd_s h
      refine Ev.callV1 (mc1 := 0) (ms1 := 0) (v := vi r19) (h1 := hq D r9.2) vX8_284 (c_X8_depth Θ D z _ _ _ _ hv18) rfl rfl (by decide) rfl ⟨by decide, by decide, Nat.le_of_eq (Nat.zero_add _), Nat.le_of_eq (Nat.zero_add _), Nat.le_of_ble_eq_true rfl⟩ ⟨dX8_node_108, rfl⟩ ?_
      clear hv18
      obtain rfl := Option.some.inj h
      exact Ev.ireturn (ty := .int) ⟨dX8_node_111, rfl⟩ rfl rfl ⟨rfl, rfl⟩
    · replace h := (if_neg hc).symm.trans h; clear hc
      refine Ev.iconst ⟨dX8_node_32, rfl⟩ (inRd rfl) ?_
      obtain rfl := Option.some.inj h
      exact Ev.ireturn (ty := .int) ⟨dX8_node_33, rfl⟩ rfl rfl ⟨rfl, rfl⟩

def F_X8_field_27 (z : Nat) (v0 : Nat) (v1 : Int) (v2 : Int) (u0 : Int) (u1 : Nat) (x : Mm) : Option (Int × Mm) := (F_X8_fails z (u1) (u0) ((1 : Int)) x).bind fun r5 => if r5.1 = 0 then ((F_X8_value z (v0) (v1) (v2) r5.2).bind fun r7 => some ((r7, r5.2))) else (some (((0 : Int), r5.2)))
set_option maxHeartbeats 4000000 in
set_option maxRecDepth 20000 in
theorem e_X8_field_27 (Θ : GC) (D : Nat → Nat → Prop) (z : Nat) (v0 : Nat) (v1 : Int) (v2 : Int) (u0 : Int) (u1 : Nat) (x : Mm) (y) (h : F_X8_field_27 z v0 v1 v2 u0 u1 x = some y) : Ev Θ mX8_field 2 43 0 0 27 [(0, vr 8 (v0 + 1)), (1, vi (v1)), (2, vi (v2))] [vi (u0), vr 8 (u1 + 1)] (hq D x) (Ret (vi y.1) (hq D y.2)) := by
  unfold F_X8_field_27 at h
  refine Ev.iconst ⟨dX8_field_27, rfl⟩ (inRd rfl) ?_
  obtain ⟨r5, hv4, h⟩ := bnd_s h
  refine Ev.callV1 (mc1 := 0) (ms1 := 0) (v := vi r5.1) (h1 := hq D r5.2) vX8_49 (c_X8_fails Θ D z _ _ _ _ _ hv4) rfl rfl (by decide) rfl ⟨by decide, by decide, Nat.le_of_eq (Nat.zero_add _), Nat.le_of_eq (Nat.zero_add _), Nat.le_of_ble_eq_true rfl⟩ ⟨dX8_field_28, rfl⟩ ?_
  clear hv4
  refine Ev.if_eq jX8_field_31 (fun hc => ?_) (fun hc => ?_)
  · replace h := (if_pos hc).symm.trans h; clear hc
    refine Ev.aload_n (q := 0) ⟨dX8_field_38, rfl⟩ rfl rfl ?_
    refine Ev.iload_n (q := 1) ⟨dX8_field_39, rfl⟩ rfl rfl ?_
    refine Ev.iload_n (q := 2) ⟨dX8_field_40, rfl⟩ rfl rfl ?_
    obtain ⟨r7, hv6, h⟩ := bnd_s h
    refine Ev.callV1 (mc1 := 0) (ms1 := 0) (v := vi r7) (h1 := hq D r5.2) vX8_203 (c_X8_value Θ D z _ _ _ _ _ hv6) rfl rfl (by decide) rfl ⟨by decide, by decide, Nat.le_of_eq (Nat.zero_add _), Nat.le_of_eq (Nat.zero_add _), Nat.le_of_ble_eq_true rfl⟩ ⟨dX8_field_41, rfl⟩ ?_
    clear hv6
    obtain rfl := Option.some.inj h
    exact Ev.ireturn (ty := .int) ⟨dX8_field_44, rfl⟩ rfl rfl ⟨rfl, rfl⟩
  · replace h := (if_neg hc).symm.trans h; clear hc
    refine Ev.iconst ⟨dX8_field_34, rfl⟩ (inRd rfl) ?_
    refine Ev.goto jX8_field_35 ?_
    obtain rfl := Option.some.inj h
    exact Ev.ireturn (ty := .int) ⟨dX8_field_44, rfl⟩ rfl rfl ⟨rfl, rfl⟩

def F_X8_field_26 (z : Nat) (v0 : Nat) (v1 : Int) (v2 : Int) (u0 : Nat) (x : Mm) : Option (Int × Mm) := F_X8_field_27 z (v0) (v1) (v2) ((0 : Int)) (u0) x
set_option maxHeartbeats 4000000 in
set_option maxRecDepth 20000 in
theorem e_X8_field_26 (Θ : GC) (D : Nat → Nat → Prop) (z : Nat) (v0 : Nat) (v1 : Int) (v2 : Int) (u0 : Nat) (x : Mm) (y) (h : F_X8_field_26 z v0 v1 v2 u0 x = some y) : Ev Θ mX8_field 2 43 0 0 26 [(0, vr 8 (v0 + 1)), (1, vi (v1)), (2, vi (v2))] [vr 8 (u0 + 1)] (hq D x) (Ret (vi y.1) (hq D y.2)) := by
  unfold F_X8_field_26 at h
  refine Ev.iconst ⟨dX8_field_26, rfl⟩ (inRd rfl) ?_
  exact e_X8_field_27 Θ D z _ _ _ _ _ _ _ h
def F_X8_field (z : Nat) (v0 : Nat) (v1 : Int) (v2 : Int) (x : Mm) : Option (Int × Mm) := (some (wI x 8 v0 0 ((0 : Int)))).bind fun x1 => (F_X8_isNode z (v0) (v1) x1).bind fun r3 => if r3 = 0 then (F_X8_field_26 z (v0) (v1) (v2) (v0) x1) else ((F_X8_isField z (v0) (v2) x1).bind fun r9 => if r9 = 0 then (F_X8_field_26 z (v0) (v1) (v2) (v0) x1) else (F_X8_field_27 z (v0) (v1) (v2) ((1 : Int)) (v0) x1))
set_option maxHeartbeats 4000000 in
set_option maxRecDepth 20000 in
theorem c_X8_field (Θ : GC) (D : Nat → Nat → Prop) (z : Nat) (v0 : Nat) (v1 : Int) (v2 : Int) (x : Mm) (y) (h : F_X8_field z v0 v1 v2 x = some y) : Cal Θ mX8_field 2 43 0 0 [vr 8 (v0 + 1), vi (v1), vi (v2)] (hq D x) (Ret (vi y.1) (hq D y.2)) := by
  refine Cal.of (by decide +kernel) rfl rfl (Nat.le_of_ble_eq_true rfl) ?_
  show Ev Θ mX8_field 2 43 0 0 0 [(0, vr 8 (v0 + 1)), (1, vi (v1)), (2, vi (v2))] [] (hq D x) (Ret (vi y.1) (hq D y.2))
  unfold F_X8_field at h
  refine Ev.aload_n (q := 0) ⟨dX8_field_0, rfl⟩ rfl rfl ?_
  refine Ev.iconst ⟨dX8_field_1, rfl⟩ (inRd rfl) ?_
  obtain ⟨x1, ex, h⟩ := bnd_s h
  refine Ev.putI fX8_38 ⟨dX8_field_2, rfl⟩ ?_
  refine Ev.cast ?_ rfl rfl (hqI ex)
  clear ex
  refine Ev.aload_n (q := 0) ⟨dX8_field_5, rfl⟩ rfl rfl ?_
  refine Ev.aload_n (q := 0) ⟨dX8_field_6, rfl⟩ rfl rfl ?_
  refine Ev.iload_n (q := 1) ⟨dX8_field_7, rfl⟩ rfl rfl ?_
  obtain ⟨r3, hv2, h⟩ := bnd_s h
  refine Ev.callV1 (mc1 := 0) (ms1 := 0) (v := vi r3) (h1 := hq D x1) vX8_191 (c_X8_isNode Θ D z _ _ _ _ hv2) rfl rfl (by decide) rfl ⟨by decide, by decide, Nat.le_of_eq (Nat.zero_add _), Nat.le_of_eq (Nat.zero_add _), Nat.le_of_ble_eq_true rfl⟩ ⟨dX8_field_8, rfl⟩ ?_
  clear hv2
  refine Ev.if_eq jX8_field_11 (fun hc => ?_) (fun hc => ?_)
  · replace h := (if_pos hc).symm.trans h; clear hc
    exact e_X8_field_26 Θ D z _ _ _ _ _ _ h
  · replace h := (if_neg hc).symm.trans h; clear hc
    refine Ev.aload_n (q := 0) ⟨dX8_field_14, rfl⟩ rfl rfl ?_
    refine Ev.iload_n (q := 2) ⟨dX8_field_15, rfl⟩ rfl rfl ?_
    obtain ⟨r9, hv8, h⟩ := bnd_s h
    refine Ev.callV1 (mc1 := 0) (ms1 := 0) (v := vi r9) (h1 := hq D x1) vX8_205 (c_X8_isField Θ D z _ _ _ _ hv8) rfl rfl (by decide) rfl ⟨by decide, by decide, Nat.le_of_eq (Nat.zero_add _), Nat.le_of_eq (Nat.zero_add _), Nat.le_of_ble_eq_true rfl⟩ ⟨dX8_field_16, rfl⟩ ?_
    clear hv8
    refine Ev.if_eq jX8_field_19 (fun hc => ?_) (fun hc => ?_)
    · replace h := (if_pos hc).symm.trans h; clear hc
      exact e_X8_field_26 Θ D z _ _ _ _ _ _ h
    · replace h := (if_neg hc).symm.trans h; clear hc
      refine Ev.iconst ⟨dX8_field_22, rfl⟩ (inRd rfl) ?_
      refine Ev.goto jX8_field_23 ?_
      exact e_X8_field_27 Θ D z _ _ _ _ _ _ _ h

def F_X8_childrenOf_4 (z : Nat) (v0 : Nat) (v1 : Int) (x : Mm) : Nat → Int → Int → Option (Int)
  | 0, _, _ => none
  | k + 1, v2, v3 => ckI (3 : Int) 5366 <| if (x.1 27 0 ((3 : Int)).toNat) ≤ v3 then (some (v2)) else ((F_X8_isAlive z (v0) (v3) x).bind fun r3 => if r3 = 0 then (ckR ((v2 + (0 : Int))) <| ckR ((v3 + 1)) <| F_X8_childrenOf_4 z v0 v1 x k ((v2 + (0 : Int))) ((v3 + 1))) else (ckR (((11 : Int) + v3)) <| ckI ((11 : Int) + v3) 5366 <| if (x.1 27 0 (((11 : Int) + v3)).toNat) = v1 then (ckR ((v2 + (1 : Int))) <| ckR ((v3 + 1)) <| F_X8_childrenOf_4 z v0 v1 x k ((v2 + (1 : Int))) ((v3 + 1))) else (ckR ((v2 + (0 : Int))) <| ckR ((v3 + 1)) <| F_X8_childrenOf_4 z v0 v1 x k ((v2 + (0 : Int))) ((v3 + 1)))))
set_option maxHeartbeats 4000000 in
set_option maxRecDepth 20000 in
theorem e_X8_childrenOf_4 (Θ : GC) (D : Nat → Nat → Prop) (z : Nat) (v0 : Nat) (v1 : Int) (x : Mm) (Q : Ro → Hp → Prop) (mc ms : Nat) : ∀ (k : Nat) (v2 : Int) (v3 : Int) (y), F_X8_childrenOf_4 z v0 v1 x k v2 v3 = some y → (Ev Θ mX8_childrenOf 1 21 mc ms 49 [(0, vr 8 (v0 + 1)), (1, vi (v1)), (2, vi (y))] [] (hq D x) Q) → Ev Θ mX8_childrenOf 1 21 mc ms 4 [(0, vr 8 (v0 + 1)), (1, vi (v1)), (2, vi (v2)), (3, vi (v3))] [] (hq D x) Q := by
  intro k
  induction k with
  | zero => intro v2 v3 y h; exact absurd h (by unfold F_X8_childrenOf_4; exact nofun)
  | succ k ih =>
    intro v2 v3 y h k1
    unfold F_X8_childrenOf_4 at h
    refine Ev.iload_n (q := 3) ⟨dX8_childrenOf_4, rfl⟩ rfl rfl ?_
    refine Ev.aload_n (q := 0) ⟨dX8_childrenOf_5, rfl⟩ rfl rfl ?_
    refine Ev.getRk (C2 := 27) (r := 0) fX8_13 rfl (by decide) (by decide) ⟨dX8_childrenOf_6, rfl⟩ ?_
    refine Ev.iconst ⟨dX8_childrenOf_9, rfl⟩ (inRd rfl) ?_
    obtain ⟨c1, h⟩ := ckI_s h
    refine Ev.iaload (by decide) c1.1 c1.2 ⟨dX8_childrenOf_10, rfl⟩ ?_
    refine Ev.icmp_ge jX8_childrenOf_11 (fun hc => ?_) (fun hc => ?_)
    · replace h := (if_pos hc).symm.trans h; clear hc
      refine Ev.keep [0, 1, 2] rfl ?_
      obtain rfl := Option.some.inj h
      exact k1
    · replace h := (if_neg hc).symm.trans h; clear hc
      refine Ev.iload_n (q := 2) ⟨dX8_childrenOf_14, rfl⟩ rfl rfl ?_
      refine Ev.aload_n (q := 0) ⟨dX8_childrenOf_15, rfl⟩ rfl rfl ?_
      refine Ev.iload_n (q := 3) ⟨dX8_childrenOf_16, rfl⟩ rfl rfl ?_
      obtain ⟨r3, hv2, h⟩ := bnd_s h
      refine Ev.callV1 (mc1 := mc) (ms1 := ms) (v := vi r3) (h1 := hq D x) vX8_194 (c_X8_isAlive Θ D z _ _ _ _ hv2) rfl rfl (by decide) rfl ⟨by decide, by decide, Nat.le_of_eq (Nat.zero_add _), Nat.le_of_eq (Nat.zero_add _), Nat.le_of_ble_eq_true rfl⟩ ⟨dX8_childrenOf_17, rfl⟩ ?_
      clear hv2
      refine Ev.if_eq jX8_childrenOf_20 (fun hc => ?_) (fun hc => ?_)
      · replace h := (if_pos hc).symm.trans h; clear hc
        refine Ev.iconst ⟨dX8_childrenOf_40, rfl⟩ (inRd rfl) ?_
        obtain ⟨c4, h⟩ := ckR_s h
        refine Ev.iadd ⟨dX8_childrenOf_41, rfl⟩ c4 ?_
        refine Ev.istore_n (i := 2) (ls' := [(0, _), (1, _), (2, _), (3, _)]) ⟨dX8_childrenOf_42, rfl⟩ rfl (by decide) rfl ?_
        obtain ⟨c5, h⟩ := ckR_s h
        refine Ev.iinc (q := 3) (ls' := [(0, _), (1, _), (2, _), (3, _)]) ⟨dX8_childrenOf_43, rfl⟩ rfl (by decide) c5 rfl ?_
        refine Ev.goto jX8_childrenOf_46 ?_
        exact ih _ _ _ h k1
      · replace h := (if_neg hc).symm.trans h; clear hc
        refine Ev.aload_n (q := 0) ⟨dX8_childrenOf_23, rfl⟩ rfl rfl ?_
        refine Ev.getRk (C2 := 27) (r := 0) fX8_13 rfl (by decide) (by decide) ⟨dX8_childrenOf_24, rfl⟩ ?_
        refine Ev.bipush ⟨dX8_childrenOf_27, rfl⟩ (inRd rfl) (by decide) ?_
        refine Ev.iload_n (q := 3) ⟨dX8_childrenOf_29, rfl⟩ rfl rfl ?_
        obtain ⟨c6, h⟩ := ckR_s h
        refine Ev.iadd ⟨dX8_childrenOf_30, rfl⟩ c6 ?_
        obtain ⟨c7, h⟩ := ckI_s h
        refine Ev.iaload (by decide) c7.1 c7.2 ⟨dX8_childrenOf_31, rfl⟩ ?_
        refine Ev.iload_n (q := 1) ⟨dX8_childrenOf_32, rfl⟩ rfl rfl ?_
        refine Ev.icmp_ne jX8_childrenOf_33 (fun hc => ?_) (fun hc => ?_)
        · replace h := (if_neg hc).symm.trans h; clear hc
          refine Ev.iconst ⟨dX8_childrenOf_40, rfl⟩ (inRd rfl) ?_
          obtain ⟨c8, h⟩ := ckR_s h
          refine Ev.iadd ⟨dX8_childrenOf_41, rfl⟩ c8 ?_
          refine Ev.istore_n (i := 2) (ls' := [(0, _), (1, _), (2, _), (3, _)]) ⟨dX8_childrenOf_42, rfl⟩ rfl (by decide) rfl ?_
          obtain ⟨c9, h⟩ := ckR_s h
          refine Ev.iinc (q := 3) (ls' := [(0, _), (1, _), (2, _), (3, _)]) ⟨dX8_childrenOf_43, rfl⟩ rfl (by decide) c9 rfl ?_
          refine Ev.goto jX8_childrenOf_46 ?_
          exact ih _ _ _ h k1
        · replace h := (if_pos hc).symm.trans h; clear hc
          refine Ev.iconst ⟨dX8_childrenOf_36, rfl⟩ (inRd rfl) ?_
          refine Ev.goto jX8_childrenOf_37 ?_
          obtain ⟨c10, h⟩ := ckR_s h
          refine Ev.iadd ⟨dX8_childrenOf_41, rfl⟩ c10 ?_
          refine Ev.istore_n (i := 2) (ls' := [(0, _), (1, _), (2, _), (3, _)]) ⟨dX8_childrenOf_42, rfl⟩ rfl (by decide) rfl ?_
          obtain ⟨c11, h⟩ := ckR_s h
          refine Ev.iinc (q := 3) (ls' := [(0, _), (1, _), (2, _), (3, _)]) ⟨dX8_childrenOf_43, rfl⟩ rfl (by decide) c11 rfl ?_
          refine Ev.goto jX8_childrenOf_46 ?_
          exact ih _ _ _ h k1
def F_X8_childrenOf (z : Nat) (v0 : Nat) (v1 : Int) (x : Mm) : Option (Int) := (F_X8_childrenOf_4 z (v0) (v1) x z ((0 : Int)) ((1 : Int))).bind fun s12 => some (s12)
set_option maxHeartbeats 4000000 in
set_option maxRecDepth 20000 in
theorem c_X8_childrenOf (Θ : GC) (D : Nat → Nat → Prop) (z : Nat) (v0 : Nat) (v1 : Int) (x : Mm) (y) (h : F_X8_childrenOf z v0 v1 x = some y) : Cal Θ mX8_childrenOf 1 21 0 0 [vr 8 (v0 + 1), vi (v1)] (hq D x) (Ret (vi y) (hq D x)) := by
  refine Cal.of (by decide +kernel) rfl rfl (Nat.le_of_ble_eq_true rfl) ?_
  show Ev Θ mX8_childrenOf 1 21 0 0 0 [(0, vr 8 (v0 + 1)), (1, vi (v1))] [] (hq D x) (Ret (vi y) (hq D x))
  unfold F_X8_childrenOf at h
  refine Ev.iconst ⟨dX8_childrenOf_0, rfl⟩ (inRd rfl) ?_
  refine Ev.istore_n (i := 2) (ls' := [(0, _), (1, _), (2, _)]) ⟨dX8_childrenOf_1, rfl⟩ rfl (by decide) rfl ?_
  refine Ev.iconst ⟨dX8_childrenOf_2, rfl⟩ (inRd rfl) ?_
  refine Ev.istore_n (i := 3) (ls' := [(0, _), (1, _), (2, _), (3, _)]) ⟨dX8_childrenOf_3, rfl⟩ rfl (by decide) rfl ?_
  obtain ⟨s12, hl, h⟩ := bnd_s h
  refine e_X8_childrenOf_4 Θ D z _ _ _ _ _ _ _ _ _ _ hl ?_
  clear hl
  refine Ev.iload_n (q := 2) ⟨dX8_childrenOf_49, rfl⟩ rfl rfl ?_
  obtain rfl := Option.some.inj h
  exact Ev.ireturn (ty := .int) ⟨dX8_childrenOf_50, rfl⟩ rfl rfl ⟨rfl, rfl⟩

def F_X8_childAt_45 (z : Nat) (v0 : Nat) (v1 : Int) (v2 : Int) (v3 : Int) (v4 : Int) (x : Mm) : Nat → Int → Int → Option (Int)
  | 0, _, _ => none
  | k + 1, v5, v6 => ckI (3 : Int) 5366 <| if (x.1 27 0 ((3 : Int)).toNat) ≤ v6 then (some (v5)) else ((F_X8_isAlive z (v0) (v6) x).bind fun r10 => if r10 = 0 then (ckR ((v5 + (0 : Int))) <| ckR ((v6 + 1)) <| F_X8_childAt_45 z v0 v1 v2 v3 v4 x k ((v5 + (0 : Int))) ((v6 + 1))) else (ckR (((11 : Int) + v6)) <| ckI ((11 : Int) + v6) 5366 <| if (x.1 27 0 (((11 : Int) + v6)).toNat) = v1 then (ckR (((71 : Int) + v6)) <| ckI ((71 : Int) + v6) 5366 <| ckR (((71 : Int) + v4)) <| ckI ((71 : Int) + v4) 5366 <| if (x.1 27 0 (((71 : Int) + v4)).toNat) ≤ (x.1 27 0 (((71 : Int) + v6)).toNat) then (ckR ((v5 + (0 : Int))) <| ckR ((v6 + 1)) <| F_X8_childAt_45 z v0 v1 v2 v3 v4 x k ((v5 + (0 : Int))) ((v6 + 1))) else (ckR ((v5 + (1 : Int))) <| ckR ((v6 + 1)) <| F_X8_childAt_45 z v0 v1 v2 v3 v4 x k ((v5 + (1 : Int))) ((v6 + 1)))) else (ckR ((v5 + (0 : Int))) <| ckR ((v6 + 1)) <| F_X8_childAt_45 z v0 v1 v2 v3 v4 x k ((v5 + (0 : Int))) ((v6 + 1)))))
set_option maxHeartbeats 4000000 in
set_option maxRecDepth 20000 in
theorem e_X8_childAt_45 (Θ : GC) (D : Nat → Nat → Prop) (z : Nat) (v0 : Nat) (v1 : Int) (v2 : Int) (v3 : Int) (v4 : Int) (x : Mm) (Q : Ro → Hp → Prop) (mc ms : Nat) : ∀ (k : Nat) (v5 : Int) (v6 : Int) (y), F_X8_childAt_45 z v0 v1 v2 v3 v4 x k v5 v6 = some y → (Ev Θ mX8_childAt 1 21 mc ms 118 [(0, vr 8 (v0 + 1)), (1, vi (v1)), (2, vi (v2)), (3, vi (v3)), (4, vi (v4)), (5, vi (y))] [] (hq D x) Q) → Ev Θ mX8_childAt 1 21 mc ms 45 [(0, vr 8 (v0 + 1)), (1, vi (v1)), (2, vi (v2)), (3, vi (v3)), (4, vi (v4)), (5, vi (v5)), (6, vi (v6))] [] (hq D x) Q := by
  intro k
  induction k with
  | zero => intro v5 v6 y h; exact absurd h (by unfold F_X8_childAt_45; exact nofun)
  | succ k ih =>
    intro v5 v6 y h k1
    unfold F_X8_childAt_45 at h
    refine Ev.iload (q := 6) ⟨dX8_childAt_45, rfl⟩ rfl ?_
    refine Ev.aload_n (q := 0) ⟨dX8_childAt_47, rfl⟩ rfl rfl ?_
    refine Ev.getRk (C2 := 27) (r := 0) fX8_13 rfl (by decide) (by decide) ⟨dX8_childAt_48, rfl⟩ ?_
    refine Ev.iconst ⟨dX8_childAt_51, rfl⟩ (inRd rfl) ?_
    obtain ⟨c8, h⟩ := ckI_s h
    refine Ev.iaload (by decide) c8.1 c8.2 ⟨dX8_childAt_52, rfl⟩ ?_
    refine Ev.icmp_ge jX8_childAt_53 (fun hc => ?_) (fun hc => ?_)
    · replace h := (if_pos hc).symm.trans h; clear hc
      refine Ev.keep [0, 1, 2, 3, 4, 5] rfl ?_
      obtain rfl := Option.some.inj h
      exact k1
    · replace h := (if_neg hc).symm.trans h; clear hc
      refine Ev.iload (q := 5) ⟨dX8_childAt_56, rfl⟩ rfl ?_
      refine Ev.aload_n (q := 0) ⟨dX8_childAt_58, rfl⟩ rfl rfl ?_
      refine Ev.iload (q := 6) ⟨dX8_childAt_59, rfl⟩ rfl ?_
      obtain ⟨r10, hv9, h⟩ := bnd_s h
      refine Ev.callV1 (mc1 := mc) (ms1 := ms) (v := vi r10) (h1 := hq D x) vX8_194 (c_X8_isAlive Θ D z _ _ _ _ hv9) rfl rfl (by decide) rfl ⟨by decide, by decide, Nat.le_of_eq (Nat.zero_add _), Nat.le_of_eq (Nat.zero_add _), Nat.le_of_ble_eq_true rfl⟩ ⟨dX8_childAt_61, rfl⟩ ?_
      clear hv9
      refine Ev.if_eq jX8_childAt_64 (fun hc => ?_) (fun hc => ?_)
      · replace h := (if_pos hc).symm.trans h; clear hc
        refine Ev.iconst ⟨dX8_childAt_108, rfl⟩ (inRd rfl) ?_
        obtain ⟨c11, h⟩ := ckR_s h
        refine Ev.iadd ⟨dX8_childAt_109, rfl⟩ c11 ?_
        refine Ev.istore (i := 5) (ls' := [(0, _), (1, _), (2, _), (3, _), (4, _), (5, _), (6, _)]) ⟨dX8_childAt_110, rfl⟩ (by decide) rfl ?_
        obtain ⟨c12, h⟩ := ckR_s h
        refine Ev.iinc (q := 6) (ls' := [(0, _), (1, _), (2, _), (3, _), (4, _), (5, _), (6, _)]) ⟨dX8_childAt_112, rfl⟩ rfl (by decide) c12 rfl ?_
        refine Ev.goto jX8_childAt_115 ?_
        exact ih _ _ _ h k1
      · replace h := (if_neg hc).symm.trans h; clear hc
        refine Ev.aload_n (q := 0) ⟨dX8_childAt_67, rfl⟩ rfl rfl ?_
        refine Ev.getRk (C2 := 27) (r := 0) fX8_13 rfl (by decide) (by decide) ⟨dX8_childAt_68, rfl⟩ ?_
        refine Ev.bipush ⟨dX8_childAt_71, rfl⟩ (inRd rfl) (by decide) ?_
        refine Ev.iload (q := 6) ⟨dX8_childAt_73, rfl⟩ rfl ?_
        obtain ⟨c13, h⟩ := ckR_s h
        refine Ev.iadd ⟨dX8_childAt_75, rfl⟩ c13 ?_
        obtain ⟨c14, h⟩ := ckI_s h
        refine Ev.iaload (by decide) c14.1 c14.2 ⟨dX8_childAt_76, rfl⟩ ?_
        refine Ev.iload_n (q := 1) ⟨dX8_childAt_77, rfl⟩ rfl rfl ?_
        refine Ev.icmp_ne jX8_childAt_78 (fun hc => ?_) (fun hc => ?_)
        · replace h := (if_neg hc).symm.trans h; clear hc
          refine Ev.iconst ⟨dX8_childAt_108, rfl⟩ (inRd rfl) ?_
          obtain ⟨c15, h⟩ := ckR_s h
          refine Ev.iadd ⟨dX8_childAt_109, rfl⟩ c15 ?_
          refine Ev.istore (i := 5) (ls' := [(0, _), (1, _), (2, _), (3, _), (4, _), (5, _), (6, _)]) ⟨dX8_childAt_110, rfl⟩ (by decide) rfl ?_
          obtain ⟨c16, h⟩ := ckR_s h
          refine Ev.iinc (q := 6) (ls' := [(0, _), (1, _), (2, _), (3, _), (4, _), (5, _), (6, _)]) ⟨dX8_childAt_112, rfl⟩ rfl (by decide) c16 rfl ?_
          refine Ev.goto jX8_childAt_115 ?_
          exact ih _ _ _ h k1
        · replace h := (if_pos hc).symm.trans h; clear hc
          refine Ev.aload_n (q := 0) ⟨dX8_childAt_81, rfl⟩ rfl rfl ?_
          refine Ev.getRk (C2 := 27) (r := 0) fX8_13 rfl (by decide) (by decide) ⟨dX8_childAt_82, rfl⟩ ?_
          refine Ev.bipush ⟨dX8_childAt_85, rfl⟩ (inRd rfl) (by decide) ?_
          refine Ev.iload (q := 6) ⟨dX8_childAt_87, rfl⟩ rfl ?_
          obtain ⟨c17, h⟩ := ckR_s h
          refine Ev.iadd ⟨dX8_childAt_89, rfl⟩ c17 ?_
          obtain ⟨c18, h⟩ := ckI_s h
          refine Ev.iaload (by decide) c18.1 c18.2 ⟨dX8_childAt_90, rfl⟩ ?_
          refine Ev.aload_n (q := 0) ⟨dX8_childAt_91, rfl⟩ rfl rfl ?_
          refine Ev.getRk (C2 := 27) (r := 0) fX8_13 rfl (by decide) (by decide) ⟨dX8_childAt_92, rfl⟩ ?_
          refine Ev.bipush ⟨dX8_childAt_95, rfl⟩ (inRd rfl) (by decide) ?_
          refine Ev.iload (q := 4) ⟨dX8_childAt_97, rfl⟩ rfl ?_
          obtain ⟨c19, h⟩ := ckR_s h
          refine Ev.iadd ⟨dX8_childAt_99, rfl⟩ c19 ?_
          obtain ⟨c20, h⟩ := ckI_s h
          refine Ev.iaload (by decide) c20.1 c20.2 ⟨dX8_childAt_100, rfl⟩ ?_
          refine Ev.icmp_ge jX8_childAt_101 (fun hc => ?_) (fun hc => ?_)
          · replace h := (if_pos hc).symm.trans h; clear hc
            refine Ev.iconst ⟨dX8_childAt_108, rfl⟩ (inRd rfl) ?_
            obtain ⟨c21, h⟩ := ckR_s h
            refine Ev.iadd ⟨dX8_childAt_109, rfl⟩ c21 ?_
            refine Ev.istore (i := 5) (ls' := [(0, _), (1, _), (2, _), (3, _), (4, _), (5, _), (6, _)]) ⟨dX8_childAt_110, rfl⟩ (by decide) rfl ?_
            obtain ⟨c22, h⟩ := ckR_s h
            refine Ev.iinc (q := 6) (ls' := [(0, _), (1, _), (2, _), (3, _), (4, _), (5, _), (6, _)]) ⟨dX8_childAt_112, rfl⟩ rfl (by decide) c22 rfl ?_
            refine Ev.goto jX8_childAt_115 ?_
            exact ih _ _ _ h k1
          · replace h := (if_neg hc).symm.trans h; clear hc
            refine Ev.iconst ⟨dX8_childAt_104, rfl⟩ (inRd rfl) ?_
            refine Ev.goto jX8_childAt_105 ?_
            obtain ⟨c23, h⟩ := ckR_s h
            refine Ev.iadd ⟨dX8_childAt_109, rfl⟩ c23 ?_
            refine Ev.istore (i := 5) (ls' := [(0, _), (1, _), (2, _), (3, _), (4, _), (5, _), (6, _)]) ⟨dX8_childAt_110, rfl⟩ (by decide) rfl ?_
            obtain ⟨c24, h⟩ := ckR_s h
            refine Ev.iinc (q := 6) (ls' := [(0, _), (1, _), (2, _), (3, _), (4, _), (5, _), (6, _)]) ⟨dX8_childAt_112, rfl⟩ rfl (by decide) c24 rfl ?_
            refine Ev.goto jX8_childAt_115 ?_
            exact ih _ _ _ h k1

def F_X8_childAt_5 (z : Nat) (v0 : Nat) (v1 : Int) (v2 : Int) (x : Mm) : Nat → Int → Int → Option (Int)
  | 0, _, _ => none
  | k + 1, v3, v4 => ckI (3 : Int) 5366 <| if (x.1 27 0 ((3 : Int)).toNat) ≤ v4 then (some (v3)) else ((F_X8_isAlive z (v0) (v4) x).bind fun r3 => if r3 = 0 then (ckR ((v4 + 1)) <| F_X8_childAt_5 z v0 v1 v2 x k (v3) ((v4 + 1))) else (ckR (((11 : Int) + v4)) <| ckI ((11 : Int) + v4) 5366 <| if (x.1 27 0 (((11 : Int) + v4)).toNat) = v1 then ((F_X8_childAt_45 z (v0) (v1) (v2) (v3) (v4) x z ((0 : Int)) ((1 : Int))).bind fun s25 => if s25 = v2 then (ckR ((v4 + 1)) <| F_X8_childAt_5 z v0 v1 v2 x k (v4) ((v4 + 1))) else (ckR ((v4 + 1)) <| F_X8_childAt_5 z v0 v1 v2 x k (v3) ((v4 + 1)))) else (ckR ((v4 + 1)) <| F_X8_childAt_5 z v0 v1 v2 x k (v3) ((v4 + 1)))))
set_option maxHeartbeats 4000000 in
set_option maxRecDepth 20000 in
theorem e_X8_childAt_5 (Θ : GC) (D : Nat → Nat → Prop) (z : Nat) (v0 : Nat) (v1 : Int) (v2 : Int) (x : Mm) (Q : Ro → Hp → Prop) (mc ms : Nat) : ∀ (k : Nat) (v3 : Int) (v4 : Int) (y), F_X8_childAt_5 z v0 v1 v2 x k v3 v4 = some y → (Ev Θ mX8_childAt 1 21 mc ms 137 [(0, vr 8 (v0 + 1)), (1, vi (v1)), (2, vi (v2)), (3, vi (y))] [] (hq D x) Q) → Ev Θ mX8_childAt 1 21 mc ms 5 [(0, vr 8 (v0 + 1)), (1, vi (v1)), (2, vi (v2)), (3, vi (v3)), (4, vi (v4))] [] (hq D x) Q := by
  intro k
  induction k with
  | zero => intro v3 v4 y h; exact absurd h (by unfold F_X8_childAt_5; exact nofun)
  | succ k ih =>
    intro v3 v4 y h k1
    unfold F_X8_childAt_5 at h
    refine Ev.iload (q := 4) ⟨dX8_childAt_5, rfl⟩ rfl ?_
    refine Ev.aload_n (q := 0) ⟨dX8_childAt_7, rfl⟩ rfl rfl ?_
    refine Ev.getRk (C2 := 27) (r := 0) fX8_13 rfl (by decide) (by decide) ⟨dX8_childAt_8, rfl⟩ ?_
    refine Ev.iconst ⟨dX8_childAt_11, rfl⟩ (inRd rfl) ?_
    obtain ⟨c1, h⟩ := ckI_s h
    refine Ev.iaload (by decide) c1.1 c1.2 ⟨dX8_childAt_12, rfl⟩ ?_
    refine Ev.icmp_ge jX8_childAt_13 (fun hc => ?_) (fun hc => ?_)
    · replace h := (if_pos hc).symm.trans h; clear hc
      refine Ev.keep [0, 1, 2, 3] rfl ?_
      obtain rfl := Option.some.inj h
      exact k1
    · replace h := (if_neg hc).symm.trans h; clear hc
      refine Ev.aload_n (q := 0) ⟨dX8_childAt_16, rfl⟩ rfl rfl ?_
      refine Ev.iload (q := 4) ⟨dX8_childAt_17, rfl⟩ rfl ?_
      obtain ⟨r3, hv2, h⟩ := bnd_s h
      refine Ev.callV1 (mc1 := mc) (ms1 := ms) (v := vi r3) (h1 := hq D x) vX8_194 (c_X8_isAlive Θ D z _ _ _ _ hv2) rfl rfl (by decide) rfl ⟨by decide, by decide, Nat.le_of_eq (Nat.zero_add _), Nat.le_of_eq (Nat.zero_add _), Nat.le_of_ble_eq_true rfl⟩ ⟨dX8_childAt_19, rfl⟩ ?_
      clear hv2
      refine Ev.if_eq jX8_childAt_22 (fun hc => ?_) (fun hc => ?_)
      · replace h := (if_pos hc).symm.trans h; clear hc
        obtain ⟨c4, h⟩ := ckR_s h
        refine Ev.iinc (q := 4) (ls' := [(0, _), (1, _), (2, _), (3, _), (4, _)]) ⟨dX8_childAt_131, rfl⟩ rfl (by decide) c4 rfl ?_
        refine Ev.goto jX8_childAt_134 ?_
        exact ih _ _ _ h k1
      · replace h := (if_neg hc).symm.trans h; clear hc
        refine Ev.aload_n (q := 0) ⟨dX8_childAt_25, rfl⟩ rfl rfl ?_
        refine Ev.getRk (C2 := 27) (r := 0) fX8_13 rfl (by decide) (by decide) ⟨dX8_childAt_26, rfl⟩ ?_
        refine Ev.bipush ⟨dX8_childAt_29, rfl⟩ (inRd rfl) (by decide) ?_
        refine Ev.iload (q := 4) ⟨dX8_childAt_31, rfl⟩ rfl ?_
        obtain ⟨c5, h⟩ := ckR_s h
        refine Ev.iadd ⟨dX8_childAt_33, rfl⟩ c5 ?_
        obtain ⟨c6, h⟩ := ckI_s h
        refine Ev.iaload (by decide) c6.1 c6.2 ⟨dX8_childAt_34, rfl⟩ ?_
        refine Ev.iload_n (q := 1) ⟨dX8_childAt_35, rfl⟩ rfl rfl ?_
        refine Ev.icmp_ne jX8_childAt_36 (fun hc => ?_) (fun hc => ?_)
        · replace h := (if_neg hc).symm.trans h; clear hc
          obtain ⟨c7, h⟩ := ckR_s h
          refine Ev.iinc (q := 4) (ls' := [(0, _), (1, _), (2, _), (3, _), (4, _)]) ⟨dX8_childAt_131, rfl⟩ rfl (by decide) c7 rfl ?_
          refine Ev.goto jX8_childAt_134 ?_
          exact ih _ _ _ h k1
        · replace h := (if_pos hc).symm.trans h; clear hc
          refine Ev.iconst ⟨dX8_childAt_39, rfl⟩ (inRd rfl) ?_
          refine Ev.istore (i := 5) (ls' := [(0, _), (1, _), (2, _), (3, _), (4, _), (5, _)]) ⟨dX8_childAt_40, rfl⟩ (by decide) rfl ?_
          refine Ev.iconst ⟨dX8_childAt_42, rfl⟩ (inRd rfl) ?_
          refine Ev.istore (i := 6) (ls' := [(0, _), (1, _), (2, _), (3, _), (4, _), (5, _), (6, _)]) ⟨dX8_childAt_43, rfl⟩ (by decide) rfl ?_
          obtain ⟨s25, hl, h⟩ := bnd_s h
          refine e_X8_childAt_45 Θ D z _ _ _ _ _ _ _ _ _ _ _ _ _ hl ?_
          clear hl
          refine Ev.iload (q := 5) ⟨dX8_childAt_118, rfl⟩ rfl ?_
          refine Ev.iload_n (q := 2) ⟨dX8_childAt_120, rfl⟩ rfl rfl ?_
          refine Ev.icmp_ne jX8_childAt_121 (fun hc => ?_) (fun hc => ?_)
          · replace h := (if_neg hc).symm.trans h; clear hc
            refine Ev.iload_n (q := 3) ⟨dX8_childAt_129, rfl⟩ rfl rfl ?_
            refine Ev.istore_n (i := 3) (ls' := [(0, _), (1, _), (2, _), (3, _), (4, _), (5, _)]) ⟨dX8_childAt_130, rfl⟩ rfl (by decide) rfl ?_
            obtain ⟨c26, h⟩ := ckR_s h
            refine Ev.iinc (q := 4) (ls' := [(0, _), (1, _), (2, _), (3, _), (4, _), (5, _)]) ⟨dX8_childAt_131, rfl⟩ rfl (by decide) c26 rfl ?_
            refine Ev.goto jX8_childAt_134 ?_
            refine Ev.keep [0, 1, 2, 3, 4] rfl ?_
            exact ih _ _ _ h k1
          · replace h := (if_pos hc).symm.trans h; clear hc
            refine Ev.iload (q := 4) ⟨dX8_childAt_124, rfl⟩ rfl ?_
            refine Ev.goto jX8_childAt_126 ?_
            refine Ev.istore_n (i := 3) (ls' := [(0, _), (1, _), (2, _), (3, _), (4, _), (5, _)]) ⟨dX8_childAt_130, rfl⟩ rfl (by decide) rfl ?_
            obtain ⟨c27, h⟩ := ckR_s h
            refine Ev.iinc (q := 4) (ls' := [(0, _), (1, _), (2, _), (3, _), (4, _), (5, _)]) ⟨dX8_childAt_131, rfl⟩ rfl (by decide) c27 rfl ?_
            refine Ev.goto jX8_childAt_134 ?_
            refine Ev.keep [0, 1, 2, 3, 4] rfl ?_
            exact ih _ _ _ h k1
def F_X8_childAt (z : Nat) (v0 : Nat) (v1 : Int) (v2 : Int) (x : Mm) : Option (Int) := (F_X8_childAt_5 z (v0) (v1) (v2) x z ((-1 : Int)) ((1 : Int))).bind fun s28 => some (s28)
set_option maxHeartbeats 4000000 in
set_option maxRecDepth 20000 in
theorem c_X8_childAt (Θ : GC) (D : Nat → Nat → Prop) (z : Nat) (v0 : Nat) (v1 : Int) (v2 : Int) (x : Mm) (y) (h : F_X8_childAt z v0 v1 v2 x = some y) : Cal Θ mX8_childAt 1 21 0 0 [vr 8 (v0 + 1), vi (v1), vi (v2)] (hq D x) (Ret (vi y) (hq D x)) := by
  refine Cal.of (by decide +kernel) rfl rfl (Nat.le_of_ble_eq_true rfl) ?_
  show Ev Θ mX8_childAt 1 21 0 0 0 [(0, vr 8 (v0 + 1)), (1, vi (v1)), (2, vi (v2))] [] (hq D x) (Ret (vi y) (hq D x))
  unfold F_X8_childAt at h
  refine Ev.iconst ⟨dX8_childAt_0, rfl⟩ (inRd rfl) ?_
  refine Ev.istore_n (i := 3) (ls' := [(0, _), (1, _), (2, _), (3, _)]) ⟨dX8_childAt_1, rfl⟩ rfl (by decide) rfl ?_
  refine Ev.iconst ⟨dX8_childAt_2, rfl⟩ (inRd rfl) ?_
  refine Ev.istore (i := 4) (ls' := [(0, _), (1, _), (2, _), (3, _), (4, _)]) ⟨dX8_childAt_3, rfl⟩ (by decide) rfl ?_
  obtain ⟨s28, hl, h⟩ := bnd_s h
  refine e_X8_childAt_5 Θ D z _ _ _ _ _ _ _ _ _ _ _ hl ?_
  clear hl
  refine Ev.iload_n (q := 3) ⟨dX8_childAt_137, rfl⟩ rfl rfl ?_
  obtain rfl := Option.some.inj h
  exact Ev.ireturn (ty := .int) ⟨dX8_childAt_138, rfl⟩ rfl rfl ⟨rfl, rfl⟩

def F_X8_childCount (z : Nat) (v0 : Nat) (v1 : Int) (x : Mm) : Option (Int × Mm) := (some (wI x 8 v0 0 ((0 : Int)))).bind fun x1 => (F_X8_isNode z (v0) (v1) x1).bind fun r3 => (F_X8_fails z (v0) (r3) ((1 : Int)) x1).bind fun r5 => if r5.1 = 0 then ((F_X8_childrenOf z (v0) (v1) r5.2).bind fun r7 => some ((r7, r5.2))) else (some (((0 : Int), r5.2)))
set_option maxHeartbeats 4000000 in
set_option maxRecDepth 20000 in
theorem c_X8_childCount (Θ : GC) (D : Nat → Nat → Prop) (z : Nat) (v0 : Nat) (v1 : Int) (x : Mm) (y) (h : F_X8_childCount z v0 v1 x = some y) : Cal Θ mX8_childCount 2 44 0 0 [vr 8 (v0 + 1), vi (v1)] (hq D x) (Ret (vi y.1) (hq D y.2)) := by
  refine Cal.of (by decide +kernel) rfl rfl (Nat.le_of_ble_eq_true rfl) ?_
  show Ev Θ mX8_childCount 2 44 0 0 0 [(0, vr 8 (v0 + 1)), (1, vi (v1))] [] (hq D x) (Ret (vi y.1) (hq D y.2))
  unfold F_X8_childCount at h
  refine Ev.aload_n (q := 0) ⟨dX8_childCount_0, rfl⟩ rfl rfl ?_
  refine Ev.iconst ⟨dX8_childCount_1, rfl⟩ (inRd rfl) ?_
  obtain ⟨x1, ex, h⟩ := bnd_s h
  refine Ev.putI fX8_38 ⟨dX8_childCount_2, rfl⟩ ?_
  refine Ev.cast ?_ rfl rfl (hqI ex)
  clear ex
  refine Ev.aload_n (q := 0) ⟨dX8_childCount_5, rfl⟩ rfl rfl ?_
  refine Ev.aload_n (q := 0) ⟨dX8_childCount_6, rfl⟩ rfl rfl ?_
  refine Ev.iload_n (q := 1) ⟨dX8_childCount_7, rfl⟩ rfl rfl ?_
  obtain ⟨r3, hv2, h⟩ := bnd_s h
  refine Ev.callV1 (mc1 := 0) (ms1 := 0) (v := vi r3) (h1 := hq D x1) vX8_191 (c_X8_isNode Θ D z _ _ _ _ hv2) rfl rfl (by decide) rfl ⟨by decide, by decide, Nat.le_of_eq (Nat.zero_add _), Nat.le_of_eq (Nat.zero_add _), Nat.le_of_ble_eq_true rfl⟩ ⟨dX8_childCount_8, rfl⟩ ?_
  clear hv2
  refine Ev.iconst ⟨dX8_childCount_11, rfl⟩ (inRd rfl) ?_
  obtain ⟨r5, hv4, h⟩ := bnd_s h
  refine Ev.callV1 (mc1 := 0) (ms1 := 0) (v := vi r5.1) (h1 := hq D r5.2) vX8_49 (c_X8_fails Θ D z _ _ _ _ _ hv4) rfl rfl (by decide) rfl ⟨by decide, by decide, Nat.le_of_eq (Nat.zero_add _), Nat.le_of_eq (Nat.zero_add _), Nat.le_of_ble_eq_true rfl⟩ ⟨dX8_childCount_12, rfl⟩ ?_
  clear hv4
  refine Ev.if_eq jX8_childCount_15 (fun hc => ?_) (fun hc => ?_)
  · replace h := (if_pos hc).symm.trans h; clear hc
    refine Ev.aload_n (q := 0) ⟨dX8_childCount_22, rfl⟩ rfl rfl ?_
    refine Ev.iload_n (q := 1) ⟨dX8_childCount_23, rfl⟩ rfl rfl ?_
    obtain ⟨r7, hv6, h⟩ := bnd_s h
    refine Ev.callV1 (mc1 := 0) (ms1 := 0) (v := vi r7) (h1 := hq D r5.2) vX8_287 (c_X8_childrenOf Θ D z _ _ _ _ hv6) rfl rfl (by decide) rfl ⟨by decide, by decide, Nat.le_of_eq (Nat.zero_add _), Nat.le_of_eq (Nat.zero_add _), Nat.le_of_ble_eq_true rfl⟩ ⟨dX8_childCount_24, rfl⟩ ?_
    clear hv6
    obtain rfl := Option.some.inj h
    exact Ev.ireturn (ty := .int) ⟨dX8_childCount_27, rfl⟩ rfl rfl ⟨rfl, rfl⟩
  · replace h := (if_neg hc).symm.trans h; clear hc
    refine Ev.iconst ⟨dX8_childCount_18, rfl⟩ (inRd rfl) ?_
    refine Ev.goto jX8_childCount_19 ?_
    obtain rfl := Option.some.inj h
    exact Ev.ireturn (ty := .int) ⟨dX8_childCount_27, rfl⟩ rfl rfl ⟨rfl, rfl⟩

def F_X8_child_34 (z : Nat) (v0 : Nat) (v1 : Int) (v2 : Int) (u0 : Int) (u1 : Nat) (x : Mm) : Option (Int × Mm) := (F_X8_fails z (u1) (u0) ((1 : Int)) x).bind fun r5 => if r5.1 = 0 then ((F_X8_childAt z (v0) (v1) (v2) r5.2).bind fun r7 => some ((r7, r5.2))) else (some (((0 : Int), r5.2)))
set_option maxHeartbeats 4000000 in
set_option maxRecDepth 20000 in
theorem e_X8_child_34 (Θ : GC) (D : Nat → Nat → Prop) (z : Nat) (v0 : Nat) (v1 : Int) (v2 : Int) (u0 : Int) (u1 : Nat) (x : Mm) (y) (h : F_X8_child_34 z v0 v1 v2 u0 u1 x = some y) : Ev Θ mX8_child 2 47 0 0 34 [(0, vr 8 (v0 + 1)), (1, vi (v1)), (2, vi (v2))] [vi (u0), vr 8 (u1 + 1)] (hq D x) (Ret (vi y.1) (hq D y.2)) := by
  unfold F_X8_child_34 at h
  refine Ev.iconst ⟨dX8_child_34, rfl⟩ (inRd rfl) ?_
  obtain ⟨r5, hv4, h⟩ := bnd_s h
  refine Ev.callV1 (mc1 := 0) (ms1 := 0) (v := vi r5.1) (h1 := hq D r5.2) vX8_49 (c_X8_fails Θ D z _ _ _ _ _ hv4) rfl rfl (by decide) rfl ⟨by decide, by decide, Nat.le_of_eq (Nat.zero_add _), Nat.le_of_eq (Nat.zero_add _), Nat.le_of_ble_eq_true rfl⟩ ⟨dX8_child_35, rfl⟩ ?_
  clear hv4
  refine Ev.if_eq jX8_child_38 (fun hc => ?_) (fun hc => ?_)
  · replace h := (if_pos hc).symm.trans h; clear hc
    refine Ev.aload_n (q := 0) ⟨dX8_child_45, rfl⟩ rfl rfl ?_
    refine Ev.iload_n (q := 1) ⟨dX8_child_46, rfl⟩ rfl rfl ?_
    refine Ev.iload_n (q := 2) ⟨dX8_child_47, rfl⟩ rfl rfl ?_
    obtain ⟨r7, hv6, h⟩ := bnd_s h
    refine Ev.callV1 (mc1 := 0) (ms1 := 0) (v := vi r7) (h1 := hq D r5.2) vX8_290 (c_X8_childAt Θ D z _ _ _ _ _ hv6) rfl rfl (by decide) rfl ⟨by decide, by decide, Nat.le_of_eq (Nat.zero_add _), Nat.le_of_eq (Nat.zero_add _), Nat.le_of_ble_eq_true rfl⟩ ⟨dX8_child_48, rfl⟩ ?_
    clear hv6
    obtain rfl := Option.some.inj h
    exact Ev.ireturn (ty := .int) ⟨dX8_child_51, rfl⟩ rfl rfl ⟨rfl, rfl⟩
  · replace h := (if_neg hc).symm.trans h; clear hc
    refine Ev.iconst ⟨dX8_child_41, rfl⟩ (inRd rfl) ?_
    refine Ev.goto jX8_child_42 ?_
    obtain rfl := Option.some.inj h
    exact Ev.ireturn (ty := .int) ⟨dX8_child_51, rfl⟩ rfl rfl ⟨rfl, rfl⟩

def F_X8_child_33 (z : Nat) (v0 : Nat) (v1 : Int) (v2 : Int) (u0 : Nat) (x : Mm) : Option (Int × Mm) := F_X8_child_34 z (v0) (v1) (v2) ((0 : Int)) (u0) x
set_option maxHeartbeats 4000000 in
set_option maxRecDepth 20000 in
theorem e_X8_child_33 (Θ : GC) (D : Nat → Nat → Prop) (z : Nat) (v0 : Nat) (v1 : Int) (v2 : Int) (u0 : Nat) (x : Mm) (y) (h : F_X8_child_33 z v0 v1 v2 u0 x = some y) : Ev Θ mX8_child 2 47 0 0 33 [(0, vr 8 (v0 + 1)), (1, vi (v1)), (2, vi (v2))] [vr 8 (u0 + 1)] (hq D x) (Ret (vi y.1) (hq D y.2)) := by
  unfold F_X8_child_33 at h
  refine Ev.iconst ⟨dX8_child_33, rfl⟩ (inRd rfl) ?_
  exact e_X8_child_34 Θ D z _ _ _ _ _ _ _ h
def F_X8_child (z : Nat) (v0 : Nat) (v1 : Int) (v2 : Int) (x : Mm) : Option (Int × Mm) := (some (wI x 8 v0 0 ((0 : Int)))).bind fun x1 => (F_X8_isNode z (v0) (v1) x1).bind fun r3 => if r3 = 0 then (F_X8_child_33 z (v0) (v1) (v2) (v0) x1) else ((F_X8_childrenOf z (v0) (v1) x1).bind fun r9 => ckR ((r9 - (1 : Int))) <| (F_X8_in z (v2) ((0 : Int)) ((r9 - (1 : Int))) x1).bind fun r12 => if r12 = 0 then (F_X8_child_33 z (v0) (v1) (v2) (v0) x1) else (F_X8_child_34 z (v0) (v1) (v2) ((1 : Int)) (v0) x1))
set_option maxHeartbeats 4000000 in
set_option maxRecDepth 20000 in
theorem c_X8_child (Θ : GC) (D : Nat → Nat → Prop) (z : Nat) (v0 : Nat) (v1 : Int) (v2 : Int) (x : Mm) (y) (h : F_X8_child z v0 v1 v2 x = some y) : Cal Θ mX8_child 2 47 0 0 [vr 8 (v0 + 1), vi (v1), vi (v2)] (hq D x) (Ret (vi y.1) (hq D y.2)) := by
  refine Cal.of (by decide +kernel) rfl rfl (Nat.le_of_ble_eq_true rfl) ?_
  show Ev Θ mX8_child 2 47 0 0 0 [(0, vr 8 (v0 + 1)), (1, vi (v1)), (2, vi (v2))] [] (hq D x) (Ret (vi y.1) (hq D y.2))
  unfold F_X8_child at h
  refine Ev.aload_n (q := 0) ⟨dX8_child_0, rfl⟩ rfl rfl ?_
  refine Ev.iconst ⟨dX8_child_1, rfl⟩ (inRd rfl) ?_
  obtain ⟨x1, ex, h⟩ := bnd_s h
  refine Ev.putI fX8_38 ⟨dX8_child_2, rfl⟩ ?_
  refine Ev.cast ?_ rfl rfl (hqI ex)
  clear ex
  refine Ev.aload_n (q := 0) ⟨dX8_child_5, rfl⟩ rfl rfl ?_
  refine Ev.aload_n (q := 0) ⟨dX8_child_6, rfl⟩ rfl rfl ?_
  refine Ev.iload_n (q := 1) ⟨dX8_child_7, rfl⟩ rfl rfl ?_
  obtain ⟨r3, hv2, h⟩ := bnd_s h
  refine Ev.callV1 (mc1 := 0) (ms1 := 0) (v := vi r3) (h1 := hq D x1) vX8_191 (c_X8_isNode Θ D z _ _ _ _ hv2) rfl rfl (by decide) rfl ⟨by decide, by decide, Nat.le_of_eq (Nat.zero_add _), Nat.le_of_eq (Nat.zero_add _), Nat.le_of_ble_eq_true rfl⟩ ⟨dX8_child_8, rfl⟩ ?_
  clear hv2
  refine Ev.if_eq jX8_child_11 (fun hc => ?_) (fun hc => ?_)
  · replace h := (if_pos hc).symm.trans h; clear hc
    exact e_X8_child_33 Θ D z _ _ _ _ _ _ h
  · replace h := (if_neg hc).symm.trans h; clear hc
    refine Ev.iload_n (q := 2) ⟨dX8_child_14, rfl⟩ rfl rfl ?_
    refine Ev.iconst ⟨dX8_child_15, rfl⟩ (inRd rfl) ?_
    refine Ev.aload_n (q := 0) ⟨dX8_child_16, rfl⟩ rfl rfl ?_
    refine Ev.iload_n (q := 1) ⟨dX8_child_17, rfl⟩ rfl rfl ?_
    obtain ⟨r9, hv8, h⟩ := bnd_s h
    refine Ev.callV1 (mc1 := 0) (ms1 := 0) (v := vi r9) (h1 := hq D x1) vX8_287 (c_X8_childrenOf Θ D z _ _ _ _ hv8) rfl rfl (by decide) rfl ⟨by decide, by decide, Nat.le_of_eq (Nat.zero_add _), Nat.le_of_eq (Nat.zero_add _), Nat.le_of_ble_eq_true rfl⟩ ⟨dX8_child_18, rfl⟩ ?_
    clear hv8
    refine Ev.iconst ⟨dX8_child_21, rfl⟩ (inRd rfl) ?_
    obtain ⟨c10, h⟩ := ckR_s h
    refine Ev.isub ⟨dX8_child_22, rfl⟩ c10 ?_
    obtain ⟨r12, hv11, h⟩ := bnd_s h
    refine Ev.callS1 (mc1 := 0) (ms1 := 0) (v := vi r12) (h1 := hq D x1) sX8_53 (c_X8_in Θ D z _ _ _ _ _ hv11) rfl rfl ⟨by decide, by decide, Nat.le_of_eq (Nat.zero_add _), Nat.le_of_eq (Nat.zero_add _), Nat.le_of_ble_eq_true rfl⟩ ⟨dX8_child_23, rfl⟩ ?_
    clear hv11
    refine Ev.if_eq jX8_child_26 (fun hc => ?_) (fun hc => ?_)
    · replace h := (if_pos hc).symm.trans h; clear hc
      exact e_X8_child_33 Θ D z _ _ _ _ _ _ h
    · replace h := (if_neg hc).symm.trans h; clear hc
      refine Ev.iconst ⟨dX8_child_29, rfl⟩ (inRd rfl) ?_
      refine Ev.goto jX8_child_30 ?_
      exact e_X8_child_34 Θ D z _ _ _ _ _ _ _ h

def F_X8_find_34 (z : Nat) (v0 : Nat) (v1 : Int) (v2 : Int) (u0 : Int) (u1 : Nat) (x : Mm) : Option (Int × Mm) := (F_X8_fails z (u1) (u0) ((2 : Int)) x).bind fun r9 => if r9.1 = 0 then ((F_X8_childWith z (v0) (v1) (v2) r9.2).bind fun r11 => some ((r11, r9.2))) else (some (((0 : Int), r9.2)))
set_option maxHeartbeats 4000000 in
set_option maxRecDepth 20000 in
theorem e_X8_find_34 (Θ : GC) (D : Nat → Nat → Prop) (z : Nat) (v0 : Nat) (v1 : Int) (v2 : Int) (u0 : Int) (u1 : Nat) (x : Mm) (y) (h : F_X8_find_34 z v0 v1 v2 u0 u1 x = some y) : Ev Θ mX8_find 2 44 0 0 34 [(0, vr 8 (v0 + 1)), (1, vi (v1)), (2, vi (v2))] [vi (u0), vr 8 (u1 + 1)] (hq D x) (Ret (vi y.1) (hq D y.2)) := by
  unfold F_X8_find_34 at h
  refine Ev.iconst ⟨dX8_find_34, rfl⟩ (inRd rfl) ?_
  obtain ⟨r9, hv8, h⟩ := bnd_s h
  refine Ev.callV1 (mc1 := 0) (ms1 := 0) (v := vi r9.1) (h1 := hq D r9.2) vX8_49 (c_X8_fails Θ D z _ _ _ _ _ hv8) rfl rfl (by decide) rfl ⟨by decide, by decide, Nat.le_of_eq (Nat.zero_add _), Nat.le_of_eq (Nat.zero_add _), Nat.le_of_ble_eq_true rfl⟩ ⟨dX8_find_35, rfl⟩ ?_
  clear hv8
  refine Ev.if_eq jX8_find_38 (fun hc => ?_) (fun hc => ?_)
  · replace h := (if_pos hc).symm.trans h; clear hc
    refine Ev.aload_n (q := 0) ⟨dX8_find_45, rfl⟩ rfl rfl ?_
    refine Ev.iload_n (q := 1) ⟨dX8_find_46, rfl⟩ rfl rfl ?_
    refine Ev.iload_n (q := 2) ⟨dX8_find_47, rfl⟩ rfl rfl ?_
    obtain ⟨r11, hv10, h⟩ := bnd_s h
    refine Ev.callV1 (mc1 := 0) (ms1 := 0) (v := vi r11) (h1 := hq D r9.2) vX8_238 (c_X8_childWith Θ D z _ _ _ _ _ hv10) rfl rfl (by decide) rfl ⟨by decide, by decide, Nat.le_of_eq (Nat.zero_add _), Nat.le_of_eq (Nat.zero_add _), Nat.le_of_ble_eq_true rfl⟩ ⟨dX8_find_48, rfl⟩ ?_
    clear hv10
    obtain rfl := Option.some.inj h
    exact Ev.ireturn (ty := .int) ⟨dX8_find_51, rfl⟩ rfl rfl ⟨rfl, rfl⟩
  · replace h := (if_neg hc).symm.trans h; clear hc
    refine Ev.iconst ⟨dX8_find_41, rfl⟩ (inRd rfl) ?_
    refine Ev.goto jX8_find_42 ?_
    obtain rfl := Option.some.inj h
    exact Ev.ireturn (ty := .int) ⟨dX8_find_51, rfl⟩ rfl rfl ⟨rfl, rfl⟩
def F_X8_find (z : Nat) (v0 : Nat) (v1 : Int) (v2 : Int) (x : Mm) : Option (Int × Mm) := (some (wI x 8 v0 0 ((0 : Int)))).bind fun x1 => (F_X8_isNode z (v0) (v1) x1).bind fun r3 => (F_X8_fails z (v0) (r3) ((1 : Int)) x1).bind fun r5 => if r5.1 = 0 then ((F_X8_childWith z (v0) (v1) (v2) r5.2).bind fun r7 => if r7 = (-1 : Int) then (F_X8_find_34 z (v0) (v1) (v2) ((0 : Int)) (v0) r5.2) else (F_X8_find_34 z (v0) (v1) (v2) ((1 : Int)) (v0) r5.2)) else (some (((0 : Int), r5.2)))
set_option maxHeartbeats 4000000 in
set_option maxRecDepth 20000 in
theorem c_X8_find (Θ : GC) (D : Nat → Nat → Prop) (z : Nat) (v0 : Nat) (v1 : Int) (v2 : Int) (x : Mm) (y) (h : F_X8_find z v0 v1 v2 x = some y) : Cal Θ mX8_find 2 44 0 0 [vr 8 (v0 + 1), vi (v1), vi (v2)] (hq D x) (Ret (vi y.1) (hq D y.2)) := by
  refine Cal.of (by decide +kernel) rfl rfl (Nat.le_of_ble_eq_true rfl) ?_
  show Ev Θ mX8_find 2 44 0 0 0 [(0, vr 8 (v0 + 1)), (1, vi (v1)), (2, vi (v2))] [] (hq D x) (Ret (vi y.1) (hq D y.2))
  unfold F_X8_find at h
  refine Ev.aload_n (q := 0) ⟨dX8_find_0, rfl⟩ rfl rfl ?_
  refine Ev.iconst ⟨dX8_find_1, rfl⟩ (inRd rfl) ?_
  obtain ⟨x1, ex, h⟩ := bnd_s h
  refine Ev.putI fX8_38 ⟨dX8_find_2, rfl⟩ ?_
  refine Ev.cast ?_ rfl rfl (hqI ex)
  clear ex
  refine Ev.aload_n (q := 0) ⟨dX8_find_5, rfl⟩ rfl rfl ?_
  refine Ev.aload_n (q := 0) ⟨dX8_find_6, rfl⟩ rfl rfl ?_
  refine Ev.iload_n (q := 1) ⟨dX8_find_7, rfl⟩ rfl rfl ?_
  obtain ⟨r3, hv2, h⟩ := bnd_s h
  refine Ev.callV1 (mc1 := 0) (ms1 := 0) (v := vi r3) (h1 := hq D x1) vX8_191 (c_X8_isNode Θ D z _ _ _ _ hv2) rfl rfl (by decide) rfl ⟨by decide, by decide, Nat.le_of_eq (Nat.zero_add _), Nat.le_of_eq (Nat.zero_add _), Nat.le_of_ble_eq_true rfl⟩ ⟨dX8_find_8, rfl⟩ ?_
  clear hv2
  refine Ev.iconst ⟨dX8_find_11, rfl⟩ (inRd rfl) ?_
  obtain ⟨r5, hv4, h⟩ := bnd_s h
  refine Ev.callV1 (mc1 := 0) (ms1 := 0) (v := vi r5.1) (h1 := hq D r5.2) vX8_49 (c_X8_fails Θ D z _ _ _ _ _ hv4) rfl rfl (by decide) rfl ⟨by decide, by decide, Nat.le_of_eq (Nat.zero_add _), Nat.le_of_eq (Nat.zero_add _), Nat.le_of_ble_eq_true rfl⟩ ⟨dX8_find_12, rfl⟩ ?_
  clear hv4
  refine Ev.if_ne jX8_find_15 (fun hc => ?_) (fun hc => ?_)
  · replace h := (if_neg hc).symm.trans h; clear hc
    refine Ev.iconst ⟨dX8_find_41, rfl⟩ (inRd rfl) ?_
    refine Ev.goto jX8_find_42 ?_
    obtain rfl := Option.some.inj h
    exact Ev.ireturn (ty := .int) ⟨dX8_find_51, rfl⟩ rfl rfl ⟨rfl, rfl⟩
  · replace h := (if_pos hc).symm.trans h; clear hc
    refine Ev.aload_n (q := 0) ⟨dX8_find_18, rfl⟩ rfl rfl ?_
    refine Ev.aload_n (q := 0) ⟨dX8_find_19, rfl⟩ rfl rfl ?_
    refine Ev.iload_n (q := 1) ⟨dX8_find_20, rfl⟩ rfl rfl ?_
    refine Ev.iload_n (q := 2) ⟨dX8_find_21, rfl⟩ rfl rfl ?_
    obtain ⟨r7, hv6, h⟩ := bnd_s h
    refine Ev.callV1 (mc1 := 0) (ms1 := 0) (v := vi r7) (h1 := hq D r5.2) vX8_238 (c_X8_childWith Θ D z _ _ _ _ _ hv6) rfl rfl (by decide) rfl ⟨by decide, by decide, Nat.le_of_eq (Nat.zero_add _), Nat.le_of_eq (Nat.zero_add _), Nat.le_of_ble_eq_true rfl⟩ ⟨dX8_find_22, rfl⟩ ?_
    clear hv6
    refine Ev.iconst ⟨dX8_find_25, rfl⟩ (inRd rfl) ?_
    refine Ev.icmp_eq jX8_find_26 (fun hc => ?_) (fun hc => ?_)
    · replace h := (if_pos hc).symm.trans h; clear hc
      refine Ev.iconst ⟨dX8_find_33, rfl⟩ (inRd rfl) ?_
      exact e_X8_find_34 Θ D z _ _ _ _ _ _ _ h
    · replace h := (if_neg hc).symm.trans h; clear hc
      refine Ev.iconst ⟨dX8_find_29, rfl⟩ (inRd rfl) ?_
      refine Ev.goto jX8_find_30 ?_
      exact e_X8_find_34 Θ D z _ _ _ _ _ _ _ h

def F_X8_sizeOf_4 (z : Nat) (v0 : Nat) (v1 : Int) (x : Mm) : Nat → Int → Int → Option (Int)
  | 0, _, _ => none
  | k + 1, v2, v3 => ckI (3 : Int) 5366 <| if (x.1 27 0 ((3 : Int)).toNat) ≤ v3 then (some (v2)) else ((F_X8_isAlive z (v0) (v3) x).bind fun r3 => if r3 = 0 then (ckR ((v2 + (0 : Int))) <| ckR ((v3 + 1)) <| F_X8_sizeOf_4 z v0 v1 x k ((v2 + (0 : Int))) ((v3 + 1))) else ((F_X8_isWithin z (v0) (v3) (v1) x).bind fun r7 => if r7 = 0 then (ckR ((v2 + (0 : Int))) <| ckR ((v3 + 1)) <| F_X8_sizeOf_4 z v0 v1 x k ((v2 + (0 : Int))) ((v3 + 1))) else (ckR ((v2 + (1 : Int))) <| ckR ((v3 + 1)) <| F_X8_sizeOf_4 z v0 v1 x k ((v2 + (1 : Int))) ((v3 + 1)))))
set_option maxHeartbeats 4000000 in
set_option maxRecDepth 20000 in
theorem e_X8_sizeOf_4 (Θ : GC) (D : Nat → Nat → Prop) (z : Nat) (v0 : Nat) (v1 : Int) (x : Mm) (Q : Ro → Hp → Prop) (mc ms : Nat) : ∀ (k : Nat) (v2 : Int) (v3 : Int) (y), F_X8_sizeOf_4 z v0 v1 x k v2 v3 = some y → (Ev Θ mX8_sizeOf 1 23 mc ms 45 [(0, vr 8 (v0 + 1)), (1, vi (v1)), (2, vi (y))] [] (hq D x) Q) → Ev Θ mX8_sizeOf 1 23 mc ms 4 [(0, vr 8 (v0 + 1)), (1, vi (v1)), (2, vi (v2)), (3, vi (v3))] [] (hq D x) Q := by
  intro k
  induction k with
  | zero => intro v2 v3 y h; exact absurd h (by unfold F_X8_sizeOf_4; exact nofun)
  | succ k ih =>
    intro v2 v3 y h k1
    unfold F_X8_sizeOf_4 at h
    refine Ev.iload_n (q := 3) ⟨dX8_sizeOf_4, rfl⟩ rfl rfl ?_
    refine Ev.aload_n (q := 0) ⟨dX8_sizeOf_5, rfl⟩ rfl rfl ?_
    refine Ev.getRk (C2 := 27) (r := 0) fX8_13 rfl (by decide) (by decide) ⟨dX8_sizeOf_6, rfl⟩ ?_
    refine Ev.iconst ⟨dX8_sizeOf_9, rfl⟩ (inRd rfl) ?_
    obtain ⟨c1, h⟩ := ckI_s h
    refine Ev.iaload (by decide) c1.1 c1.2 ⟨dX8_sizeOf_10, rfl⟩ ?_
    refine Ev.icmp_ge jX8_sizeOf_11 (fun hc => ?_) (fun hc => ?_)
    · replace h := (if_pos hc).symm.trans h; clear hc
      refine Ev.keep [0, 1, 2] rfl ?_
      obtain rfl := Option.some.inj h
      exact k1
    · replace h := (if_neg hc).symm.trans h; clear hc
      refine Ev.iload_n (q := 2) ⟨dX8_sizeOf_14, rfl⟩ rfl rfl ?_
      refine Ev.aload_n (q := 0) ⟨dX8_sizeOf_15, rfl⟩ rfl rfl ?_
      refine Ev.iload_n (q := 3) ⟨dX8_sizeOf_16, rfl⟩ rfl rfl ?_
      obtain ⟨r3, hv2, h⟩ := bnd_s h
      refine Ev.callV1 (mc1 := mc) (ms1 := ms) (v := vi r3) (h1 := hq D x) vX8_194 (c_X8_isAlive Θ D z _ _ _ _ hv2) rfl rfl (by decide) rfl ⟨by decide, by decide, Nat.le_of_eq (Nat.zero_add _), Nat.le_of_eq (Nat.zero_add _), Nat.le_of_ble_eq_true rfl⟩ ⟨dX8_sizeOf_17, rfl⟩ ?_
      clear hv2
      refine Ev.if_eq jX8_sizeOf_20 (fun hc => ?_) (fun hc => ?_)
      · replace h := (if_pos hc).symm.trans h; clear hc
        refine Ev.iconst ⟨dX8_sizeOf_36, rfl⟩ (inRd rfl) ?_
        obtain ⟨c4, h⟩ := ckR_s h
        refine Ev.iadd ⟨dX8_sizeOf_37, rfl⟩ c4 ?_
        refine Ev.istore_n (i := 2) (ls' := [(0, _), (1, _), (2, _), (3, _)]) ⟨dX8_sizeOf_38, rfl⟩ rfl (by decide) rfl ?_
        obtain ⟨c5, h⟩ := ckR_s h
        refine Ev.iinc (q := 3) (ls' := [(0, _), (1, _), (2, _), (3, _)]) ⟨dX8_sizeOf_39, rfl⟩ rfl (by decide) c5 rfl ?_
        refine Ev.goto jX8_sizeOf_42 ?_
        exact ih _ _ _ h k1
      · replace h := (if_neg hc).symm.trans h; clear hc
        refine Ev.aload_n (q := 0) ⟨dX8_sizeOf_23, rfl⟩ rfl rfl ?_
        refine Ev.iload_n (q := 3) ⟨dX8_sizeOf_24, rfl⟩ rfl rfl ?_
        refine Ev.iload_n (q := 1) ⟨dX8_sizeOf_25, rfl⟩ rfl rfl ?_
        obtain ⟨r7, hv6, h⟩ := bnd_s h
        refine Ev.callV1 (mc1 := mc) (ms1 := ms) (v := vi r7) (h1 := hq D x) vX8_180 (c_X8_isWithin Θ D z _ _ _ _ _ hv6) rfl rfl (by decide) rfl ⟨by decide, by decide, Nat.le_of_eq (Nat.zero_add _), Nat.le_of_eq (Nat.zero_add _), Nat.le_of_ble_eq_true rfl⟩ ⟨dX8_sizeOf_26, rfl⟩ ?_
        clear hv6
        refine Ev.if_eq jX8_sizeOf_29 (fun hc => ?_) (fun hc => ?_)
        · replace h := (if_pos hc).symm.trans h; clear hc
          refine Ev.iconst ⟨dX8_sizeOf_36, rfl⟩ (inRd rfl) ?_
          obtain ⟨c8, h⟩ := ckR_s h
          refine Ev.iadd ⟨dX8_sizeOf_37, rfl⟩ c8 ?_
          refine Ev.istore_n (i := 2) (ls' := [(0, _), (1, _), (2, _), (3, _)]) ⟨dX8_sizeOf_38, rfl⟩ rfl (by decide) rfl ?_
          obtain ⟨c9, h⟩ := ckR_s h
          refine Ev.iinc (q := 3) (ls' := [(0, _), (1, _), (2, _), (3, _)]) ⟨dX8_sizeOf_39, rfl⟩ rfl (by decide) c9 rfl ?_
          refine Ev.goto jX8_sizeOf_42 ?_
          exact ih _ _ _ h k1
        · replace h := (if_neg hc).symm.trans h; clear hc
          refine Ev.iconst ⟨dX8_sizeOf_32, rfl⟩ (inRd rfl) ?_
          refine Ev.goto jX8_sizeOf_33 ?_
          obtain ⟨c10, h⟩ := ckR_s h
          refine Ev.iadd ⟨dX8_sizeOf_37, rfl⟩ c10 ?_
          refine Ev.istore_n (i := 2) (ls' := [(0, _), (1, _), (2, _), (3, _)]) ⟨dX8_sizeOf_38, rfl⟩ rfl (by decide) rfl ?_
          obtain ⟨c11, h⟩ := ckR_s h
          refine Ev.iinc (q := 3) (ls' := [(0, _), (1, _), (2, _), (3, _)]) ⟨dX8_sizeOf_39, rfl⟩ rfl (by decide) c11 rfl ?_
          refine Ev.goto jX8_sizeOf_42 ?_
          exact ih _ _ _ h k1
def F_X8_sizeOf (z : Nat) (v0 : Nat) (v1 : Int) (x : Mm) : Option (Int) := (F_X8_sizeOf_4 z (v0) (v1) x z ((0 : Int)) (v1)).bind fun s12 => some (s12)
set_option maxHeartbeats 4000000 in
set_option maxRecDepth 20000 in
theorem c_X8_sizeOf (Θ : GC) (D : Nat → Nat → Prop) (z : Nat) (v0 : Nat) (v1 : Int) (x : Mm) (y) (h : F_X8_sizeOf z v0 v1 x = some y) : Cal Θ mX8_sizeOf 1 23 0 0 [vr 8 (v0 + 1), vi (v1)] (hq D x) (Ret (vi y) (hq D x)) := by
  refine Cal.of (by decide +kernel) rfl rfl (Nat.le_of_ble_eq_true rfl) ?_
  show Ev Θ mX8_sizeOf 1 23 0 0 0 [(0, vr 8 (v0 + 1)), (1, vi (v1))] [] (hq D x) (Ret (vi y) (hq D x))
  unfold F_X8_sizeOf at h
  refine Ev.iconst ⟨dX8_sizeOf_0, rfl⟩ (inRd rfl) ?_
  refine Ev.istore_n (i := 2) (ls' := [(0, _), (1, _), (2, _)]) ⟨dX8_sizeOf_1, rfl⟩ rfl (by decide) rfl ?_
  refine Ev.iload_n (q := 1) ⟨dX8_sizeOf_2, rfl⟩ rfl rfl ?_
  refine Ev.istore_n (i := 3) (ls' := [(0, _), (1, _), (2, _), (3, _)]) ⟨dX8_sizeOf_3, rfl⟩ rfl (by decide) rfl ?_
  obtain ⟨s12, hl, h⟩ := bnd_s h
  refine e_X8_sizeOf_4 Θ D z _ _ _ _ _ _ _ _ _ _ hl ?_
  clear hl
  refine Ev.iload_n (q := 2) ⟨dX8_sizeOf_45, rfl⟩ rfl rfl ?_
  obtain rfl := Option.some.inj h
  exact Ev.ireturn (ty := .int) ⟨dX8_sizeOf_46, rfl⟩ rfl rfl ⟨rfl, rfl⟩

def F_X8_walk_59 (z : Nat) (v0 : Nat) (v1 : Int) (v2 : Int) (v3 : Int) (x : Mm) : Nat → Int → Int → Option (Int × Int)
  | 0, _, _ => none
  | k + 1, v4, v5 => (F_X8_childAt z (v0) (v3) (v5) x).bind fun r8 => (F_X8_sizeOf z (v0) (r8) x).bind fun r10 => if v4 < r10 then (some ((v4, v5))) else ((F_X8_childAt z (v0) (v3) (v5) x).bind fun r12 => (F_X8_sizeOf z (v0) (r12) x).bind fun r14 => ckR ((v4 - r14)) <| ckR ((v5 + 1)) <| F_X8_walk_59 z v0 v1 v2 v3 x k ((v4 - r14)) ((v5 + 1)))
set_option maxHeartbeats 4000000 in
set_option maxRecDepth 20000 in
theorem e_X8_walk_59 (Θ : GC) (D : Nat → Nat → Prop) (z : Nat) (v0 : Nat) (v1 : Int) (v2 : Int) (v3 : Int) (x : Mm) (Q : Ro → Hp → Prop) (mc ms : Nat) : ∀ (k : Nat) (v4 : Int) (v5 : Int) (y), F_X8_walk_59 z v0 v1 v2 v3 x k v4 v5 = some y → (Ev Θ mX8_walk 2 47 mc ms 97 [(0, vr 8 (v0 + 1)), (1, vi (v1)), (2, vi (v2)), (3, vi (v3)), (4, vi (y.1)), (5, vi (y.2))] [] (hq D x) Q) → Ev Θ mX8_walk 2 47 mc ms 59 [(0, vr 8 (v0 + 1)), (1, vi (v1)), (2, vi (v2)), (3, vi (v3)), (4, vi (v4)), (5, vi (v5))] [] (hq D x) Q := by
  intro k
  induction k with
  | zero => intro v4 v5 y h; exact absurd h (by unfold F_X8_walk_59; exact nofun)
  | succ k ih =>
    intro v4 v5 y h k1
    unfold F_X8_walk_59 at h
    refine Ev.iload (q := 4) ⟨dX8_walk_59, rfl⟩ rfl ?_
    refine Ev.aload_n (q := 0) ⟨dX8_walk_61, rfl⟩ rfl rfl ?_
    refine Ev.aload_n (q := 0) ⟨dX8_walk_62, rfl⟩ rfl rfl ?_
    refine Ev.iload_n (q := 3) ⟨dX8_walk_63, rfl⟩ rfl rfl ?_
    refine Ev.iload (q := 5) ⟨dX8_walk_64, rfl⟩ rfl ?_
    obtain ⟨r8, hv7, h⟩ := bnd_s h
    refine Ev.callV1 (mc1 := mc) (ms1 := ms) (v := vi r8) (h1 := hq D x) vX8_290 (c_X8_childAt Θ D z _ _ _ _ _ hv7) rfl rfl (by decide) rfl ⟨by decide, by decide, Nat.le_of_eq (Nat.zero_add _), Nat.le_of_eq (Nat.zero_add _), Nat.le_of_ble_eq_true rfl⟩ ⟨dX8_walk_66, rfl⟩ ?_
    clear hv7
    obtain ⟨r10, hv9, h⟩ := bnd_s h
    refine Ev.callV1 (mc1 := mc) (ms1 := ms) (v := vi r10) (h1 := hq D x) vX8_293 (c_X8_sizeOf Θ D z _ _ _ _ hv9) rfl rfl (by decide) rfl ⟨by decide, by decide, Nat.le_of_eq (Nat.zero_add _), Nat.le_of_eq (Nat.zero_add _), Nat.le_of_ble_eq_true rfl⟩ ⟨dX8_walk_69, rfl⟩ ?_
    clear hv9
    refine Ev.icmp_lt jX8_walk_72 (fun hc => ?_) (fun hc => ?_)
    · replace h := (if_pos hc).symm.trans h; clear hc
      obtain rfl := Option.some.inj h
      exact k1
    · replace h := (if_neg hc).symm.trans h; clear hc
      refine Ev.iload (q := 4) ⟨dX8_walk_75, rfl⟩ rfl ?_
      refine Ev.aload_n (q := 0) ⟨dX8_walk_77, rfl⟩ rfl rfl ?_
      refine Ev.aload_n (q := 0) ⟨dX8_walk_78, rfl⟩ rfl rfl ?_
      refine Ev.iload_n (q := 3) ⟨dX8_walk_79, rfl⟩ rfl rfl ?_
      refine Ev.iload (q := 5) ⟨dX8_walk_80, rfl⟩ rfl ?_
      obtain ⟨r12, hv11, h⟩ := bnd_s h
      refine Ev.callV1 (mc1 := mc) (ms1 := ms) (v := vi r12) (h1 := hq D x) vX8_290 (c_X8_childAt Θ D z _ _ _ _ _ hv11) rfl rfl (by decide) rfl ⟨by decide, by decide, Nat.le_of_eq (Nat.zero_add _), Nat.le_of_eq (Nat.zero_add _), Nat.le_of_ble_eq_true rfl⟩ ⟨dX8_walk_82, rfl⟩ ?_
      clear hv11
      obtain ⟨r14, hv13, h⟩ := bnd_s h
      refine Ev.callV1 (mc1 := mc) (ms1 := ms) (v := vi r14) (h1 := hq D x) vX8_293 (c_X8_sizeOf Θ D z _ _ _ _ hv13) rfl rfl (by decide) rfl ⟨by decide, by decide, Nat.le_of_eq (Nat.zero_add _), Nat.le_of_eq (Nat.zero_add _), Nat.le_of_ble_eq_true rfl⟩ ⟨dX8_walk_85, rfl⟩ ?_
      clear hv13
      obtain ⟨c15, h⟩ := ckR_s h
      refine Ev.isub ⟨dX8_walk_88, rfl⟩ c15 ?_
      refine Ev.istore (i := 4) (ls' := [(0, _), (1, _), (2, _), (3, _), (4, _), (5, _)]) ⟨dX8_walk_89, rfl⟩ (by decide) rfl ?_
      obtain ⟨c16, h⟩ := ckR_s h
      refine Ev.iinc (q := 5) (ls' := [(0, _), (1, _), (2, _), (3, _), (4, _), (5, _)]) ⟨dX8_walk_91, rfl⟩ rfl (by decide) c16 rfl ?_
      refine Ev.goto jX8_walk_94 ?_
      exact ih _ _ _ h k1

def F_X8_walk_48 (z : Nat) (v0 : Nat) (v1 : Int) (v2 : Int) (x : Mm) : Nat → Int → Int → Option (Int)
  | 0, _, _ => none
  | k + 1, v3, v4 => if v4 ≤ 0 then (some (v3)) else (ckR ((v4 + (-1))) <| (F_X8_walk_59 z (v0) (v1) (v2) (v3) x z ((v4 + (-1))) ((0 : Int))).bind fun s17 => (F_X8_childAt z (v0) (v3) (s17.2) x).bind fun r19 => F_X8_walk_48 z v0 v1 v2 x k (r19) (s17.1))
set_option maxHeartbeats 4000000 in
set_option maxRecDepth 20000 in
theorem e_X8_walk_48 (Θ : GC) (D : Nat → Nat → Prop) (z : Nat) (v0 : Nat) (v1 : Int) (v2 : Int) (x : Mm) (Q : Ro → Hp → Prop) (mc ms : Nat) : ∀ (k : Nat) (v3 : Int) (v4 : Int) (y), F_X8_walk_48 z v0 v1 v2 x k v3 v4 = some y → (Ev Θ mX8_walk 2 47 mc ms 108 [(0, vr 8 (v0 + 1)), (1, vi (v1)), (2, vi (v2)), (3, vi (y))] [] (hq D x) Q) → Ev Θ mX8_walk 2 47 mc ms 48 [(0, vr 8 (v0 + 1)), (1, vi (v1)), (2, vi (v2)), (3, vi (v3)), (4, vi (v4))] [] (hq D x) Q := by
  intro k
  induction k with
  | zero => intro v3 v4 y h; exact absurd h (by unfold F_X8_walk_48; exact nofun)
  | succ k ih =>
    intro v3 v4 y h k1
    unfold F_X8_walk_48 at h
    refine Ev.iload (q := 4) ⟨dX8_walk_48, rfl⟩ rfl ?_
    refine Ev.if_le jX8_walk_50 (fun hc => ?_) (fun hc => ?_)
    · replace h := (if_pos hc).symm.trans h; clear hc
      refine Ev.keep [0, 1, 2, 3] rfl ?_
      obtain rfl := Option.some.inj h
      exact k1
    · replace h := (if_neg hc).symm.trans h; clear hc
      obtain ⟨c6, h⟩ := ckR_s h
      refine Ev.iinc (q := 4) (ls' := [(0, _), (1, _), (2, _), (3, _), (4, _)]) ⟨dX8_walk_53, rfl⟩ rfl (by decide) c6 rfl ?_
      refine Ev.iconst ⟨dX8_walk_56, rfl⟩ (inRd rfl) ?_
      refine Ev.istore (i := 5) (ls' := [(0, _), (1, _), (2, _), (3, _), (4, _), (5, _)]) ⟨dX8_walk_57, rfl⟩ (by decide) rfl ?_
      obtain ⟨s17, hl, h⟩ := bnd_s h
      refine e_X8_walk_59 Θ D z _ _ _ _ _ _ _ _ _ _ _ _ hl ?_
      clear hl
      refine Ev.aload_n (q := 0) ⟨dX8_walk_97, rfl⟩ rfl rfl ?_
      refine Ev.iload_n (q := 3) ⟨dX8_walk_98, rfl⟩ rfl rfl ?_
      refine Ev.iload (q := 5) ⟨dX8_walk_99, rfl⟩ rfl ?_
      obtain ⟨r19, hv18, h⟩ := bnd_s h
      refine Ev.callV1 (mc1 := mc) (ms1 := ms) (v := vi r19) (h1 := hq D x) vX8_290 (c_X8_childAt Θ D z _ _ _ _ _ hv18) rfl rfl (by decide) rfl ⟨by decide, by decide, Nat.le_of_eq (Nat.zero_add _), Nat.le_of_eq (Nat.zero_add _), Nat.le_of_ble_eq_true rfl⟩ ⟨dX8_walk_101, rfl⟩ ?_
      clear hv18
      refine Ev.istore_n (i := 3) (ls' := [(0, _), (1, _), (2, _), (3, _), (4, _), (5, _)]) ⟨dX8_walk_104, rfl⟩ rfl (by decide) rfl ?_
      refine Ev.goto jX8_walk_105 ?_
      refine Ev.keep [0, 1, 2, 3, 4] rfl ?_
      exact ih _ _ _ h k1

def F_X8_walk_34 (z : Nat) (v0 : Nat) (v1 : Int) (v2 : Int) (u0 : Int) (u1 : Nat) (x : Mm) : Option (Int × Mm) := (F_X8_fails z (u1) (u0) ((1 : Int)) x).bind fun r5 => if r5.1 = 0 then ((F_X8_walk_48 z (v0) (v1) (v2) r5.2 z (v1) (v2)).bind fun s20 => some ((s20, r5.2))) else (some (((0 : Int), r5.2)))
set_option maxHeartbeats 4000000 in
set_option maxRecDepth 20000 in
theorem e_X8_walk_34 (Θ : GC) (D : Nat → Nat → Prop) (z : Nat) (v0 : Nat) (v1 : Int) (v2 : Int) (u0 : Int) (u1 : Nat) (x : Mm) (y) (h : F_X8_walk_34 z v0 v1 v2 u0 u1 x = some y) : Ev Θ mX8_walk 2 47 0 0 34 [(0, vr 8 (v0 + 1)), (1, vi (v1)), (2, vi (v2))] [vi (u0), vr 8 (u1 + 1)] (hq D x) (Ret (vi y.1) (hq D y.2)) := by
  unfold F_X8_walk_34 at h
  refine Ev.iconst ⟨dX8_walk_34, rfl⟩ (inRd rfl) ?_
  obtain ⟨r5, hv4, h⟩ := bnd_s h
  refine Ev.callV1 (mc1 := 0) (ms1 := 0) (v := vi r5.1) (h1 := hq D r5.2) vX8_49 (c_X8_fails Θ D z _ _ _ _ _ hv4) rfl rfl (by decide) rfl ⟨by decide, by decide, Nat.le_of_eq (Nat.zero_add _), Nat.le_of_eq (Nat.zero_add _), Nat.le_of_ble_eq_true rfl⟩ ⟨dX8_walk_35, rfl⟩ ?_
  clear hv4
  refine Ev.if_eq jX8_walk_38 (fun hc => ?_) (fun hc => ?_)
  · replace h := (if_pos hc).symm.trans h; clear hc
    refine Ev.iload_n (q := 1) ⟨dX8_walk_43, rfl⟩ rfl rfl ?_
    refine Ev.istore_n (i := 3) (ls' := [(0, _), (1, _), (2, _), (3, _)]) ⟨dX8_walk_44, rfl⟩ rfl (by decide) rfl ?_
    refine Ev.iload_n (q := 2) ⟨dX8_walk_45, rfl⟩ rfl rfl ?_
    refine Ev.istore (i := 4) (ls' := [(0, _), (1, _), (2, _), (3, _), (4, _)]) ⟨dX8_walk_46, rfl⟩ (by decide) rfl ?_
    obtain ⟨s20, hl, h⟩ := bnd_s h
    refine e_X8_walk_48 Θ D z _ _ _ _ _ _ _ _ _ _ _ hl ?_
    clear hl
    refine Ev.iload_n (q := 3) ⟨dX8_walk_108, rfl⟩ rfl rfl ?_
    obtain rfl := Option.some.inj h
    exact Ev.ireturn (ty := .int) ⟨dX8_walk_109, rfl⟩ rfl rfl ⟨rfl, rfl⟩
  · replace h := (if_neg hc).symm.trans h; clear hc
    refine Ev.iconst ⟨dX8_walk_41, rfl⟩ (inRd rfl) ?_
    obtain rfl := Option.some.inj h
    exact Ev.ireturn (ty := .int) ⟨dX8_walk_42, rfl⟩ rfl rfl ⟨rfl, rfl⟩

def F_X8_walk_33 (z : Nat) (v0 : Nat) (v1 : Int) (v2 : Int) (u0 : Nat) (x : Mm) : Option (Int × Mm) := F_X8_walk_34 z (v0) (v1) (v2) ((0 : Int)) (u0) x
set_option maxHeartbeats 4000000 in
set_option maxRecDepth 20000 in
theorem e_X8_walk_33 (Θ : GC) (D : Nat → Nat → Prop) (z : Nat) (v0 : Nat) (v1 : Int) (v2 : Int) (u0 : Nat) (x : Mm) (y) (h : F_X8_walk_33 z v0 v1 v2 u0 x = some y) : Ev Θ mX8_walk 2 47 0 0 33 [(0, vr 8 (v0 + 1)), (1, vi (v1)), (2, vi (v2))] [vr 8 (u0 + 1)] (hq D x) (Ret (vi y.1) (hq D y.2)) := by
  unfold F_X8_walk_33 at h
  refine Ev.iconst ⟨dX8_walk_33, rfl⟩ (inRd rfl) ?_
  exact e_X8_walk_34 Θ D z _ _ _ _ _ _ _ h
def F_X8_walk (z : Nat) (v0 : Nat) (v1 : Int) (v2 : Int) (x : Mm) : Option (Int × Mm) := (some (wI x 8 v0 0 ((0 : Int)))).bind fun x1 => (F_X8_isNode z (v0) (v1) x1).bind fun r3 => if r3 = 0 then (F_X8_walk_33 z (v0) (v1) (v2) (v0) x1) else ((F_X8_sizeOf z (v0) (v1) x1).bind fun r22 => ckR ((r22 - (1 : Int))) <| (F_X8_in z (v2) ((0 : Int)) ((r22 - (1 : Int))) x1).bind fun r25 => if r25 = 0 then (F_X8_walk_33 z (v0) (v1) (v2) (v0) x1) else (F_X8_walk_34 z (v0) (v1) (v2) ((1 : Int)) (v0) x1))
set_option maxHeartbeats 4000000 in
set_option maxRecDepth 20000 in
theorem c_X8_walk (Θ : GC) (D : Nat → Nat → Prop) (z : Nat) (v0 : Nat) (v1 : Int) (v2 : Int) (x : Mm) (y) (h : F_X8_walk z v0 v1 v2 x = some y) : Cal Θ mX8_walk 2 47 0 0 [vr 8 (v0 + 1), vi (v1), vi (v2)] (hq D x) (Ret (vi y.1) (hq D y.2)) := by
  refine Cal.of (by decide +kernel) rfl rfl (Nat.le_of_ble_eq_true rfl) ?_
  show Ev Θ mX8_walk 2 47 0 0 0 [(0, vr 8 (v0 + 1)), (1, vi (v1)), (2, vi (v2))] [] (hq D x) (Ret (vi y.1) (hq D y.2))
  unfold F_X8_walk at h
  refine Ev.aload_n (q := 0) ⟨dX8_walk_0, rfl⟩ rfl rfl ?_
  refine Ev.iconst ⟨dX8_walk_1, rfl⟩ (inRd rfl) ?_
  obtain ⟨x1, ex, h⟩ := bnd_s h
  refine Ev.putI fX8_38 ⟨dX8_walk_2, rfl⟩ ?_
  refine Ev.cast ?_ rfl rfl (hqI ex)
  clear ex
  refine Ev.aload_n (q := 0) ⟨dX8_walk_5, rfl⟩ rfl rfl ?_
  refine Ev.aload_n (q := 0) ⟨dX8_walk_6, rfl⟩ rfl rfl ?_
  refine Ev.iload_n (q := 1) ⟨dX8_walk_7, rfl⟩ rfl rfl ?_
  obtain ⟨r3, hv2, h⟩ := bnd_s h
  refine Ev.callV1 (mc1 := 0) (ms1 := 0) (v := vi r3) (h1 := hq D x1) vX8_191 (c_X8_isNode Θ D z _ _ _ _ hv2) rfl rfl (by decide) rfl ⟨by decide, by decide, Nat.le_of_eq (Nat.zero_add _), Nat.le_of_eq (Nat.zero_add _), Nat.le_of_ble_eq_true rfl⟩ ⟨dX8_walk_8, rfl⟩ ?_
  clear hv2
  refine Ev.if_eq jX8_walk_11 (fun hc => ?_) (fun hc => ?_)
  · replace h := (if_pos hc).symm.trans h; clear hc
    exact e_X8_walk_33 Θ D z _ _ _ _ _ _ h
  · replace h := (if_neg hc).symm.trans h; clear hc
    refine Ev.iload_n (q := 2) ⟨dX8_walk_14, rfl⟩ rfl rfl ?_
    refine Ev.iconst ⟨dX8_walk_15, rfl⟩ (inRd rfl) ?_
    refine Ev.aload_n (q := 0) ⟨dX8_walk_16, rfl⟩ rfl rfl ?_
    refine Ev.iload_n (q := 1) ⟨dX8_walk_17, rfl⟩ rfl rfl ?_
    obtain ⟨r22, hv21, h⟩ := bnd_s h
    refine Ev.callV1 (mc1 := 0) (ms1 := 0) (v := vi r22) (h1 := hq D x1) vX8_293 (c_X8_sizeOf Θ D z _ _ _ _ hv21) rfl rfl (by decide) rfl ⟨by decide, by decide, Nat.le_of_eq (Nat.zero_add _), Nat.le_of_eq (Nat.zero_add _), Nat.le_of_ble_eq_true rfl⟩ ⟨dX8_walk_18, rfl⟩ ?_
    clear hv21
    refine Ev.iconst ⟨dX8_walk_21, rfl⟩ (inRd rfl) ?_
    obtain ⟨c23, h⟩ := ckR_s h
    refine Ev.isub ⟨dX8_walk_22, rfl⟩ c23 ?_
    obtain ⟨r25, hv24, h⟩ := bnd_s h
    refine Ev.callS1 (mc1 := 0) (ms1 := 0) (v := vi r25) (h1 := hq D x1) sX8_53 (c_X8_in Θ D z _ _ _ _ _ hv24) rfl rfl ⟨by decide, by decide, Nat.le_of_eq (Nat.zero_add _), Nat.le_of_eq (Nat.zero_add _), Nat.le_of_ble_eq_true rfl⟩ ⟨dX8_walk_23, rfl⟩ ?_
    clear hv24
    refine Ev.if_eq jX8_walk_26 (fun hc => ?_) (fun hc => ?_)
    · replace h := (if_pos hc).symm.trans h; clear hc
      exact e_X8_walk_33 Θ D z _ _ _ _ _ _ h
    · replace h := (if_neg hc).symm.trans h; clear hc
      refine Ev.iconst ⟨dX8_walk_29, rfl⟩ (inRd rfl) ?_
      refine Ev.goto jX8_walk_30 ?_
      exact e_X8_walk_34 Θ D z _ _ _ _ _ _ _ h

def F_X8_size (z : Nat) (v0 : Nat) (v1 : Int) (x : Mm) : Option (Int × Mm) := (some (wI x 8 v0 0 ((0 : Int)))).bind fun x1 => (F_X8_isNode z (v0) (v1) x1).bind fun r3 => (F_X8_fails z (v0) (r3) ((1 : Int)) x1).bind fun r5 => if r5.1 = 0 then ((F_X8_sizeOf z (v0) (v1) r5.2).bind fun r7 => some ((r7, r5.2))) else (some (((0 : Int), r5.2)))
set_option maxHeartbeats 4000000 in
set_option maxRecDepth 20000 in
theorem c_X8_size (Θ : GC) (D : Nat → Nat → Prop) (z : Nat) (v0 : Nat) (v1 : Int) (x : Mm) (y) (h : F_X8_size z v0 v1 x = some y) : Cal Θ mX8_size 2 46 0 0 [vr 8 (v0 + 1), vi (v1)] (hq D x) (Ret (vi y.1) (hq D y.2)) := by
  refine Cal.of (by decide +kernel) rfl rfl (Nat.le_of_ble_eq_true rfl) ?_
  show Ev Θ mX8_size 2 46 0 0 0 [(0, vr 8 (v0 + 1)), (1, vi (v1))] [] (hq D x) (Ret (vi y.1) (hq D y.2))
  unfold F_X8_size at h
  refine Ev.aload_n (q := 0) ⟨dX8_size_0, rfl⟩ rfl rfl ?_
  refine Ev.iconst ⟨dX8_size_1, rfl⟩ (inRd rfl) ?_
  obtain ⟨x1, ex, h⟩ := bnd_s h
  refine Ev.putI fX8_38 ⟨dX8_size_2, rfl⟩ ?_
  refine Ev.cast ?_ rfl rfl (hqI ex)
  clear ex
  refine Ev.aload_n (q := 0) ⟨dX8_size_5, rfl⟩ rfl rfl ?_
  refine Ev.aload_n (q := 0) ⟨dX8_size_6, rfl⟩ rfl rfl ?_
  refine Ev.iload_n (q := 1) ⟨dX8_size_7, rfl⟩ rfl rfl ?_
  obtain ⟨r3, hv2, h⟩ := bnd_s h
  refine Ev.callV1 (mc1 := 0) (ms1 := 0) (v := vi r3) (h1 := hq D x1) vX8_191 (c_X8_isNode Θ D z _ _ _ _ hv2) rfl rfl (by decide) rfl ⟨by decide, by decide, Nat.le_of_eq (Nat.zero_add _), Nat.le_of_eq (Nat.zero_add _), Nat.le_of_ble_eq_true rfl⟩ ⟨dX8_size_8, rfl⟩ ?_
  clear hv2
  refine Ev.iconst ⟨dX8_size_11, rfl⟩ (inRd rfl) ?_
  obtain ⟨r5, hv4, h⟩ := bnd_s h
  refine Ev.callV1 (mc1 := 0) (ms1 := 0) (v := vi r5.1) (h1 := hq D r5.2) vX8_49 (c_X8_fails Θ D z _ _ _ _ _ hv4) rfl rfl (by decide) rfl ⟨by decide, by decide, Nat.le_of_eq (Nat.zero_add _), Nat.le_of_eq (Nat.zero_add _), Nat.le_of_ble_eq_true rfl⟩ ⟨dX8_size_12, rfl⟩ ?_
  clear hv4
  refine Ev.if_eq jX8_size_15 (fun hc => ?_) (fun hc => ?_)
  · replace h := (if_pos hc).symm.trans h; clear hc
    refine Ev.aload_n (q := 0) ⟨dX8_size_22, rfl⟩ rfl rfl ?_
    refine Ev.iload_n (q := 1) ⟨dX8_size_23, rfl⟩ rfl rfl ?_
    obtain ⟨r7, hv6, h⟩ := bnd_s h
    refine Ev.callV1 (mc1 := 0) (ms1 := 0) (v := vi r7) (h1 := hq D r5.2) vX8_293 (c_X8_sizeOf Θ D z _ _ _ _ hv6) rfl rfl (by decide) rfl ⟨by decide, by decide, Nat.le_of_eq (Nat.zero_add _), Nat.le_of_eq (Nat.zero_add _), Nat.le_of_ble_eq_true rfl⟩ ⟨dX8_size_24, rfl⟩ ?_
    clear hv6
    obtain rfl := Option.some.inj h
    exact Ev.ireturn (ty := .int) ⟨dX8_size_27, rfl⟩ rfl rfl ⟨rfl, rfl⟩
  · replace h := (if_neg hc).symm.trans h; clear hc
    refine Ev.iconst ⟨dX8_size_18, rfl⟩ (inRd rfl) ?_
    refine Ev.goto jX8_size_19 ?_
    obtain rfl := Option.some.inj h
    exact Ev.ireturn (ty := .int) ⟨dX8_size_27, rfl⟩ rfl rfl ⟨rfl, rfl⟩

def F_X8_isCounted (z : Nat) (v0 : Nat) (v1 : Int) (v2 : Int) (x : Mm) : Option (Int) := (F_X8_isAlive z (v0) (v1) x).bind fun r2 => if r2 = 0 then (some ((0 : Int))) else (ckR (((131 : Int) + v1)) <| ckI ((131 : Int) + v1) 5366 <| if (x.1 27 0 (((131 : Int) + v1)).toNat) = (1 : Int) then ((F_X8_isWithin z (v0) (v1) (v2) x).bind fun r6 => if r6 = 0 then (some ((0 : Int))) else (some ((1 : Int)))) else (some ((0 : Int))))
set_option maxHeartbeats 4000000 in
set_option maxRecDepth 20000 in
theorem c_X8_isCounted (Θ : GC) (D : Nat → Nat → Prop) (z : Nat) (v0 : Nat) (v1 : Int) (v2 : Int) (x : Mm) (y) (h : F_X8_isCounted z v0 v1 v2 x = some y) : Cal Θ mX8_isCounted 1 23 0 0 [vr 8 (v0 + 1), vi (v1), vi (v2)] (hq D x) (Ret (vi y) (hq D x)) := by
  refine Cal.of (by decide +kernel) rfl rfl (Nat.le_of_ble_eq_true rfl) ?_
  show Ev Θ mX8_isCounted 1 23 0 0 0 [(0, vr 8 (v0 + 1)), (1, vi (v1)), (2, vi (v2))] [] (hq D x) (Ret (vi y) (hq D x))
  unfold F_X8_isCounted at h
  refine Ev.aload_n (q := 0) ⟨dX8_isCounted_0, rfl⟩ rfl rfl ?_
  refine Ev.iload_n (q := 1) ⟨dX8_isCounted_1, rfl⟩ rfl rfl ?_
  obtain ⟨r2, hv1, h⟩ := bnd_s h
  refine Ev.callV1 (mc1 := 0) (ms1 := 0) (v := vi r2) (h1 := hq D x) vX8_194 (c_X8_isAlive Θ D z _ _ _ _ hv1) rfl rfl (by decide) rfl ⟨by decide, by decide, Nat.le_of_eq (Nat.zero_add _), Nat.le_of_eq (Nat.zero_add _), Nat.le_of_ble_eq_true rfl⟩ ⟨dX8_isCounted_2, rfl⟩ ?_
  clear hv1
  refine Ev.if_eq jX8_isCounted_5 (fun hc => ?_) (fun hc => ?_)
  · replace h := (if_pos hc).symm.trans h; clear hc
    refine Ev.iconst ⟨dX8_isCounted_35, rfl⟩ (inRd rfl) ?_
    obtain rfl := Option.some.inj h
    exact Ev.ireturn (ty := .boolean) ⟨dX8_isCounted_36, rfl⟩ rfl rfl ⟨rfl, rfl⟩
  · replace h := (if_neg hc).symm.trans h; clear hc
    refine Ev.aload_n (q := 0) ⟨dX8_isCounted_8, rfl⟩ rfl rfl ?_
    refine Ev.getRk (C2 := 27) (r := 0) fX8_13 rfl (by decide) (by decide) ⟨dX8_isCounted_9, rfl⟩ ?_
    refine Ev.sipush ⟨dX8_isCounted_12, rfl⟩ (inRd rfl) (by decide) ?_
    refine Ev.iload_n (q := 1) ⟨dX8_isCounted_15, rfl⟩ rfl rfl ?_
    obtain ⟨c3, h⟩ := ckR_s h
    refine Ev.iadd ⟨dX8_isCounted_16, rfl⟩ c3 ?_
    obtain ⟨c4, h⟩ := ckI_s h
    refine Ev.iaload (by decide) c4.1 c4.2 ⟨dX8_isCounted_17, rfl⟩ ?_
    refine Ev.iconst ⟨dX8_isCounted_18, rfl⟩ (inRd rfl) ?_
    refine Ev.icmp_ne jX8_isCounted_19 (fun hc => ?_) (fun hc => ?_)
    · replace h := (if_neg hc).symm.trans h; clear hc
      refine Ev.iconst ⟨dX8_isCounted_35, rfl⟩ (inRd rfl) ?_
      obtain rfl := Option.some.inj h
      exact Ev.ireturn (ty := .boolean) ⟨dX8_isCounted_36, rfl⟩ rfl rfl ⟨rfl, rfl⟩
    · replace h := (if_pos hc).symm.trans h; clear hc
      refine Ev.aload_n (q := 0) ⟨dX8_isCounted_22, rfl⟩ rfl rfl ?_
      refine Ev.iload_n (q := 1) ⟨dX8_isCounted_23, rfl⟩ rfl rfl ?_
      refine Ev.iload_n (q := 2) ⟨dX8_isCounted_24, rfl⟩ rfl rfl ?_
      obtain ⟨r6, hv5, h⟩ := bnd_s h
      refine Ev.callV1 (mc1 := 0) (ms1 := 0) (v := vi r6) (h1 := hq D x) vX8_180 (c_X8_isWithin Θ D z _ _ _ _ _ hv5) rfl rfl (by decide) rfl ⟨by decide, by decide, Nat.le_of_eq (Nat.zero_add _), Nat.le_of_eq (Nat.zero_add _), Nat.le_of_ble_eq_true rfl⟩ ⟨dX8_isCounted_25, rfl⟩ ?_
      clear hv5
      refine Ev.if_eq jX8_isCounted_28 (fun hc => ?_) (fun hc => ?_)
      · replace h := (if_pos hc).symm.trans h; clear hc
        refine Ev.iconst ⟨dX8_isCounted_35, rfl⟩ (inRd rfl) ?_
        obtain rfl := Option.some.inj h
        exact Ev.ireturn (ty := .boolean) ⟨dX8_isCounted_36, rfl⟩ rfl rfl ⟨rfl, rfl⟩
      · replace h := (if_neg hc).symm.trans h; clear hc
        refine Ev.iconst ⟨dX8_isCounted_31, rfl⟩ (inRd rfl) ?_
        refine Ev.goto jX8_isCounted_32 ?_
        obtain rfl := Option.some.inj h
        exact Ev.ireturn (ty := .boolean) ⟨dX8_isCounted_36, rfl⟩ rfl rfl ⟨rfl, rfl⟩

def F_X8_total_41 (z : Nat) (v0 : Nat) (v1 : Int) (v2 : Int) (x : Mm) : Nat → BitVec 64 → Int → Option (BitVec 64)
  | 0, _, _ => none
  | k + 1, v3, v5 => ckI (3 : Int) 5366 <| if (x.1 27 0 ((3 : Int)).toNat) ≤ v5 then (some (v3)) else ((F_X8_isCounted z (v0) (v5) (v1) x).bind fun r8 => if r8 = 0 then (ckR ((v5 + 1)) <| F_X8_total_41 z v0 v1 v2 x k ((v3 + (0#64))) ((v5 + 1))) else ((F_X8_value z (v0) (v5) (v2) x).bind fun r11 => ckR ((v5 + 1)) <| F_X8_total_41 z v0 v1 v2 x k ((v3 + (BitVec.ofInt 64 r11))) ((v5 + 1))))
set_option maxHeartbeats 4000000 in
set_option maxRecDepth 20000 in
theorem e_X8_total_41 (Θ : GC) (D : Nat → Nat → Prop) (z : Nat) (v0 : Nat) (v1 : Int) (v2 : Int) (x : Mm) (Q : Ro → Hp → Prop) (mc ms : Nat) : ∀ (k : Nat) (v3 : BitVec 64) (v5 : Int) (y), F_X8_total_41 z v0 v1 v2 x k v3 v5 = some y → (Ev Θ mX8_total 2 45 mc ms 83 [(0, vr 8 (v0 + 1)), (1, vi (v1)), (2, vi (v2)), (3, vl (y))] [] (hq D x) Q) → Ev Θ mX8_total 2 45 mc ms 41 [(0, vr 8 (v0 + 1)), (1, vi (v1)), (2, vi (v2)), (3, vl (v3)), (5, vi (v5))] [] (hq D x) Q := by
  intro k
  induction k with
  | zero => intro v3 v5 y h; exact absurd h (by unfold F_X8_total_41; exact nofun)
  | succ k ih =>
    intro v3 v5 y h k1
    unfold F_X8_total_41 at h
    refine Ev.iload (q := 4) ⟨dX8_total_41, rfl⟩ rfl ?_
    refine Ev.aload_n (q := 0) ⟨dX8_total_43, rfl⟩ rfl rfl ?_
    refine Ev.getRk (C2 := 27) (r := 0) fX8_13 rfl (by decide) (by decide) ⟨dX8_total_44, rfl⟩ ?_
    refine Ev.iconst ⟨dX8_total_47, rfl⟩ (inRd rfl) ?_
    obtain ⟨c6, h⟩ := ckI_s h
    refine Ev.iaload (by decide) c6.1 c6.2 ⟨dX8_total_48, rfl⟩ ?_
    refine Ev.icmp_ge jX8_total_49 (fun hc => ?_) (fun hc => ?_)
    · replace h := (if_pos hc).symm.trans h; clear hc
      refine Ev.keep [0, 1, 2, 3] rfl ?_
      obtain rfl := Option.some.inj h
      exact k1
    · replace h := (if_neg hc).symm.trans h; clear hc
      refine Ev.lload_n (q := 3) ⟨dX8_total_52, rfl⟩ rfl rfl ?_
      refine Ev.aload_n (q := 0) ⟨dX8_total_53, rfl⟩ rfl rfl ?_
      refine Ev.iload (q := 4) ⟨dX8_total_54, rfl⟩ rfl ?_
      refine Ev.iload_n (q := 1) ⟨dX8_total_56, rfl⟩ rfl rfl ?_
      obtain ⟨r8, hv7, h⟩ := bnd_s h
      refine Ev.callV1 (mc1 := mc) (ms1 := ms) (v := vi r8) (h1 := hq D x) vX8_296 (c_X8_isCounted Θ D z _ _ _ _ _ hv7) rfl rfl (by decide) rfl ⟨by decide, by decide, Nat.le_of_eq (Nat.zero_add _), Nat.le_of_eq (Nat.zero_add _), Nat.le_of_ble_eq_true rfl⟩ ⟨dX8_total_57, rfl⟩ ?_
      clear hv7
      refine Ev.if_eq jX8_total_60 (fun hc => ?_) (fun hc => ?_)
      · replace h := (if_pos hc).symm.trans h; clear hc
        refine Ev.lconst (b := BitVec.ofInt 64 0) ⟨dX8_total_74, rfl⟩ (by decide) ?_
        refine Ev.ladd ⟨dX8_total_75, rfl⟩ ?_
        refine Ev.lstore_n (i := 3) (ls' := [(0, _), (1, _), (2, _), (3, _), (5, _)]) ⟨dX8_total_76, rfl⟩ rfl (by decide) rfl ?_
        obtain ⟨c9, h⟩ := ckR_s h
        refine Ev.iinc (q := 4) (ls' := [(0, _), (1, _), (2, _), (3, _), (5, _)]) ⟨dX8_total_77, rfl⟩ rfl (by decide) c9 rfl ?_
        refine Ev.goto jX8_total_80 ?_
        exact ih _ _ _ h k1
      · replace h := (if_neg hc).symm.trans h; clear hc
        refine Ev.aload_n (q := 0) ⟨dX8_total_63, rfl⟩ rfl rfl ?_
        refine Ev.iload (q := 4) ⟨dX8_total_64, rfl⟩ rfl ?_
        refine Ev.iload_n (q := 2) ⟨dX8_total_66, rfl⟩ rfl rfl ?_
        obtain ⟨r11, hv10, h⟩ := bnd_s h
        refine Ev.callV1 (mc1 := mc) (ms1 := ms) (v := vi r11) (h1 := hq D x) vX8_203 (c_X8_value Θ D z _ _ _ _ _ hv10) rfl rfl (by decide) rfl ⟨by decide, by decide, Nat.le_of_eq (Nat.zero_add _), Nat.le_of_eq (Nat.zero_add _), Nat.le_of_ble_eq_true rfl⟩ ⟨dX8_total_67, rfl⟩ ?_
        clear hv10
        refine Ev.i2l ⟨dX8_total_70, rfl⟩ ?_
        refine Ev.goto jX8_total_71 ?_
        refine Ev.ladd ⟨dX8_total_75, rfl⟩ ?_
        refine Ev.lstore_n (i := 3) (ls' := [(0, _), (1, _), (2, _), (3, _), (5, _)]) ⟨dX8_total_76, rfl⟩ rfl (by decide) rfl ?_
        obtain ⟨c12, h⟩ := ckR_s h
        refine Ev.iinc (q := 4) (ls' := [(0, _), (1, _), (2, _), (3, _), (5, _)]) ⟨dX8_total_77, rfl⟩ rfl (by decide) c12 rfl ?_
        refine Ev.goto jX8_total_80 ?_
        exact ih _ _ _ h k1

def F_X8_total_27 (z : Nat) (v0 : Nat) (v1 : Int) (v2 : Int) (u0 : Int) (u1 : Nat) (x : Mm) : Option (BitVec 64 × Mm) := (F_X8_fails z (u1) (u0) ((1 : Int)) x).bind fun r5 => if r5.1 = 0 then ((F_X8_total_41 z (v0) (v1) (v2) r5.2 z ((0#64)) (v1)).bind fun s13 => some ((s13, r5.2))) else (some (((0#64), r5.2)))
set_option maxHeartbeats 4000000 in
set_option maxRecDepth 20000 in
theorem e_X8_total_27 (Θ : GC) (D : Nat → Nat → Prop) (z : Nat) (v0 : Nat) (v1 : Int) (v2 : Int) (u0 : Int) (u1 : Nat) (x : Mm) (y) (h : F_X8_total_27 z v0 v1 v2 u0 u1 x = some y) : Ev Θ mX8_total 2 45 0 0 27 [(0, vr 8 (v0 + 1)), (1, vi (v1)), (2, vi (v2))] [vi (u0), vr 8 (u1 + 1)] (hq D x) (Ret (vl y.1) (hq D y.2)) := by
  unfold F_X8_total_27 at h
  refine Ev.iconst ⟨dX8_total_27, rfl⟩ (inRd rfl) ?_
  obtain ⟨r5, hv4, h⟩ := bnd_s h
  refine Ev.callV1 (mc1 := 0) (ms1 := 0) (v := vi r5.1) (h1 := hq D r5.2) vX8_49 (c_X8_fails Θ D z _ _ _ _ _ hv4) rfl rfl (by decide) rfl ⟨by decide, by decide, Nat.le_of_eq (Nat.zero_add _), Nat.le_of_eq (Nat.zero_add _), Nat.le_of_ble_eq_true rfl⟩ ⟨dX8_total_28, rfl⟩ ?_
  clear hv4
  refine Ev.if_eq jX8_total_31 (fun hc => ?_) (fun hc => ?_)
  · replace h := (if_pos hc).symm.trans h; clear hc
    refine Ev.lconst (b := BitVec.ofInt 64 0) ⟨dX8_total_36, rfl⟩ (by decide) ?_
    refine Ev.lstore_n (i := 3) (ls' := [(0, _), (1, _), (2, _), (3, _)]) ⟨dX8_total_37, rfl⟩ rfl (by decide) rfl ?_
    refine Ev.iload_n (q := 1) ⟨dX8_total_38, rfl⟩ rfl rfl ?_
    refine Ev.istore (i := 5) (ls' := [(0, _), (1, _), (2, _), (3, _), (5, _)]) ⟨dX8_total_39, rfl⟩ (by decide) rfl ?_
    obtain ⟨s13, hl, h⟩ := bnd_s h
    refine e_X8_total_41 Θ D z _ _ _ _ _ _ _ _ _ _ _ hl ?_
    clear hl
    refine Ev.lload_n (q := 3) ⟨dX8_total_83, rfl⟩ rfl rfl ?_
    obtain rfl := Option.some.inj h
    exact Ev.lreturn ⟨dX8_total_84, rfl⟩ rfl ⟨rfl, rfl⟩
  · replace h := (if_neg hc).symm.trans h; clear hc
    refine Ev.lconst (b := BitVec.ofInt 64 0) ⟨dX8_total_34, rfl⟩ (by decide) ?_
    obtain rfl := Option.some.inj h
    exact Ev.lreturn ⟨dX8_total_35, rfl⟩ rfl ⟨rfl, rfl⟩

def F_X8_total_26 (z : Nat) (v0 : Nat) (v1 : Int) (v2 : Int) (u0 : Nat) (x : Mm) : Option (BitVec 64 × Mm) := F_X8_total_27 z (v0) (v1) (v2) ((0 : Int)) (u0) x
set_option maxHeartbeats 4000000 in
set_option maxRecDepth 20000 in
theorem e_X8_total_26 (Θ : GC) (D : Nat → Nat → Prop) (z : Nat) (v0 : Nat) (v1 : Int) (v2 : Int) (u0 : Nat) (x : Mm) (y) (h : F_X8_total_26 z v0 v1 v2 u0 x = some y) : Ev Θ mX8_total 2 45 0 0 26 [(0, vr 8 (v0 + 1)), (1, vi (v1)), (2, vi (v2))] [vr 8 (u0 + 1)] (hq D x) (Ret (vl y.1) (hq D y.2)) := by
  unfold F_X8_total_26 at h
  refine Ev.iconst ⟨dX8_total_26, rfl⟩ (inRd rfl) ?_
  exact e_X8_total_27 Θ D z _ _ _ _ _ _ _ h
def F_X8_total (z : Nat) (v0 : Nat) (v1 : Int) (v2 : Int) (x : Mm) : Option (BitVec 64 × Mm) := (some (wI x 8 v0 0 ((0 : Int)))).bind fun x1 => (F_X8_isNode z (v0) (v1) x1).bind fun r3 => if r3 = 0 then (F_X8_total_26 z (v0) (v1) (v2) (v0) x1) else ((F_X8_isField z (v0) (v2) x1).bind fun r15 => if r15 = 0 then (F_X8_total_26 z (v0) (v1) (v2) (v0) x1) else (F_X8_total_27 z (v0) (v1) (v2) ((1 : Int)) (v0) x1))
set_option maxHeartbeats 4000000 in
set_option maxRecDepth 20000 in
theorem c_X8_total (Θ : GC) (D : Nat → Nat → Prop) (z : Nat) (v0 : Nat) (v1 : Int) (v2 : Int) (x : Mm) (y) (h : F_X8_total z v0 v1 v2 x = some y) : Cal Θ mX8_total 2 45 0 0 [vr 8 (v0 + 1), vi (v1), vi (v2)] (hq D x) (Ret (vl y.1) (hq D y.2)) := by
  refine Cal.of (by decide +kernel) rfl rfl (Nat.le_of_ble_eq_true rfl) ?_
  show Ev Θ mX8_total 2 45 0 0 0 [(0, vr 8 (v0 + 1)), (1, vi (v1)), (2, vi (v2))] [] (hq D x) (Ret (vl y.1) (hq D y.2))
  unfold F_X8_total at h
  refine Ev.aload_n (q := 0) ⟨dX8_total_0, rfl⟩ rfl rfl ?_
  refine Ev.iconst ⟨dX8_total_1, rfl⟩ (inRd rfl) ?_
  obtain ⟨x1, ex, h⟩ := bnd_s h
  refine Ev.putI fX8_38 ⟨dX8_total_2, rfl⟩ ?_
  refine Ev.cast ?_ rfl rfl (hqI ex)
  clear ex
  refine Ev.aload_n (q := 0) ⟨dX8_total_5, rfl⟩ rfl rfl ?_
  refine Ev.aload_n (q := 0) ⟨dX8_total_6, rfl⟩ rfl rfl ?_
  refine Ev.iload_n (q := 1) ⟨dX8_total_7, rfl⟩ rfl rfl ?_
  obtain ⟨r3, hv2, h⟩ := bnd_s h
  refine Ev.callV1 (mc1 := 0) (ms1 := 0) (v := vi r3) (h1 := hq D x1) vX8_191 (c_X8_isNode Θ D z _ _ _ _ hv2) rfl rfl (by decide) rfl ⟨by decide, by decide, Nat.le_of_eq (Nat.zero_add _), Nat.le_of_eq (Nat.zero_add _), Nat.le_of_ble_eq_true rfl⟩ ⟨dX8_total_8, rfl⟩ ?_
  clear hv2
  refine Ev.if_eq jX8_total_11 (fun hc => ?_) (fun hc => ?_)
  · replace h := (if_pos hc).symm.trans h; clear hc
    exact e_X8_total_26 Θ D z _ _ _ _ _ _ h
  · replace h := (if_neg hc).symm.trans h; clear hc
    refine Ev.aload_n (q := 0) ⟨dX8_total_14, rfl⟩ rfl rfl ?_
    refine Ev.iload_n (q := 2) ⟨dX8_total_15, rfl⟩ rfl rfl ?_
    obtain ⟨r15, hv14, h⟩ := bnd_s h
    refine Ev.callV1 (mc1 := 0) (ms1 := 0) (v := vi r15) (h1 := hq D x1) vX8_205 (c_X8_isField Θ D z _ _ _ _ hv14) rfl rfl (by decide) rfl ⟨by decide, by decide, Nat.le_of_eq (Nat.zero_add _), Nat.le_of_eq (Nat.zero_add _), Nat.le_of_ble_eq_true rfl⟩ ⟨dX8_total_16, rfl⟩ ?_
    clear hv14
    refine Ev.if_eq jX8_total_19 (fun hc => ?_) (fun hc => ?_)
    · replace h := (if_pos hc).symm.trans h; clear hc
      exact e_X8_total_26 Θ D z _ _ _ _ _ _ h
    · replace h := (if_neg hc).symm.trans h; clear hc
      refine Ev.iconst ⟨dX8_total_22, rfl⟩ (inRd rfl) ?_
      refine Ev.goto jX8_total_23 ?_
      exact e_X8_total_27 Θ D z _ _ _ _ _ _ _ h

def F_X8_greatest_41 (z : Nat) (v0 : Nat) (v1 : Int) (v2 : Int) (x : Mm) : Nat → Int → Int → Option (Int)
  | 0, _, _ => none
  | k + 1, v3, v4 => ckI (3 : Int) 5366 <| if (x.1 27 0 ((3 : Int)).toNat) ≤ v4 then (some (v3)) else ((F_X8_isCounted z (v0) (v4) (v1) x).bind fun r8 => if r8 = 0 then (ckR ((v4 + 1)) <| F_X8_greatest_41 z v0 v1 v2 x k (v3) ((v4 + 1))) else (if v3 = (-1 : Int) then (ckR ((v4 + 1)) <| F_X8_greatest_41 z v0 v1 v2 x k (v4) ((v4 + 1))) else ((F_X8_value z (v0) (v4) (v2) x).bind fun r12 => (F_X8_value z (v0) (v3) (v2) x).bind fun r14 => if r12 ≤ r14 then (ckR ((v4 + 1)) <| F_X8_greatest_41 z v0 v1 v2 x k (v3) ((v4 + 1))) else (ckR ((v4 + 1)) <| F_X8_greatest_41 z v0 v1 v2 x k (v4) ((v4 + 1))))))
set_option maxHeartbeats 4000000 in
set_option maxRecDepth 20000 in
theorem e_X8_greatest_41 (Θ : GC) (D : Nat → Nat → Prop) (z : Nat) (v0 : Nat) (v1 : Int) (v2 : Int) (x : Mm) (Q : Ro → Hp → Prop) (mc ms : Nat) : ∀ (k : Nat) (v3 : Int) (v4 : Int) (y), F_X8_greatest_41 z v0 v1 v2 x k v3 v4 = some y → (Ev Θ mX8_greatest 2 45 mc ms 96 [(0, vr 8 (v0 + 1)), (1, vi (v1)), (2, vi (v2)), (3, vi (y))] [] (hq D x) Q) → Ev Θ mX8_greatest 2 45 mc ms 41 [(0, vr 8 (v0 + 1)), (1, vi (v1)), (2, vi (v2)), (3, vi (v3)), (4, vi (v4))] [] (hq D x) Q := by
  intro k
  induction k with
  | zero => intro v3 v4 y h; exact absurd h (by unfold F_X8_greatest_41; exact nofun)
  | succ k ih =>
    intro v3 v4 y h k1
    unfold F_X8_greatest_41 at h
    refine Ev.iload (q := 4) ⟨dX8_greatest_41, rfl⟩ rfl ?_
    refine Ev.aload_n (q := 0) ⟨dX8_greatest_43, rfl⟩ rfl rfl ?_
    refine Ev.getRk (C2 := 27) (r := 0) fX8_13 rfl (by decide) (by decide) ⟨dX8_greatest_44, rfl⟩ ?_
    refine Ev.iconst ⟨dX8_greatest_47, rfl⟩ (inRd rfl) ?_
    obtain ⟨c6, h⟩ := ckI_s h
    refine Ev.iaload (by decide) c6.1 c6.2 ⟨dX8_greatest_48, rfl⟩ ?_
    refine Ev.icmp_ge jX8_greatest_49 (fun hc => ?_) (fun hc => ?_)
    · replace h := (if_pos hc).symm.trans h; clear hc
      refine Ev.keep [0, 1, 2, 3] rfl ?_
      obtain rfl := Option.some.inj h
      exact k1
    · replace h := (if_neg hc).symm.trans h; clear hc
      refine Ev.aload_n (q := 0) ⟨dX8_greatest_52, rfl⟩ rfl rfl ?_
      refine Ev.iload (q := 4) ⟨dX8_greatest_53, rfl⟩ rfl ?_
      refine Ev.iload_n (q := 1) ⟨dX8_greatest_55, rfl⟩ rfl rfl ?_
      obtain ⟨r8, hv7, h⟩ := bnd_s h
      refine Ev.callV1 (mc1 := mc) (ms1 := ms) (v := vi r8) (h1 := hq D x) vX8_296 (c_X8_isCounted Θ D z _ _ _ _ _ hv7) rfl rfl (by decide) rfl ⟨by decide, by decide, Nat.le_of_eq (Nat.zero_add _), Nat.le_of_eq (Nat.zero_add _), Nat.le_of_ble_eq_true rfl⟩ ⟨dX8_greatest_56, rfl⟩ ?_
      clear hv7
      refine Ev.if_eq jX8_greatest_59 (fun hc => ?_) (fun hc => ?_)
      · replace h := (if_pos hc).symm.trans h; clear hc
        refine Ev.iload_n (q := 3) ⟨dX8_greatest_88, rfl⟩ rfl rfl ?_
        refine Ev.istore_n (i := 3) (ls' := [(0, _), (1, _), (2, _), (3, _), (4, _)]) ⟨dX8_greatest_89, rfl⟩ rfl (by decide) rfl ?_
        obtain ⟨c9, h⟩ := ckR_s h
        refine Ev.iinc (q := 4) (ls' := [(0, _), (1, _), (2, _), (3, _), (4, _)]) ⟨dX8_greatest_90, rfl⟩ rfl (by decide) c9 rfl ?_
        refine Ev.goto jX8_greatest_93 ?_
        exact ih _ _ _ h k1
      · replace h := (if_neg hc).symm.trans h; clear hc
        refine Ev.iload_n (q := 3) ⟨dX8_greatest_62, rfl⟩ rfl rfl ?_
        refine Ev.iconst ⟨dX8_greatest_63, rfl⟩ (inRd rfl) ?_
        refine Ev.icmp_eq jX8_greatest_64 (fun hc => ?_) (fun hc => ?_)
        · replace h := (if_pos hc).symm.trans h; clear hc
          refine Ev.iload (q := 4) ⟨dX8_greatest_83, rfl⟩ rfl ?_
          refine Ev.goto jX8_greatest_85 ?_
          refine Ev.istore_n (i := 3) (ls' := [(0, _), (1, _), (2, _), (3, _), (4, _)]) ⟨dX8_greatest_89, rfl⟩ rfl (by decide) rfl ?_
          obtain ⟨c10, h⟩ := ckR_s h
          refine Ev.iinc (q := 4) (ls' := [(0, _), (1, _), (2, _), (3, _), (4, _)]) ⟨dX8_greatest_90, rfl⟩ rfl (by decide) c10 rfl ?_
          refine Ev.goto jX8_greatest_93 ?_
          exact ih _ _ _ h k1
        · replace h := (if_neg hc).symm.trans h; clear hc
          refine Ev.aload_n (q := 0) ⟨dX8_greatest_67, rfl⟩ rfl rfl ?_
          refine Ev.iload (q := 4) ⟨dX8_greatest_68, rfl⟩ rfl ?_
          refine Ev.iload_n (q := 2) ⟨dX8_greatest_70, rfl⟩ rfl rfl ?_
          obtain ⟨r12, hv11, h⟩ := bnd_s h
          refine Ev.callV1 (mc1 := mc) (ms1 := ms) (v := vi r12) (h1 := hq D x) vX8_203 (c_X8_value Θ D z _ _ _ _ _ hv11) rfl rfl (by decide) rfl ⟨by decide, by decide, Nat.le_of_eq (Nat.zero_add _), Nat.le_of_eq (Nat.zero_add _), Nat.le_of_ble_eq_true rfl⟩ ⟨dX8_greatest_71, rfl⟩ ?_
          clear hv11
          refine Ev.aload_n (q := 0) ⟨dX8_greatest_74, rfl⟩ rfl rfl ?_
          refine Ev.iload_n (q := 3) ⟨dX8_greatest_75, rfl⟩ rfl rfl ?_
          refine Ev.iload_n (q := 2) ⟨dX8_greatest_76, rfl⟩ rfl rfl ?_
          obtain ⟨r14, hv13, h⟩ := bnd_s h
          refine Ev.callV1 (mc1 := mc) (ms1 := ms) (v := vi r14) (h1 := hq D x) vX8_203 (c_X8_value Θ D z _ _ _ _ _ hv13) rfl rfl (by decide) rfl ⟨by decide, by decide, Nat.le_of_eq (Nat.zero_add _), Nat.le_of_eq (Nat.zero_add _), Nat.le_of_ble_eq_true rfl⟩ ⟨dX8_greatest_77, rfl⟩ ?_
          clear hv13
          refine Ev.icmp_le jX8_greatest_80 (fun hc => ?_) (fun hc => ?_)
          · replace h := (if_pos hc).symm.trans h; clear hc
            refine Ev.iload_n (q := 3) ⟨dX8_greatest_88, rfl⟩ rfl rfl ?_
            refine Ev.istore_n (i := 3) (ls' := [(0, _), (1, _), (2, _), (3, _), (4, _)]) ⟨dX8_greatest_89, rfl⟩ rfl (by decide) rfl ?_
            obtain ⟨c15, h⟩ := ckR_s h
            refine Ev.iinc (q := 4) (ls' := [(0, _), (1, _), (2, _), (3, _), (4, _)]) ⟨dX8_greatest_90, rfl⟩ rfl (by decide) c15 rfl ?_
            refine Ev.goto jX8_greatest_93 ?_
            exact ih _ _ _ h k1
          · replace h := (if_neg hc).symm.trans h; clear hc
            refine Ev.iload (q := 4) ⟨dX8_greatest_83, rfl⟩ rfl ?_
            refine Ev.goto jX8_greatest_85 ?_
            refine Ev.istore_n (i := 3) (ls' := [(0, _), (1, _), (2, _), (3, _), (4, _)]) ⟨dX8_greatest_89, rfl⟩ rfl (by decide) rfl ?_
            obtain ⟨c16, h⟩ := ckR_s h
            refine Ev.iinc (q := 4) (ls' := [(0, _), (1, _), (2, _), (3, _), (4, _)]) ⟨dX8_greatest_90, rfl⟩ rfl (by decide) c16 rfl ?_
            refine Ev.goto jX8_greatest_93 ?_
            exact ih _ _ _ h k1

def F_X8_greatest_27 (z : Nat) (v0 : Nat) (v1 : Int) (v2 : Int) (u0 : Int) (u1 : Nat) (x : Mm) : Option (Int × Mm) := (F_X8_fails z (u1) (u0) ((1 : Int)) x).bind fun r5 => if r5.1 = 0 then ((F_X8_greatest_41 z (v0) (v1) (v2) r5.2 z ((-1 : Int)) (v1)).bind fun s17 => if s17 = (-1 : Int) then ((F_X8_fails z (v0) ((0 : Int)) ((2 : Int)) r5.2).bind fun r19 => if r19.1 = 0 then (some ((s17, r19.2))) else (some (((0 : Int), r19.2)))) else ((F_X8_fails z (v0) ((1 : Int)) ((2 : Int)) r5.2).bind fun r21 => if r21.1 = 0 then (some ((s17, r21.2))) else (some (((0 : Int), r21.2))))) else (some (((0 : Int), r5.2)))
set_option maxHeartbeats 4000000 in
set_option maxRecDepth 20000 in
theorem e_X8_greatest_27 (Θ : GC) (D : Nat → Nat → Prop) (z : Nat) (v0 : Nat) (v1 : Int) (v2 : Int) (u0 : Int) (u1 : Nat) (x : Mm) (y) (h : F_X8_greatest_27 z v0 v1 v2 u0 u1 x = some y) : Ev Θ mX8_greatest 2 45 0 0 27 [(0, vr 8 (v0 + 1)), (1, vi (v1)), (2, vi (v2))] [vi (u0), vr 8 (u1 + 1)] (hq D x) (Ret (vi y.1) (hq D y.2)) := by
  unfold F_X8_greatest_27 at h
  refine Ev.iconst ⟨dX8_greatest_27, rfl⟩ (inRd rfl) ?_
  obtain ⟨r5, hv4, h⟩ := bnd_s h
  refine Ev.callV1 (mc1 := 0) (ms1 := 0) (v := vi r5.1) (h1 := hq D r5.2) vX8_49 (c_X8_fails Θ D z _ _ _ _ _ hv4) rfl rfl (by decide) rfl ⟨by decide, by decide, Nat.le_of_eq (Nat.zero_add _), Nat.le_of_eq (Nat.zero_add _), Nat.le_of_ble_eq_true rfl⟩ ⟨dX8_greatest_28, rfl⟩ ?_
  clear hv4
  refine Ev.if_eq jX8_greatest_31 (fun hc => ?_) (fun hc => ?_)
  · replace h := (if_pos hc).symm.trans h; clear hc
    refine Ev.iconst ⟨dX8_greatest_36, rfl⟩ (inRd rfl) ?_
    refine Ev.istore_n (i := 3) (ls' := [(0, _), (1, _), (2, _), (3, _)]) ⟨dX8_greatest_37, rfl⟩ rfl (by decide) rfl ?_
    refine Ev.iload_n (q := 1) ⟨dX8_greatest_38, rfl⟩ rfl rfl ?_
    refine Ev.istore (i := 4) (ls' := [(0, _), (1, _), (2, _), (3, _), (4, _)]) ⟨dX8_greatest_39, rfl⟩ (by decide) rfl ?_
    obtain ⟨s17, hl, h⟩ := bnd_s h
    refine e_X8_greatest_41 Θ D z _ _ _ _ _ _ _ _ _ _ _ hl ?_
    clear hl
    refine Ev.aload_n (q := 0) ⟨dX8_greatest_96, rfl⟩ rfl rfl ?_
    refine Ev.iload_n (q := 3) ⟨dX8_greatest_97, rfl⟩ rfl rfl ?_
    refine Ev.iconst ⟨dX8_greatest_98, rfl⟩ (inRd rfl) ?_
    refine Ev.icmp_eq jX8_greatest_99 (fun hc => ?_) (fun hc => ?_)
    · replace h := (if_pos hc).symm.trans h; clear hc
      refine Ev.iconst ⟨dX8_greatest_106, rfl⟩ (inRd rfl) ?_
      refine Ev.iconst ⟨dX8_greatest_107, rfl⟩ (inRd rfl) ?_
      obtain ⟨r19, hv18, h⟩ := bnd_s h
      refine Ev.callV1 (mc1 := 0) (ms1 := 0) (v := vi r19.1) (h1 := hq D r19.2) vX8_49 (c_X8_fails Θ D z _ _ _ _ _ hv18) rfl rfl (by decide) rfl ⟨by decide, by decide, Nat.le_of_eq (Nat.zero_add _), Nat.le_of_eq (Nat.zero_add _), Nat.le_of_ble_eq_true rfl⟩ ⟨dX8_greatest_108, rfl⟩ ?_
      clear hv18
      refine Ev.if_eq jX8_greatest_111 (fun hc => ?_) (fun hc => ?_)
      · replace h := (if_pos hc).symm.trans h; clear hc
        refine Ev.iload_n (q := 3) ⟨dX8_greatest_118, rfl⟩ rfl rfl ?_
        obtain rfl := Option.some.inj h
        exact Ev.ireturn (ty := .int) ⟨dX8_greatest_119, rfl⟩ rfl rfl ⟨rfl, rfl⟩
      · replace h := (if_neg hc).symm.trans h; clear hc
        refine Ev.iconst ⟨dX8_greatest_114, rfl⟩ (inRd rfl) ?_
        refine Ev.goto jX8_greatest_115 ?_
        obtain rfl := Option.some.inj h
        exact Ev.ireturn (ty := .int) ⟨dX8_greatest_119, rfl⟩ rfl rfl ⟨rfl, rfl⟩
    · replace h := (if_neg hc).symm.trans h; clear hc
      refine Ev.iconst ⟨dX8_greatest_102, rfl⟩ (inRd rfl) ?_
      refine Ev.goto jX8_greatest_103 ?_
      refine Ev.iconst ⟨dX8_greatest_107, rfl⟩ (inRd rfl) ?_
      obtain ⟨r21, hv20, h⟩ := bnd_s h
      refine Ev.callV1 (mc1 := 0) (ms1 := 0) (v := vi r21.1) (h1 := hq D r21.2) vX8_49 (c_X8_fails Θ D z _ _ _ _ _ hv20) rfl rfl (by decide) rfl ⟨by decide, by decide, Nat.le_of_eq (Nat.zero_add _), Nat.le_of_eq (Nat.zero_add _), Nat.le_of_ble_eq_true rfl⟩ ⟨dX8_greatest_108, rfl⟩ ?_
      clear hv20
      refine Ev.if_eq jX8_greatest_111 (fun hc => ?_) (fun hc => ?_)
      · replace h := (if_pos hc).symm.trans h; clear hc
        refine Ev.iload_n (q := 3) ⟨dX8_greatest_118, rfl⟩ rfl rfl ?_
        obtain rfl := Option.some.inj h
        exact Ev.ireturn (ty := .int) ⟨dX8_greatest_119, rfl⟩ rfl rfl ⟨rfl, rfl⟩
      · replace h := (if_neg hc).symm.trans h; clear hc
        refine Ev.iconst ⟨dX8_greatest_114, rfl⟩ (inRd rfl) ?_
        refine Ev.goto jX8_greatest_115 ?_
        obtain rfl := Option.some.inj h
        exact Ev.ireturn (ty := .int) ⟨dX8_greatest_119, rfl⟩ rfl rfl ⟨rfl, rfl⟩
  · replace h := (if_neg hc).symm.trans h; clear hc
    refine Ev.iconst ⟨dX8_greatest_34, rfl⟩ (inRd rfl) ?_
    obtain rfl := Option.some.inj h
    exact Ev.ireturn (ty := .int) ⟨dX8_greatest_35, rfl⟩ rfl rfl ⟨rfl, rfl⟩

def F_X8_greatest_26 (z : Nat) (v0 : Nat) (v1 : Int) (v2 : Int) (u0 : Nat) (x : Mm) : Option (Int × Mm) := F_X8_greatest_27 z (v0) (v1) (v2) ((0 : Int)) (u0) x
set_option maxHeartbeats 4000000 in
set_option maxRecDepth 20000 in
theorem e_X8_greatest_26 (Θ : GC) (D : Nat → Nat → Prop) (z : Nat) (v0 : Nat) (v1 : Int) (v2 : Int) (u0 : Nat) (x : Mm) (y) (h : F_X8_greatest_26 z v0 v1 v2 u0 x = some y) : Ev Θ mX8_greatest 2 45 0 0 26 [(0, vr 8 (v0 + 1)), (1, vi (v1)), (2, vi (v2))] [vr 8 (u0 + 1)] (hq D x) (Ret (vi y.1) (hq D y.2)) := by
  unfold F_X8_greatest_26 at h
  refine Ev.iconst ⟨dX8_greatest_26, rfl⟩ (inRd rfl) ?_
  exact e_X8_greatest_27 Θ D z _ _ _ _ _ _ _ h
def F_X8_greatest (z : Nat) (v0 : Nat) (v1 : Int) (v2 : Int) (x : Mm) : Option (Int × Mm) := (some (wI x 8 v0 0 ((0 : Int)))).bind fun x1 => (F_X8_isNode z (v0) (v1) x1).bind fun r3 => if r3 = 0 then (F_X8_greatest_26 z (v0) (v1) (v2) (v0) x1) else ((F_X8_isField z (v0) (v2) x1).bind fun r23 => if r23 = 0 then (F_X8_greatest_26 z (v0) (v1) (v2) (v0) x1) else (F_X8_greatest_27 z (v0) (v1) (v2) ((1 : Int)) (v0) x1))
set_option maxHeartbeats 4000000 in
set_option maxRecDepth 20000 in
theorem c_X8_greatest (Θ : GC) (D : Nat → Nat → Prop) (z : Nat) (v0 : Nat) (v1 : Int) (v2 : Int) (x : Mm) (y) (h : F_X8_greatest z v0 v1 v2 x = some y) : Cal Θ mX8_greatest 2 45 0 0 [vr 8 (v0 + 1), vi (v1), vi (v2)] (hq D x) (Ret (vi y.1) (hq D y.2)) := by
  refine Cal.of (by decide +kernel) rfl rfl (Nat.le_of_ble_eq_true rfl) ?_
  show Ev Θ mX8_greatest 2 45 0 0 0 [(0, vr 8 (v0 + 1)), (1, vi (v1)), (2, vi (v2))] [] (hq D x) (Ret (vi y.1) (hq D y.2))
  unfold F_X8_greatest at h
  refine Ev.aload_n (q := 0) ⟨dX8_greatest_0, rfl⟩ rfl rfl ?_
  refine Ev.iconst ⟨dX8_greatest_1, rfl⟩ (inRd rfl) ?_
  obtain ⟨x1, ex, h⟩ := bnd_s h
  refine Ev.putI fX8_38 ⟨dX8_greatest_2, rfl⟩ ?_
  refine Ev.cast ?_ rfl rfl (hqI ex)
  clear ex
  refine Ev.aload_n (q := 0) ⟨dX8_greatest_5, rfl⟩ rfl rfl ?_
  refine Ev.aload_n (q := 0) ⟨dX8_greatest_6, rfl⟩ rfl rfl ?_
  refine Ev.iload_n (q := 1) ⟨dX8_greatest_7, rfl⟩ rfl rfl ?_
  obtain ⟨r3, hv2, h⟩ := bnd_s h
  refine Ev.callV1 (mc1 := 0) (ms1 := 0) (v := vi r3) (h1 := hq D x1) vX8_191 (c_X8_isNode Θ D z _ _ _ _ hv2) rfl rfl (by decide) rfl ⟨by decide, by decide, Nat.le_of_eq (Nat.zero_add _), Nat.le_of_eq (Nat.zero_add _), Nat.le_of_ble_eq_true rfl⟩ ⟨dX8_greatest_8, rfl⟩ ?_
  clear hv2
  refine Ev.if_eq jX8_greatest_11 (fun hc => ?_) (fun hc => ?_)
  · replace h := (if_pos hc).symm.trans h; clear hc
    exact e_X8_greatest_26 Θ D z _ _ _ _ _ _ h
  · replace h := (if_neg hc).symm.trans h; clear hc
    refine Ev.aload_n (q := 0) ⟨dX8_greatest_14, rfl⟩ rfl rfl ?_
    refine Ev.iload_n (q := 2) ⟨dX8_greatest_15, rfl⟩ rfl rfl ?_
    obtain ⟨r23, hv22, h⟩ := bnd_s h
    refine Ev.callV1 (mc1 := 0) (ms1 := 0) (v := vi r23) (h1 := hq D x1) vX8_205 (c_X8_isField Θ D z _ _ _ _ hv22) rfl rfl (by decide) rfl ⟨by decide, by decide, Nat.le_of_eq (Nat.zero_add _), Nat.le_of_eq (Nat.zero_add _), Nat.le_of_ble_eq_true rfl⟩ ⟨dX8_greatest_16, rfl⟩ ?_
    clear hv22
    refine Ev.if_eq jX8_greatest_19 (fun hc => ?_) (fun hc => ?_)
    · replace h := (if_pos hc).symm.trans h; clear hc
      exact e_X8_greatest_26 Θ D z _ _ _ _ _ _ h
    · replace h := (if_neg hc).symm.trans h; clear hc
      refine Ev.iconst ⟨dX8_greatest_22, rfl⟩ (inRd rfl) ?_
      refine Ev.goto jX8_greatest_23 ?_
      exact e_X8_greatest_27 Θ D z _ _ _ _ _ _ _ h

def F_X8_leased (z : Nat) (v0 : Nat) (v1 : Int) (v2 : Int) (x : Mm) : Option (Int × Mm) := (some (wI x 8 v0 0 ((0 : Int)))).bind fun x1 => (F_X8_isClient z (v0) (v1) x1).bind fun r3 => (F_X8_fails z (v0) (r3) ((1 : Int)) x1).bind fun r5 => if r5.1 = 0 then ((F_X8_in z (v2) ((0 : Int)) ((2 : Int)) r5.2).bind fun r7 => (F_X8_fails z (v0) (r7) ((2 : Int)) r5.2).bind fun r9 => if r9.1 = 0 then ((F_X8_hasLease z (v0) (v1) r9.2).bind fun r11 => if r11 = 0 then (some (((-1 : Int), r9.2))) else (ckR (((3 : Int) * v1)) <| ckR (((611 : Int) + ((3 : Int) * v1))) <| ckR ((((611 : Int) + ((3 : Int) * v1)) + v2)) <| ckI (((611 : Int) + ((3 : Int) * v1)) + v2) 5366 <| some (((r9.2.1 27 0 ((((611 : Int) + ((3 : Int) * v1)) + v2)).toNat), r9.2)))) else (some (((0 : Int), r9.2)))) else (some (((0 : Int), r5.2)))
set_option maxHeartbeats 4000000 in
set_option maxRecDepth 20000 in
theorem c_X8_leased (Θ : GC) (D : Nat → Nat → Prop) (z : Nat) (v0 : Nat) (v1 : Int) (v2 : Int) (x : Mm) (y) (h : F_X8_leased z v0 v1 v2 x = some y) : Cal Θ mX8_leased 2 43 0 0 [vr 8 (v0 + 1), vi (v1), vi (v2)] (hq D x) (Ret (vi y.1) (hq D y.2)) := by
  refine Cal.of (by decide +kernel) rfl rfl (Nat.le_of_ble_eq_true rfl) ?_
  show Ev Θ mX8_leased 2 43 0 0 0 [(0, vr 8 (v0 + 1)), (1, vi (v1)), (2, vi (v2))] [] (hq D x) (Ret (vi y.1) (hq D y.2))
  unfold F_X8_leased at h
  refine Ev.aload_n (q := 0) ⟨dX8_leased_0, rfl⟩ rfl rfl ?_
  refine Ev.iconst ⟨dX8_leased_1, rfl⟩ (inRd rfl) ?_
  obtain ⟨x1, ex, h⟩ := bnd_s h
  refine Ev.putI fX8_38 ⟨dX8_leased_2, rfl⟩ ?_
  refine Ev.cast ?_ rfl rfl (hqI ex)
  clear ex
  refine Ev.aload_n (q := 0) ⟨dX8_leased_5, rfl⟩ rfl rfl ?_
  refine Ev.aload_n (q := 0) ⟨dX8_leased_6, rfl⟩ rfl rfl ?_
  refine Ev.iload_n (q := 1) ⟨dX8_leased_7, rfl⟩ rfl rfl ?_
  obtain ⟨r3, hv2, h⟩ := bnd_s h
  refine Ev.callV1 (mc1 := 0) (ms1 := 0) (v := vi r3) (h1 := hq D x1) vX8_188 (c_X8_isClient Θ D z _ _ _ _ hv2) rfl rfl (by decide) rfl ⟨by decide, by decide, Nat.le_of_eq (Nat.zero_add _), Nat.le_of_eq (Nat.zero_add _), Nat.le_of_ble_eq_true rfl⟩ ⟨dX8_leased_8, rfl⟩ ?_
  clear hv2
  refine Ev.iconst ⟨dX8_leased_11, rfl⟩ (inRd rfl) ?_
  obtain ⟨r5, hv4, h⟩ := bnd_s h
  refine Ev.callV1 (mc1 := 0) (ms1 := 0) (v := vi r5.1) (h1 := hq D r5.2) vX8_49 (c_X8_fails Θ D z _ _ _ _ _ hv4) rfl rfl (by decide) rfl ⟨by decide, by decide, Nat.le_of_eq (Nat.zero_add _), Nat.le_of_eq (Nat.zero_add _), Nat.le_of_ble_eq_true rfl⟩ ⟨dX8_leased_12, rfl⟩ ?_
  clear hv4
  refine Ev.if_ne jX8_leased_15 (fun hc => ?_) (fun hc => ?_)
  · replace h := (if_neg hc).symm.trans h; clear hc
    refine Ev.iconst ⟨dX8_leased_32, rfl⟩ (inRd rfl) ?_
    obtain rfl := Option.some.inj h
    exact Ev.ireturn (ty := .int) ⟨dX8_leased_33, rfl⟩ rfl rfl ⟨rfl, rfl⟩
  · replace h := (if_pos hc).symm.trans h; clear hc
    refine Ev.aload_n (q := 0) ⟨dX8_leased_18, rfl⟩ rfl rfl ?_
    refine Ev.iload_n (q := 2) ⟨dX8_leased_19, rfl⟩ rfl rfl ?_
    refine Ev.iconst ⟨dX8_leased_20, rfl⟩ (inRd rfl) ?_
    refine Ev.iconst ⟨dX8_leased_21, rfl⟩ (inRd rfl) ?_
    obtain ⟨r7, hv6, h⟩ := bnd_s h
    refine Ev.callS1 (mc1 := 0) (ms1 := 0) (v := vi r7) (h1 := hq D r5.2) sX8_53 (c_X8_in Θ D z _ _ _ _ _ hv6) rfl rfl ⟨by decide, by decide, Nat.le_of_eq (Nat.zero_add _), Nat.le_of_eq (Nat.zero_add _), Nat.le_of_ble_eq_true rfl⟩ ⟨dX8_leased_22, rfl⟩ ?_
    clear hv6
    refine Ev.iconst ⟨dX8_leased_25, rfl⟩ (inRd rfl) ?_
    obtain ⟨r9, hv8, h⟩ := bnd_s h
    refine Ev.callV1 (mc1 := 0) (ms1 := 0) (v := vi r9.1) (h1 := hq D r9.2) vX8_49 (c_X8_fails Θ D z _ _ _ _ _ hv8) rfl rfl (by decide) rfl ⟨by decide, by decide, Nat.le_of_eq (Nat.zero_add _), Nat.le_of_eq (Nat.zero_add _), Nat.le_of_ble_eq_true rfl⟩ ⟨dX8_leased_26, rfl⟩ ?_
    clear hv8
    refine Ev.if_eq jX8_leased_29 (fun hc => ?_) (fun hc => ?_)
    · replace h := (if_pos hc).symm.trans h; clear hc
      refine Ev.aload_n (q := 0) ⟨dX8_leased_34, rfl⟩ rfl rfl ?_
      refine Ev.iload_n (q := 1) ⟨dX8_leased_35, rfl⟩ rfl rfl ?_
      obtain ⟨r11, hv10, h⟩ := bnd_s h
      refine Ev.callV1 (mc1 := 0) (ms1 := 0) (v := vi r11) (h1 := hq D r9.2) vX8_177 (c_X8_hasLease Θ D z _ _ _ _ hv10) rfl rfl (by decide) rfl ⟨by decide, by decide, Nat.le_of_eq (Nat.zero_add _), Nat.le_of_eq (Nat.zero_add _), Nat.le_of_ble_eq_true rfl⟩ ⟨dX8_leased_36, rfl⟩ ?_
      clear hv10
      refine Ev.if_eq jX8_leased_39 (fun hc => ?_) (fun hc => ?_)
      · replace h := (if_pos hc).symm.trans h; clear hc
        refine Ev.iconst ⟨dX8_leased_59, rfl⟩ (inRd rfl) ?_
        obtain rfl := Option.some.inj h
        exact Ev.ireturn (ty := .int) ⟨dX8_leased_60, rfl⟩ rfl rfl ⟨rfl, rfl⟩
      · replace h := (if_neg hc).symm.trans h; clear hc
        refine Ev.aload_n (q := 0) ⟨dX8_leased_42, rfl⟩ rfl rfl ?_
        refine Ev.getRk (C2 := 27) (r := 0) fX8_13 rfl (by decide) (by decide) ⟨dX8_leased_43, rfl⟩ ?_
        refine Ev.sipush ⟨dX8_leased_46, rfl⟩ (inRd rfl) (by decide) ?_
        refine Ev.iconst ⟨dX8_leased_49, rfl⟩ (inRd rfl) ?_
        refine Ev.iload_n (q := 1) ⟨dX8_leased_50, rfl⟩ rfl rfl ?_
        obtain ⟨c12, h⟩ := ckR_s h
        refine Ev.imul ⟨dX8_leased_51, rfl⟩ c12 ?_
        obtain ⟨c13, h⟩ := ckR_s h
        refine Ev.iadd ⟨dX8_leased_52, rfl⟩ c13 ?_
        refine Ev.iload_n (q := 2) ⟨dX8_leased_53, rfl⟩ rfl rfl ?_
        obtain ⟨c14, h⟩ := ckR_s h
        refine Ev.iadd ⟨dX8_leased_54, rfl⟩ c14 ?_
        obtain ⟨c15, h⟩ := ckI_s h
        refine Ev.iaload (by decide) c15.1 c15.2 ⟨dX8_leased_55, rfl⟩ ?_
        refine Ev.goto jX8_leased_56 ?_
        obtain rfl := Option.some.inj h
        exact Ev.ireturn (ty := .int) ⟨dX8_leased_60, rfl⟩ rfl rfl ⟨rfl, rfl⟩
    · replace h := (if_neg hc).symm.trans h; clear hc
      refine Ev.iconst ⟨dX8_leased_32, rfl⟩ (inRd rfl) ?_
      obtain rfl := Option.some.inj h
      exact Ev.ireturn (ty := .int) ⟨dX8_leased_33, rfl⟩ rfl rfl ⟨rfl, rfl⟩

def F_X8_blockers_27 (z : Nat) (v0 : Nat) (v1 : Int) (v2 : Int) (v3 : Int) (u0 : Int) (u1 : Nat) (x : Mm) : Option (Int × Mm) := (F_X8_fails z (u1) (u0) ((1 : Int)) x).bind fun r5 => if r5.1 = 0 then ((F_X8_blockersOf z (v0) (v1) (v2) (v3) r5.2).bind fun r7 => some ((r7, r5.2))) else (some (((0 : Int), r5.2)))
set_option maxHeartbeats 4000000 in
set_option maxRecDepth 20000 in
theorem e_X8_blockers_27 (Θ : GC) (D : Nat → Nat → Prop) (z : Nat) (v0 : Nat) (v1 : Int) (v2 : Int) (v3 : Int) (u0 : Int) (u1 : Nat) (x : Mm) (y) (h : F_X8_blockers_27 z v0 v1 v2 v3 u0 u1 x = some y) : Ev Θ mX8_blockers 3 73 0 0 27 [(0, vr 8 (v0 + 1)), (1, vi (v1)), (2, vi (v2)), (3, vi (v3))] [vi (u0), vr 8 (u1 + 1)] (hq D x) (Ret (vi y.1) (hq D y.2)) := by
  unfold F_X8_blockers_27 at h
  refine Ev.iconst ⟨dX8_blockers_27, rfl⟩ (inRd rfl) ?_
  obtain ⟨r5, hv4, h⟩ := bnd_s h
  refine Ev.callV1 (mc1 := 0) (ms1 := 0) (v := vi r5.1) (h1 := hq D r5.2) vX8_49 (c_X8_fails Θ D z _ _ _ _ _ hv4) rfl rfl (by decide) rfl ⟨by decide, by decide, Nat.le_of_eq (Nat.zero_add _), Nat.le_of_eq (Nat.zero_add _), Nat.le_of_ble_eq_true rfl⟩ ⟨dX8_blockers_28, rfl⟩ ?_
  clear hv4
  refine Ev.if_eq jX8_blockers_31 (fun hc => ?_) (fun hc => ?_)
  · replace h := (if_pos hc).symm.trans h; clear hc
    refine Ev.aload_n (q := 0) ⟨dX8_blockers_38, rfl⟩ rfl rfl ?_
    refine Ev.iload_n (q := 1) ⟨dX8_blockers_39, rfl⟩ rfl rfl ?_
    refine Ev.iload_n (q := 2) ⟨dX8_blockers_40, rfl⟩ rfl rfl ?_
    refine Ev.iload_n (q := 3) ⟨dX8_blockers_41, rfl⟩ rfl rfl ?_
    obtain ⟨r7, hv6, h⟩ := bnd_s h
    refine Ev.callV1 (mc1 := 0) (ms1 := 0) (v := vi r7) (h1 := hq D r5.2) vX8_197 (c_X8_blockersOf Θ D z _ _ _ _ _ _ hv6) rfl rfl (by decide) rfl ⟨by decide, by decide, Nat.le_of_eq (Nat.zero_add _), Nat.le_of_eq (Nat.zero_add _), Nat.le_of_ble_eq_true rfl⟩ ⟨dX8_blockers_42, rfl⟩ ?_
    clear hv6
    obtain rfl := Option.some.inj h
    exact Ev.ireturn (ty := .int) ⟨dX8_blockers_45, rfl⟩ rfl rfl ⟨rfl, rfl⟩
  · replace h := (if_neg hc).symm.trans h; clear hc
    refine Ev.iconst ⟨dX8_blockers_34, rfl⟩ (inRd rfl) ?_
    refine Ev.goto jX8_blockers_35 ?_
    obtain rfl := Option.some.inj h
    exact Ev.ireturn (ty := .int) ⟨dX8_blockers_45, rfl⟩ rfl rfl ⟨rfl, rfl⟩

def F_X8_blockers_26 (z : Nat) (v0 : Nat) (v1 : Int) (v2 : Int) (v3 : Int) (u0 : Nat) (x : Mm) : Option (Int × Mm) := F_X8_blockers_27 z (v0) (v1) (v2) (v3) ((0 : Int)) (u0) x
set_option maxHeartbeats 4000000 in
set_option maxRecDepth 20000 in
theorem e_X8_blockers_26 (Θ : GC) (D : Nat → Nat → Prop) (z : Nat) (v0 : Nat) (v1 : Int) (v2 : Int) (v3 : Int) (u0 : Nat) (x : Mm) (y) (h : F_X8_blockers_26 z v0 v1 v2 v3 u0 x = some y) : Ev Θ mX8_blockers 3 73 0 0 26 [(0, vr 8 (v0 + 1)), (1, vi (v1)), (2, vi (v2)), (3, vi (v3))] [vr 8 (u0 + 1)] (hq D x) (Ret (vi y.1) (hq D y.2)) := by
  unfold F_X8_blockers_26 at h
  refine Ev.iconst ⟨dX8_blockers_26, rfl⟩ (inRd rfl) ?_
  exact e_X8_blockers_27 Θ D z _ _ _ _ _ _ _ _ h
def F_X8_blockers (z : Nat) (v0 : Nat) (v1 : Int) (v2 : Int) (v3 : Int) (x : Mm) : Option (Int × Mm) := (some (wI x 8 v0 0 ((0 : Int)))).bind fun x1 => (F_X8_isClient z (v0) (v1) x1).bind fun r3 => if r3 = 0 then (F_X8_blockers_26 z (v0) (v1) (v2) (v3) (v0) x1) else ((F_X8_isNode z (v0) (v2) x1).bind fun r9 => if r9 = 0 then (F_X8_blockers_26 z (v0) (v1) (v2) (v3) (v0) x1) else (F_X8_blockers_27 z (v0) (v1) (v2) (v3) ((1 : Int)) (v0) x1))
set_option maxHeartbeats 4000000 in
set_option maxRecDepth 20000 in
theorem c_X8_blockers (Θ : GC) (D : Nat → Nat → Prop) (z : Nat) (v0 : Nat) (v1 : Int) (v2 : Int) (v3 : Int) (x : Mm) (y) (h : F_X8_blockers z v0 v1 v2 v3 x = some y) : Cal Θ mX8_blockers 3 73 0 0 [vr 8 (v0 + 1), vi (v1), vi (v2), vi (v3)] (hq D x) (Ret (vi y.1) (hq D y.2)) := by
  refine Cal.of (by decide +kernel) rfl rfl (Nat.le_of_ble_eq_true rfl) ?_
  show Ev Θ mX8_blockers 3 73 0 0 0 [(0, vr 8 (v0 + 1)), (1, vi (v1)), (2, vi (v2)), (3, vi (v3))] [] (hq D x) (Ret (vi y.1) (hq D y.2))
  unfold F_X8_blockers at h
  refine Ev.aload_n (q := 0) ⟨dX8_blockers_0, rfl⟩ rfl rfl ?_
  refine Ev.iconst ⟨dX8_blockers_1, rfl⟩ (inRd rfl) ?_
  obtain ⟨x1, ex, h⟩ := bnd_s h
  refine Ev.putI fX8_38 ⟨dX8_blockers_2, rfl⟩ ?_
  refine Ev.cast ?_ rfl rfl (hqI ex)
  clear ex
  refine Ev.aload_n (q := 0) ⟨dX8_blockers_5, rfl⟩ rfl rfl ?_
  refine Ev.aload_n (q := 0) ⟨dX8_blockers_6, rfl⟩ rfl rfl ?_
  refine Ev.iload_n (q := 1) ⟨dX8_blockers_7, rfl⟩ rfl rfl ?_
  obtain ⟨r3, hv2, h⟩ := bnd_s h
  refine Ev.callV1 (mc1 := 0) (ms1 := 0) (v := vi r3) (h1 := hq D x1) vX8_188 (c_X8_isClient Θ D z _ _ _ _ hv2) rfl rfl (by decide) rfl ⟨by decide, by decide, Nat.le_of_eq (Nat.zero_add _), Nat.le_of_eq (Nat.zero_add _), Nat.le_of_ble_eq_true rfl⟩ ⟨dX8_blockers_8, rfl⟩ ?_
  clear hv2
  refine Ev.if_eq jX8_blockers_11 (fun hc => ?_) (fun hc => ?_)
  · replace h := (if_pos hc).symm.trans h; clear hc
    exact e_X8_blockers_26 Θ D z _ _ _ _ _ _ _ h
  · replace h := (if_neg hc).symm.trans h; clear hc
    refine Ev.aload_n (q := 0) ⟨dX8_blockers_14, rfl⟩ rfl rfl ?_
    refine Ev.iload_n (q := 2) ⟨dX8_blockers_15, rfl⟩ rfl rfl ?_
    obtain ⟨r9, hv8, h⟩ := bnd_s h
    refine Ev.callV1 (mc1 := 0) (ms1 := 0) (v := vi r9) (h1 := hq D x1) vX8_191 (c_X8_isNode Θ D z _ _ _ _ hv8) rfl rfl (by decide) rfl ⟨by decide, by decide, Nat.le_of_eq (Nat.zero_add _), Nat.le_of_eq (Nat.zero_add _), Nat.le_of_ble_eq_true rfl⟩ ⟨dX8_blockers_16, rfl⟩ ?_
    clear hv8
    refine Ev.if_eq jX8_blockers_19 (fun hc => ?_) (fun hc => ?_)
    · replace h := (if_pos hc).symm.trans h; clear hc
      exact e_X8_blockers_26 Θ D z _ _ _ _ _ _ _ h
    · replace h := (if_neg hc).symm.trans h; clear hc
      refine Ev.iconst ⟨dX8_blockers_22, rfl⟩ (inRd rfl) ?_
      refine Ev.goto jX8_blockers_23 ?_
      exact e_X8_blockers_27 Θ D z _ _ _ _ _ _ _ _ h

def F_X8_nextEnd_11 (z : Nat) (v0 : Nat) (x : Mm) : Nat → Int → Int → Option (Int)
  | 0, _, _ => none
  | k + 1, v1, v2 => ckI (2 : Int) 5366 <| if (x.1 27 0 ((2 : Int)).toNat) ≤ v2 then (some (v1)) else ((F_X8_hasLease z (v0) (v2) x).bind fun r4 => if r4 = 0 then (ckR ((v2 + 1)) <| F_X8_nextEnd_11 z v0 x k (v1) ((v2 + 1))) else (ckR (((3 : Int) * v2)) <| ckR (((611 : Int) + ((3 : Int) * v2))) <| ckR ((((611 : Int) + ((3 : Int) * v2)) + (1 : Int))) <| ckI (((611 : Int) + ((3 : Int) * v2)) + (1 : Int)) 5366 <| ckR ((v2 + 1)) <| F_X8_nextEnd_11 z v0 x k ((min v1 (x.1 27 0 ((((611 : Int) + ((3 : Int) * v2)) + (1 : Int))).toNat))) ((v2 + 1))))
set_option maxHeartbeats 4000000 in
set_option maxRecDepth 20000 in
theorem e_X8_nextEnd_11 (Θ : GC) (D : Nat → Nat → Prop) (z : Nat) (v0 : Nat) (x : Mm) (Q : Ro → Hp → Prop) (mc ms : Nat) : ∀ (k : Nat) (v1 : Int) (v2 : Int) (y), F_X8_nextEnd_11 z v0 x k v1 v2 = some y → (Ev Θ mX8_nextEnd 1 23 mc ms 58 [(0, vr 8 (v0 + 1)), (1, vi (y))] [] (hq D x) Q) → Ev Θ mX8_nextEnd 1 23 mc ms 11 [(0, vr 8 (v0 + 1)), (1, vi (v1)), (2, vi (v2))] [] (hq D x) Q := by
  intro k
  induction k with
  | zero => intro v1 v2 y h; exact absurd h (by unfold F_X8_nextEnd_11; exact nofun)
  | succ k ih =>
    intro v1 v2 y h k1
    unfold F_X8_nextEnd_11 at h
    refine Ev.iload_n (q := 2) ⟨dX8_nextEnd_11, rfl⟩ rfl rfl ?_
    refine Ev.aload_n (q := 0) ⟨dX8_nextEnd_12, rfl⟩ rfl rfl ?_
    refine Ev.getRk (C2 := 27) (r := 0) fX8_13 rfl (by decide) (by decide) ⟨dX8_nextEnd_13, rfl⟩ ?_
    refine Ev.iconst ⟨dX8_nextEnd_16, rfl⟩ (inRd rfl) ?_
    obtain ⟨c2, h⟩ := ckI_s h
    refine Ev.iaload (by decide) c2.1 c2.2 ⟨dX8_nextEnd_17, rfl⟩ ?_
    refine Ev.icmp_ge jX8_nextEnd_18 (fun hc => ?_) (fun hc => ?_)
    · replace h := (if_pos hc).symm.trans h; clear hc
      refine Ev.keep [0, 1] rfl ?_
      obtain rfl := Option.some.inj h
      exact k1
    · replace h := (if_neg hc).symm.trans h; clear hc
      refine Ev.aload_n (q := 0) ⟨dX8_nextEnd_21, rfl⟩ rfl rfl ?_
      refine Ev.iload_n (q := 2) ⟨dX8_nextEnd_22, rfl⟩ rfl rfl ?_
      obtain ⟨r4, hv3, h⟩ := bnd_s h
      refine Ev.callV1 (mc1 := mc) (ms1 := ms) (v := vi r4) (h1 := hq D x) vX8_177 (c_X8_hasLease Θ D z _ _ _ _ hv3) rfl rfl (by decide) rfl ⟨by decide, by decide, Nat.le_of_eq (Nat.zero_add _), Nat.le_of_eq (Nat.zero_add _), Nat.le_of_ble_eq_true rfl⟩ ⟨dX8_nextEnd_23, rfl⟩ ?_
      clear hv3
      refine Ev.if_eq jX8_nextEnd_26 (fun hc => ?_) (fun hc => ?_)
      · replace h := (if_pos hc).symm.trans h; clear hc
        refine Ev.iload_n (q := 1) ⟨dX8_nextEnd_50, rfl⟩ rfl rfl ?_
        refine Ev.istore_n (i := 1) (ls' := [(0, _), (1, _), (2, _)]) ⟨dX8_nextEnd_51, rfl⟩ rfl (by decide) rfl ?_
        obtain ⟨c5, h⟩ := ckR_s h
        refine Ev.iinc (q := 2) (ls' := [(0, _), (1, _), (2, _)]) ⟨dX8_nextEnd_52, rfl⟩ rfl (by decide) c5 rfl ?_
        refine Ev.goto jX8_nextEnd_55 ?_
        exact ih _ _ _ h k1
      · replace h := (if_neg hc).symm.trans h; clear hc
        refine Ev.iload_n (q := 1) ⟨dX8_nextEnd_29, rfl⟩ rfl rfl ?_
        refine Ev.aload_n (q := 0) ⟨dX8_nextEnd_30, rfl⟩ rfl rfl ?_
        refine Ev.getRk (C2 := 27) (r := 0) fX8_13 rfl (by decide) (by decide) ⟨dX8_nextEnd_31, rfl⟩ ?_
        refine Ev.sipush ⟨dX8_nextEnd_34, rfl⟩ (inRd rfl) (by decide) ?_
        refine Ev.iconst ⟨dX8_nextEnd_37, rfl⟩ (inRd rfl) ?_
        refine Ev.iload_n (q := 2) ⟨dX8_nextEnd_38, rfl⟩ rfl rfl ?_
        obtain ⟨c6, h⟩ := ckR_s h
        refine Ev.imul ⟨dX8_nextEnd_39, rfl⟩ c6 ?_
        obtain ⟨c7, h⟩ := ckR_s h
        refine Ev.iadd ⟨dX8_nextEnd_40, rfl⟩ c7 ?_
        refine Ev.iconst ⟨dX8_nextEnd_41, rfl⟩ (inRd rfl) ?_
        obtain ⟨c8, h⟩ := ckR_s h
        refine Ev.iadd ⟨dX8_nextEnd_42, rfl⟩ c8 ?_
        obtain ⟨c9, h⟩ := ckI_s h
        refine Ev.iaload (by decide) c9.1 c9.2 ⟨dX8_nextEnd_43, rfl⟩ ?_
        refine Ev.mmin qX8_81 (by decide) (Nat.le_of_ble_eq_true rfl) ⟨dX8_nextEnd_44, rfl⟩ ?_
        refine Ev.goto jX8_nextEnd_47 ?_
        refine Ev.istore_n (i := 1) (ls' := [(0, _), (1, _), (2, _)]) ⟨dX8_nextEnd_51, rfl⟩ rfl (by decide) rfl ?_
        obtain ⟨c10, h⟩ := ckR_s h
        refine Ev.iinc (q := 2) (ls' := [(0, _), (1, _), (2, _)]) ⟨dX8_nextEnd_52, rfl⟩ rfl (by decide) c10 rfl ?_
        refine Ev.goto jX8_nextEnd_55 ?_
        exact ih _ _ _ h k1
def F_X8_nextEnd (z : Nat) (v0 : Nat) (x : Mm) : Option (Int × Mm) := (some (wI x 8 v0 0 ((0 : Int)))).bind fun x1 => (F_X8_nextEnd_11 z (v0) x1 z ((2147483647 : Int)) ((0 : Int))).bind fun s11 => if s11 = (2147483647 : Int) then ((F_X8_fails z (v0) ((0 : Int)) ((1 : Int)) x1).bind fun r13 => if r13.1 = 0 then (some ((s11, r13.2))) else (some (((0 : Int), r13.2)))) else ((F_X8_fails z (v0) ((1 : Int)) ((1 : Int)) x1).bind fun r15 => if r15.1 = 0 then (some ((s11, r15.2))) else (some (((0 : Int), r15.2))))
set_option maxHeartbeats 4000000 in
set_option maxRecDepth 20000 in
theorem c_X8_nextEnd (Θ : GC) (D : Nat → Nat → Prop) (z : Nat) (v0 : Nat) (x : Mm) (y) (h : F_X8_nextEnd z v0 x = some y) : Cal Θ mX8_nextEnd 1 23 0 0 [vr 8 (v0 + 1)] (hq D x) (Ret (vi y.1) (hq D y.2)) := by
  refine Cal.of (by decide +kernel) rfl rfl (Nat.le_of_ble_eq_true rfl) ?_
  show Ev Θ mX8_nextEnd 1 23 0 0 0 [(0, vr 8 (v0 + 1))] [] (hq D x) (Ret (vi y.1) (hq D y.2))
  unfold F_X8_nextEnd at h
  refine Ev.aload_n (q := 0) ⟨dX8_nextEnd_0, rfl⟩ rfl rfl ?_
  refine Ev.iconst ⟨dX8_nextEnd_1, rfl⟩ (inRd rfl) ?_
  obtain ⟨x1, ex, h⟩ := bnd_s h
  refine Ev.putI fX8_38 ⟨dX8_nextEnd_2, rfl⟩ ?_
  refine Ev.cast ?_ rfl rfl (hqI ex)
  clear ex
  refine Ev.ldc_w (n := 2147483647) ⟨dX8_nextEnd_5, rfl⟩ (inRd rfl) wX8_301 ?_
  refine Ev.istore_n (i := 1) (ls' := [(0, _), (1, _)]) ⟨dX8_nextEnd_8, rfl⟩ rfl (by decide) rfl ?_
  refine Ev.iconst ⟨dX8_nextEnd_9, rfl⟩ (inRd rfl) ?_
  refine Ev.istore_n (i := 2) (ls' := [(0, _), (1, _), (2, _)]) ⟨dX8_nextEnd_10, rfl⟩ rfl (by decide) rfl ?_
  obtain ⟨s11, hl, h⟩ := bnd_s h
  refine e_X8_nextEnd_11 Θ D z _ _ _ _ _ _ _ _ _ hl ?_
  clear hl
  refine Ev.aload_n (q := 0) ⟨dX8_nextEnd_58, rfl⟩ rfl rfl ?_
  refine Ev.iload_n (q := 1) ⟨dX8_nextEnd_59, rfl⟩ rfl rfl ?_
  refine Ev.ldc_w (n := 2147483647) ⟨dX8_nextEnd_60, rfl⟩ (inRd rfl) wX8_301 ?_
  refine Ev.icmp_eq jX8_nextEnd_63 (fun hc => ?_) (fun hc => ?_)
  · replace h := (if_pos hc).symm.trans h; clear hc
    refine Ev.iconst ⟨dX8_nextEnd_70, rfl⟩ (inRd rfl) ?_
    refine Ev.iconst ⟨dX8_nextEnd_71, rfl⟩ (inRd rfl) ?_
    obtain ⟨r13, hv12, h⟩ := bnd_s h
    refine Ev.callV1 (mc1 := 0) (ms1 := 0) (v := vi r13.1) (h1 := hq D r13.2) vX8_49 (c_X8_fails Θ D z _ _ _ _ _ hv12) rfl rfl (by decide) rfl ⟨by decide, by decide, Nat.le_of_eq (Nat.zero_add _), Nat.le_of_eq (Nat.zero_add _), Nat.le_of_ble_eq_true rfl⟩ ⟨dX8_nextEnd_72, rfl⟩ ?_
    clear hv12
    refine Ev.if_eq jX8_nextEnd_75 (fun hc => ?_) (fun hc => ?_)
    · replace h := (if_pos hc).symm.trans h; clear hc
      refine Ev.iload_n (q := 1) ⟨dX8_nextEnd_82, rfl⟩ rfl rfl ?_
      obtain rfl := Option.some.inj h
      exact Ev.ireturn (ty := .int) ⟨dX8_nextEnd_83, rfl⟩ rfl rfl ⟨rfl, rfl⟩
    · replace h := (if_neg hc).symm.trans h; clear hc
      refine Ev.iconst ⟨dX8_nextEnd_78, rfl⟩ (inRd rfl) ?_
      refine Ev.goto jX8_nextEnd_79 ?_
      obtain rfl := Option.some.inj h
      exact Ev.ireturn (ty := .int) ⟨dX8_nextEnd_83, rfl⟩ rfl rfl ⟨rfl, rfl⟩
  · replace h := (if_neg hc).symm.trans h; clear hc
    refine Ev.iconst ⟨dX8_nextEnd_66, rfl⟩ (inRd rfl) ?_
    refine Ev.goto jX8_nextEnd_67 ?_
    refine Ev.iconst ⟨dX8_nextEnd_71, rfl⟩ (inRd rfl) ?_
    obtain ⟨r15, hv14, h⟩ := bnd_s h
    refine Ev.callV1 (mc1 := 0) (ms1 := 0) (v := vi r15.1) (h1 := hq D r15.2) vX8_49 (c_X8_fails Θ D z _ _ _ _ _ hv14) rfl rfl (by decide) rfl ⟨by decide, by decide, Nat.le_of_eq (Nat.zero_add _), Nat.le_of_eq (Nat.zero_add _), Nat.le_of_ble_eq_true rfl⟩ ⟨dX8_nextEnd_72, rfl⟩ ?_
    clear hv14
    refine Ev.if_eq jX8_nextEnd_75 (fun hc => ?_) (fun hc => ?_)
    · replace h := (if_pos hc).symm.trans h; clear hc
      refine Ev.iload_n (q := 1) ⟨dX8_nextEnd_82, rfl⟩ rfl rfl ?_
      obtain rfl := Option.some.inj h
      exact Ev.ireturn (ty := .int) ⟨dX8_nextEnd_83, rfl⟩ rfl rfl ⟨rfl, rfl⟩
    · replace h := (if_neg hc).symm.trans h; clear hc
      refine Ev.iconst ⟨dX8_nextEnd_78, rfl⟩ (inRd rfl) ?_
      refine Ev.goto jX8_nextEnd_79 ?_
      obtain rfl := Option.some.inj h
      exact Ev.ireturn (ty := .int) ⟨dX8_nextEnd_83, rfl⟩ rfl rfl ⟨rfl, rfl⟩

def F_X8_isInCopy_27 (z : Nat) (v0 : Nat) (v1 : Int) (v2 : Int) (u0 : Int) (u1 : Nat) (x : Mm) : Option (Int × Mm) := (F_X8_fails z (u1) (u0) ((1 : Int)) x).bind fun r5 => if r5.1 = 0 then ((F_X8_hasLease z (v0) (v1) r5.2).bind fun r7 => (F_X8_fails z (v0) (r7) ((2 : Int)) r5.2).bind fun r9 => if r9.1 = 0 then ((F_X8_is z (v0) (v1) ((60 : Int)) (v2) r9.2).bind fun r11 => if r11 = 0 then (some (((0 : Int), r9.2))) else (some (((1 : Int), r9.2)))) else (some (((0 : Int), r9.2)))) else (some (((0 : Int), r5.2)))
set_option maxHeartbeats 4000000 in
set_option maxRecDepth 20000 in
theorem e_X8_isInCopy_27 (Θ : GC) (D : Nat → Nat → Prop) (z : Nat) (v0 : Nat) (v1 : Int) (v2 : Int) (u0 : Int) (u1 : Nat) (x : Mm) (y) (h : F_X8_isInCopy_27 z v0 v1 v2 u0 u1 x = some y) : Ev Θ mX8_isInCopy 2 45 0 0 27 [(0, vr 8 (v0 + 1)), (1, vi (v1)), (2, vi (v2))] [vi (u0), vr 8 (u1 + 1)] (hq D x) (Ret (vi y.1) (hq D y.2)) := by
  unfold F_X8_isInCopy_27 at h
  refine Ev.iconst ⟨dX8_isInCopy_27, rfl⟩ (inRd rfl) ?_
  obtain ⟨r5, hv4, h⟩ := bnd_s h
  refine Ev.callV1 (mc1 := 0) (ms1 := 0) (v := vi r5.1) (h1 := hq D r5.2) vX8_49 (c_X8_fails Θ D z _ _ _ _ _ hv4) rfl rfl (by decide) rfl ⟨by decide, by decide, Nat.le_of_eq (Nat.zero_add _), Nat.le_of_eq (Nat.zero_add _), Nat.le_of_ble_eq_true rfl⟩ ⟨dX8_isInCopy_28, rfl⟩ ?_
  clear hv4
  refine Ev.if_ne jX8_isInCopy_31 (fun hc => ?_) (fun hc => ?_)
  · replace h := (if_neg hc).symm.trans h; clear hc
    refine Ev.iconst ⟨dX8_isInCopy_62, rfl⟩ (inRd rfl) ?_
    obtain rfl := Option.some.inj h
    exact Ev.ireturn (ty := .boolean) ⟨dX8_isInCopy_63, rfl⟩ rfl rfl ⟨rfl, rfl⟩
  · replace h := (if_pos hc).symm.trans h; clear hc
    refine Ev.aload_n (q := 0) ⟨dX8_isInCopy_34, rfl⟩ rfl rfl ?_
    refine Ev.aload_n (q := 0) ⟨dX8_isInCopy_35, rfl⟩ rfl rfl ?_
    refine Ev.iload_n (q := 1) ⟨dX8_isInCopy_36, rfl⟩ rfl rfl ?_
    obtain ⟨r7, hv6, h⟩ := bnd_s h
    refine Ev.callV1 (mc1 := 0) (ms1 := 0) (v := vi r7) (h1 := hq D r5.2) vX8_177 (c_X8_hasLease Θ D z _ _ _ _ hv6) rfl rfl (by decide) rfl ⟨by decide, by decide, Nat.le_of_eq (Nat.zero_add _), Nat.le_of_eq (Nat.zero_add _), Nat.le_of_ble_eq_true rfl⟩ ⟨dX8_isInCopy_37, rfl⟩ ?_
    clear hv6
    refine Ev.iconst ⟨dX8_isInCopy_40, rfl⟩ (inRd rfl) ?_
    obtain ⟨r9, hv8, h⟩ := bnd_s h
    refine Ev.callV1 (mc1 := 0) (ms1 := 0) (v := vi r9.1) (h1 := hq D r9.2) vX8_49 (c_X8_fails Θ D z _ _ _ _ _ hv8) rfl rfl (by decide) rfl ⟨by decide, by decide, Nat.le_of_eq (Nat.zero_add _), Nat.le_of_eq (Nat.zero_add _), Nat.le_of_ble_eq_true rfl⟩ ⟨dX8_isInCopy_41, rfl⟩ ?_
    clear hv8
    refine Ev.if_ne jX8_isInCopy_44 (fun hc => ?_) (fun hc => ?_)
    · replace h := (if_neg hc).symm.trans h; clear hc
      refine Ev.iconst ⟨dX8_isInCopy_62, rfl⟩ (inRd rfl) ?_
      obtain rfl := Option.some.inj h
      exact Ev.ireturn (ty := .boolean) ⟨dX8_isInCopy_63, rfl⟩ rfl rfl ⟨rfl, rfl⟩
    · replace h := (if_pos hc).symm.trans h; clear hc
      refine Ev.aload_n (q := 0) ⟨dX8_isInCopy_47, rfl⟩ rfl rfl ?_
      refine Ev.iload_n (q := 1) ⟨dX8_isInCopy_48, rfl⟩ rfl rfl ?_
      refine Ev.bipush ⟨dX8_isInCopy_49, rfl⟩ (inRd rfl) (by decide) ?_
      refine Ev.iload_n (q := 2) ⟨dX8_isInCopy_51, rfl⟩ rfl rfl ?_
      obtain ⟨r11, hv10, h⟩ := bnd_s h
      refine Ev.callV1 (mc1 := 0) (ms1 := 0) (v := vi r11) (h1 := hq D r9.2) vX8_209 (c_X8_is Θ D z _ _ _ _ _ _ hv10) rfl rfl (by decide) rfl ⟨by decide, by decide, Nat.le_of_eq (Nat.zero_add _), Nat.le_of_eq (Nat.zero_add _), Nat.le_of_ble_eq_true rfl⟩ ⟨dX8_isInCopy_52, rfl⟩ ?_
      clear hv10
      refine Ev.if_eq jX8_isInCopy_55 (fun hc => ?_) (fun hc => ?_)
      · replace h := (if_pos hc).symm.trans h; clear hc
        refine Ev.iconst ⟨dX8_isInCopy_62, rfl⟩ (inRd rfl) ?_
        obtain rfl := Option.some.inj h
        exact Ev.ireturn (ty := .boolean) ⟨dX8_isInCopy_63, rfl⟩ rfl rfl ⟨rfl, rfl⟩
      · replace h := (if_neg hc).symm.trans h; clear hc
        refine Ev.iconst ⟨dX8_isInCopy_58, rfl⟩ (inRd rfl) ?_
        refine Ev.goto jX8_isInCopy_59 ?_
        obtain rfl := Option.some.inj h
        exact Ev.ireturn (ty := .boolean) ⟨dX8_isInCopy_63, rfl⟩ rfl rfl ⟨rfl, rfl⟩

def F_X8_isInCopy_26 (z : Nat) (v0 : Nat) (v1 : Int) (v2 : Int) (u0 : Nat) (x : Mm) : Option (Int × Mm) := F_X8_isInCopy_27 z (v0) (v1) (v2) ((0 : Int)) (u0) x
set_option maxHeartbeats 4000000 in
set_option maxRecDepth 20000 in
theorem e_X8_isInCopy_26 (Θ : GC) (D : Nat → Nat → Prop) (z : Nat) (v0 : Nat) (v1 : Int) (v2 : Int) (u0 : Nat) (x : Mm) (y) (h : F_X8_isInCopy_26 z v0 v1 v2 u0 x = some y) : Ev Θ mX8_isInCopy 2 45 0 0 26 [(0, vr 8 (v0 + 1)), (1, vi (v1)), (2, vi (v2))] [vr 8 (u0 + 1)] (hq D x) (Ret (vi y.1) (hq D y.2)) := by
  unfold F_X8_isInCopy_26 at h
  refine Ev.iconst ⟨dX8_isInCopy_26, rfl⟩ (inRd rfl) ?_
  exact e_X8_isInCopy_27 Θ D z _ _ _ _ _ _ _ h
def F_X8_isInCopy (z : Nat) (v0 : Nat) (v1 : Int) (v2 : Int) (x : Mm) : Option (Int × Mm) := (some (wI x 8 v0 0 ((0 : Int)))).bind fun x1 => (F_X8_isClient z (v0) (v1) x1).bind fun r3 => if r3 = 0 then (F_X8_isInCopy_26 z (v0) (v1) (v2) (v0) x1) else ((F_X8_isNode z (v0) (v2) x1).bind fun r13 => if r13 = 0 then (F_X8_isInCopy_26 z (v0) (v1) (v2) (v0) x1) else (F_X8_isInCopy_27 z (v0) (v1) (v2) ((1 : Int)) (v0) x1))
set_option maxHeartbeats 4000000 in
set_option maxRecDepth 20000 in
theorem c_X8_isInCopy (Θ : GC) (D : Nat → Nat → Prop) (z : Nat) (v0 : Nat) (v1 : Int) (v2 : Int) (x : Mm) (y) (h : F_X8_isInCopy z v0 v1 v2 x = some y) : Cal Θ mX8_isInCopy 2 45 0 0 [vr 8 (v0 + 1), vi (v1), vi (v2)] (hq D x) (Ret (vi y.1) (hq D y.2)) := by
  refine Cal.of (by decide +kernel) rfl rfl (Nat.le_of_ble_eq_true rfl) ?_
  show Ev Θ mX8_isInCopy 2 45 0 0 0 [(0, vr 8 (v0 + 1)), (1, vi (v1)), (2, vi (v2))] [] (hq D x) (Ret (vi y.1) (hq D y.2))
  unfold F_X8_isInCopy at h
  refine Ev.aload_n (q := 0) ⟨dX8_isInCopy_0, rfl⟩ rfl rfl ?_
  refine Ev.iconst ⟨dX8_isInCopy_1, rfl⟩ (inRd rfl) ?_
  obtain ⟨x1, ex, h⟩ := bnd_s h
  refine Ev.putI fX8_38 ⟨dX8_isInCopy_2, rfl⟩ ?_
  refine Ev.cast ?_ rfl rfl (hqI ex)
  clear ex
  refine Ev.aload_n (q := 0) ⟨dX8_isInCopy_5, rfl⟩ rfl rfl ?_
  refine Ev.aload_n (q := 0) ⟨dX8_isInCopy_6, rfl⟩ rfl rfl ?_
  refine Ev.iload_n (q := 1) ⟨dX8_isInCopy_7, rfl⟩ rfl rfl ?_
  obtain ⟨r3, hv2, h⟩ := bnd_s h
  refine Ev.callV1 (mc1 := 0) (ms1 := 0) (v := vi r3) (h1 := hq D x1) vX8_188 (c_X8_isClient Θ D z _ _ _ _ hv2) rfl rfl (by decide) rfl ⟨by decide, by decide, Nat.le_of_eq (Nat.zero_add _), Nat.le_of_eq (Nat.zero_add _), Nat.le_of_ble_eq_true rfl⟩ ⟨dX8_isInCopy_8, rfl⟩ ?_
  clear hv2
  refine Ev.if_eq jX8_isInCopy_11 (fun hc => ?_) (fun hc => ?_)
  · replace h := (if_pos hc).symm.trans h; clear hc
    exact e_X8_isInCopy_26 Θ D z _ _ _ _ _ _ h
  · replace h := (if_neg hc).symm.trans h; clear hc
    refine Ev.aload_n (q := 0) ⟨dX8_isInCopy_14, rfl⟩ rfl rfl ?_
    refine Ev.iload_n (q := 2) ⟨dX8_isInCopy_15, rfl⟩ rfl rfl ?_
    obtain ⟨r13, hv12, h⟩ := bnd_s h
    refine Ev.callV1 (mc1 := 0) (ms1 := 0) (v := vi r13) (h1 := hq D x1) vX8_191 (c_X8_isNode Θ D z _ _ _ _ hv12) rfl rfl (by decide) rfl ⟨by decide, by decide, Nat.le_of_eq (Nat.zero_add _), Nat.le_of_eq (Nat.zero_add _), Nat.le_of_ble_eq_true rfl⟩ ⟨dX8_isInCopy_16, rfl⟩ ?_
    clear hv12
    refine Ev.if_eq jX8_isInCopy_19 (fun hc => ?_) (fun hc => ?_)
    · replace h := (if_pos hc).symm.trans h; clear hc
      exact e_X8_isInCopy_26 Θ D z _ _ _ _ _ _ h
    · replace h := (if_neg hc).symm.trans h; clear hc
      refine Ev.iconst ⟨dX8_isInCopy_22, rfl⟩ (inRd rfl) ?_
      refine Ev.goto jX8_isInCopy_23 ?_
      exact e_X8_isInCopy_27 Θ D z _ _ _ _ _ _ _ h

def F_X8_copyField_67 (z : Nat) (v0 : Nat) (v1 : Int) (v2 : Int) (v3 : Int) (u0 : Int) (u1 : Nat) (x : Mm) : Option (Int × Mm) := (F_X8_fails z (u1) (u0) ((2 : Int)) x).bind fun r9 => if r9.1 = 0 then ((F_X8_fresh z (v0) (v1) (v2) (v3) r9.2).bind fun r11 => some ((r11, r9.2))) else (some (((0 : Int), r9.2)))
set_option maxHeartbeats 4000000 in
set_option maxRecDepth 20000 in
theorem e_X8_copyField_67 (Θ : GC) (D : Nat → Nat → Prop) (z : Nat) (v0 : Nat) (v1 : Int) (v2 : Int) (v3 : Int) (u0 : Int) (u1 : Nat) (x : Mm) (y) (h : F_X8_copyField_67 z v0 v1 v2 v3 u0 u1 x = some y) : Ev Θ mX8_copyField 2 45 0 0 67 [(0, vr 8 (v0 + 1)), (1, vi (v1)), (2, vi (v2)), (3, vi (v3))] [vi (u0), vr 8 (u1 + 1)] (hq D x) (Ret (vi y.1) (hq D y.2)) := by
  unfold F_X8_copyField_67 at h
  refine Ev.iconst ⟨dX8_copyField_67, rfl⟩ (inRd rfl) ?_
  obtain ⟨r9, hv8, h⟩ := bnd_s h
  refine Ev.callV1 (mc1 := 0) (ms1 := 0) (v := vi r9.1) (h1 := hq D r9.2) vX8_49 (c_X8_fails Θ D z _ _ _ _ _ hv8) rfl rfl (by decide) rfl ⟨by decide, by decide, Nat.le_of_eq (Nat.zero_add _), Nat.le_of_eq (Nat.zero_add _), Nat.le_of_ble_eq_true rfl⟩ ⟨dX8_copyField_68, rfl⟩ ?_
  clear hv8
  refine Ev.if_eq jX8_copyField_71 (fun hc => ?_) (fun hc => ?_)
  · replace h := (if_pos hc).symm.trans h; clear hc
    refine Ev.aload_n (q := 0) ⟨dX8_copyField_76, rfl⟩ rfl rfl ?_
    refine Ev.iload_n (q := 1) ⟨dX8_copyField_77, rfl⟩ rfl rfl ?_
    refine Ev.iload_n (q := 2) ⟨dX8_copyField_78, rfl⟩ rfl rfl ?_
    refine Ev.iload_n (q := 3) ⟨dX8_copyField_79, rfl⟩ rfl rfl ?_
    obtain ⟨r11, hv10, h⟩ := bnd_s h
    refine Ev.callV1 (mc1 := 0) (ms1 := 0) (v := vi r11) (h1 := hq D r9.2) vX8_212 (c_X8_fresh Θ D z _ _ _ _ _ _ hv10) rfl rfl (by decide) rfl ⟨by decide, by decide, Nat.le_of_eq (Nat.zero_add _), Nat.le_of_eq (Nat.zero_add _), Nat.le_of_ble_eq_true rfl⟩ ⟨dX8_copyField_80, rfl⟩ ?_
    clear hv10
    obtain rfl := Option.some.inj h
    exact Ev.ireturn (ty := .int) ⟨dX8_copyField_83, rfl⟩ rfl rfl ⟨rfl, rfl⟩
  · replace h := (if_neg hc).symm.trans h; clear hc
    refine Ev.iconst ⟨dX8_copyField_74, rfl⟩ (inRd rfl) ?_
    obtain rfl := Option.some.inj h
    exact Ev.ireturn (ty := .int) ⟨dX8_copyField_75, rfl⟩ rfl rfl ⟨rfl, rfl⟩

def F_X8_copyField_66 (z : Nat) (v0 : Nat) (v1 : Int) (v2 : Int) (v3 : Int) (u0 : Nat) (x : Mm) : Option (Int × Mm) := F_X8_copyField_67 z (v0) (v1) (v2) (v3) ((0 : Int)) (u0) x
set_option maxHeartbeats 4000000 in
set_option maxRecDepth 20000 in
theorem e_X8_copyField_66 (Θ : GC) (D : Nat → Nat → Prop) (z : Nat) (v0 : Nat) (v1 : Int) (v2 : Int) (v3 : Int) (u0 : Nat) (x : Mm) (y) (h : F_X8_copyField_66 z v0 v1 v2 v3 u0 x = some y) : Ev Θ mX8_copyField 2 45 0 0 66 [(0, vr 8 (v0 + 1)), (1, vi (v1)), (2, vi (v2)), (3, vi (v3))] [vr 8 (u0 + 1)] (hq D x) (Ret (vi y.1) (hq D y.2)) := by
  unfold F_X8_copyField_66 at h
  refine Ev.iconst ⟨dX8_copyField_66, rfl⟩ (inRd rfl) ?_
  exact e_X8_copyField_67 Θ D z _ _ _ _ _ _ _ _ h

def F_X8_copyField_35 (z : Nat) (v0 : Nat) (v1 : Int) (v2 : Int) (v3 : Int) (u0 : Int) (u1 : Nat) (x : Mm) : Option (Int × Mm) := (F_X8_fails z (u1) (u0) ((1 : Int)) x).bind fun r5 => if r5.1 = 0 then ((F_X8_hasLease z (v0) (v1) r5.2).bind fun r7 => if r7 = 0 then (F_X8_copyField_66 z (v0) (v1) (v2) (v3) (v0) r5.2) else ((F_X8_is z (v0) (v1) ((60 : Int)) (v2) r5.2).bind fun r13 => if r13 = 0 then (F_X8_copyField_66 z (v0) (v1) (v2) (v3) (v0) r5.2) else (F_X8_copyField_67 z (v0) (v1) (v2) (v3) ((1 : Int)) (v0) r5.2))) else (some (((0 : Int), r5.2)))
set_option maxHeartbeats 4000000 in
set_option maxRecDepth 20000 in
theorem e_X8_copyField_35 (Θ : GC) (D : Nat → Nat → Prop) (z : Nat) (v0 : Nat) (v1 : Int) (v2 : Int) (v3 : Int) (u0 : Int) (u1 : Nat) (x : Mm) (y) (h : F_X8_copyField_35 z v0 v1 v2 v3 u0 u1 x = some y) : Ev Θ mX8_copyField 2 45 0 0 35 [(0, vr 8 (v0 + 1)), (1, vi (v1)), (2, vi (v2)), (3, vi (v3))] [vi (u0), vr 8 (u1 + 1)] (hq D x) (Ret (vi y.1) (hq D y.2)) := by
  unfold F_X8_copyField_35 at h
  refine Ev.iconst ⟨dX8_copyField_35, rfl⟩ (inRd rfl) ?_
  obtain ⟨r5, hv4, h⟩ := bnd_s h
  refine Ev.callV1 (mc1 := 0) (ms1 := 0) (v := vi r5.1) (h1 := hq D r5.2) vX8_49 (c_X8_fails Θ D z _ _ _ _ _ hv4) rfl rfl (by decide) rfl ⟨by decide, by decide, Nat.le_of_eq (Nat.zero_add _), Nat.le_of_eq (Nat.zero_add _), Nat.le_of_ble_eq_true rfl⟩ ⟨dX8_copyField_36, rfl⟩ ?_
  clear hv4
  refine Ev.if_ne jX8_copyField_39 (fun hc => ?_) (fun hc => ?_)
  · replace h := (if_neg hc).symm.trans h; clear hc
    refine Ev.iconst ⟨dX8_copyField_74, rfl⟩ (inRd rfl) ?_
    obtain rfl := Option.some.inj h
    exact Ev.ireturn (ty := .int) ⟨dX8_copyField_75, rfl⟩ rfl rfl ⟨rfl, rfl⟩
  · replace h := (if_pos hc).symm.trans h; clear hc
    refine Ev.aload_n (q := 0) ⟨dX8_copyField_42, rfl⟩ rfl rfl ?_
    refine Ev.aload_n (q := 0) ⟨dX8_copyField_43, rfl⟩ rfl rfl ?_
    refine Ev.iload_n (q := 1) ⟨dX8_copyField_44, rfl⟩ rfl rfl ?_
    obtain ⟨r7, hv6, h⟩ := bnd_s h
    refine Ev.callV1 (mc1 := 0) (ms1 := 0) (v := vi r7) (h1 := hq D r5.2) vX8_177 (c_X8_hasLease Θ D z _ _ _ _ hv6) rfl rfl (by decide) rfl ⟨by decide, by decide, Nat.le_of_eq (Nat.zero_add _), Nat.le_of_eq (Nat.zero_add _), Nat.le_of_ble_eq_true rfl⟩ ⟨dX8_copyField_45, rfl⟩ ?_
    clear hv6
    refine Ev.if_eq jX8_copyField_48 (fun hc => ?_) (fun hc => ?_)
    · replace h := (if_pos hc).symm.trans h; clear hc
      exact e_X8_copyField_66 Θ D z _ _ _ _ _ _ _ h
    · replace h := (if_neg hc).symm.trans h; clear hc
      refine Ev.aload_n (q := 0) ⟨dX8_copyField_51, rfl⟩ rfl rfl ?_
      refine Ev.iload_n (q := 1) ⟨dX8_copyField_52, rfl⟩ rfl rfl ?_
      refine Ev.bipush ⟨dX8_copyField_53, rfl⟩ (inRd rfl) (by decide) ?_
      refine Ev.iload_n (q := 2) ⟨dX8_copyField_55, rfl⟩ rfl rfl ?_
      obtain ⟨r13, hv12, h⟩ := bnd_s h
      refine Ev.callV1 (mc1 := 0) (ms1 := 0) (v := vi r13) (h1 := hq D r5.2) vX8_209 (c_X8_is Θ D z _ _ _ _ _ _ hv12) rfl rfl (by decide) rfl ⟨by decide, by decide, Nat.le_of_eq (Nat.zero_add _), Nat.le_of_eq (Nat.zero_add _), Nat.le_of_ble_eq_true rfl⟩ ⟨dX8_copyField_56, rfl⟩ ?_
      clear hv12
      refine Ev.if_eq jX8_copyField_59 (fun hc => ?_) (fun hc => ?_)
      · replace h := (if_pos hc).symm.trans h; clear hc
        exact e_X8_copyField_66 Θ D z _ _ _ _ _ _ _ h
      · replace h := (if_neg hc).symm.trans h; clear hc
        refine Ev.iconst ⟨dX8_copyField_62, rfl⟩ (inRd rfl) ?_
        refine Ev.goto jX8_copyField_63 ?_
        exact e_X8_copyField_67 Θ D z _ _ _ _ _ _ _ _ h

def F_X8_copyField_34 (z : Nat) (v0 : Nat) (v1 : Int) (v2 : Int) (v3 : Int) (u0 : Nat) (x : Mm) : Option (Int × Mm) := F_X8_copyField_35 z (v0) (v1) (v2) (v3) ((0 : Int)) (u0) x
set_option maxHeartbeats 4000000 in
set_option maxRecDepth 20000 in
theorem e_X8_copyField_34 (Θ : GC) (D : Nat → Nat → Prop) (z : Nat) (v0 : Nat) (v1 : Int) (v2 : Int) (v3 : Int) (u0 : Nat) (x : Mm) (y) (h : F_X8_copyField_34 z v0 v1 v2 v3 u0 x = some y) : Ev Θ mX8_copyField 2 45 0 0 34 [(0, vr 8 (v0 + 1)), (1, vi (v1)), (2, vi (v2)), (3, vi (v3))] [vr 8 (u0 + 1)] (hq D x) (Ret (vi y.1) (hq D y.2)) := by
  unfold F_X8_copyField_34 at h
  refine Ev.iconst ⟨dX8_copyField_34, rfl⟩ (inRd rfl) ?_
  exact e_X8_copyField_35 Θ D z _ _ _ _ _ _ _ _ h
def F_X8_copyField (z : Nat) (v0 : Nat) (v1 : Int) (v2 : Int) (v3 : Int) (x : Mm) : Option (Int × Mm) := (some (wI x 8 v0 0 ((0 : Int)))).bind fun x1 => (F_X8_isClient z (v0) (v1) x1).bind fun r3 => if r3 = 0 then (F_X8_copyField_34 z (v0) (v1) (v2) (v3) (v0) x1) else ((F_X8_isNode z (v0) (v2) x1).bind fun r15 => if r15 = 0 then (F_X8_copyField_34 z (v0) (v1) (v2) (v3) (v0) x1) else ((F_X8_isField z (v0) (v3) x1).bind fun r17 => if r17 = 0 then (F_X8_copyField_34 z (v0) (v1) (v2) (v3) (v0) x1) else (F_X8_copyField_35 z (v0) (v1) (v2) (v3) ((1 : Int)) (v0) x1)))
set_option maxHeartbeats 4000000 in
set_option maxRecDepth 20000 in
theorem c_X8_copyField (Θ : GC) (D : Nat → Nat → Prop) (z : Nat) (v0 : Nat) (v1 : Int) (v2 : Int) (v3 : Int) (x : Mm) (y) (h : F_X8_copyField z v0 v1 v2 v3 x = some y) : Cal Θ mX8_copyField 2 45 0 0 [vr 8 (v0 + 1), vi (v1), vi (v2), vi (v3)] (hq D x) (Ret (vi y.1) (hq D y.2)) := by
  refine Cal.of (by decide +kernel) rfl rfl (Nat.le_of_ble_eq_true rfl) ?_
  show Ev Θ mX8_copyField 2 45 0 0 0 [(0, vr 8 (v0 + 1)), (1, vi (v1)), (2, vi (v2)), (3, vi (v3))] [] (hq D x) (Ret (vi y.1) (hq D y.2))
  unfold F_X8_copyField at h
  refine Ev.aload_n (q := 0) ⟨dX8_copyField_0, rfl⟩ rfl rfl ?_
  refine Ev.iconst ⟨dX8_copyField_1, rfl⟩ (inRd rfl) ?_
  obtain ⟨x1, ex, h⟩ := bnd_s h
  refine Ev.putI fX8_38 ⟨dX8_copyField_2, rfl⟩ ?_
  refine Ev.cast ?_ rfl rfl (hqI ex)
  clear ex
  refine Ev.aload_n (q := 0) ⟨dX8_copyField_5, rfl⟩ rfl rfl ?_
  refine Ev.aload_n (q := 0) ⟨dX8_copyField_6, rfl⟩ rfl rfl ?_
  refine Ev.iload_n (q := 1) ⟨dX8_copyField_7, rfl⟩ rfl rfl ?_
  obtain ⟨r3, hv2, h⟩ := bnd_s h
  refine Ev.callV1 (mc1 := 0) (ms1 := 0) (v := vi r3) (h1 := hq D x1) vX8_188 (c_X8_isClient Θ D z _ _ _ _ hv2) rfl rfl (by decide) rfl ⟨by decide, by decide, Nat.le_of_eq (Nat.zero_add _), Nat.le_of_eq (Nat.zero_add _), Nat.le_of_ble_eq_true rfl⟩ ⟨dX8_copyField_8, rfl⟩ ?_
  clear hv2
  refine Ev.if_eq jX8_copyField_11 (fun hc => ?_) (fun hc => ?_)
  · replace h := (if_pos hc).symm.trans h; clear hc
    exact e_X8_copyField_34 Θ D z _ _ _ _ _ _ _ h
  · replace h := (if_neg hc).symm.trans h; clear hc
    refine Ev.aload_n (q := 0) ⟨dX8_copyField_14, rfl⟩ rfl rfl ?_
    refine Ev.iload_n (q := 2) ⟨dX8_copyField_15, rfl⟩ rfl rfl ?_
    obtain ⟨r15, hv14, h⟩ := bnd_s h
    refine Ev.callV1 (mc1 := 0) (ms1 := 0) (v := vi r15) (h1 := hq D x1) vX8_191 (c_X8_isNode Θ D z _ _ _ _ hv14) rfl rfl (by decide) rfl ⟨by decide, by decide, Nat.le_of_eq (Nat.zero_add _), Nat.le_of_eq (Nat.zero_add _), Nat.le_of_ble_eq_true rfl⟩ ⟨dX8_copyField_16, rfl⟩ ?_
    clear hv14
    refine Ev.if_eq jX8_copyField_19 (fun hc => ?_) (fun hc => ?_)
    · replace h := (if_pos hc).symm.trans h; clear hc
      exact e_X8_copyField_34 Θ D z _ _ _ _ _ _ _ h
    · replace h := (if_neg hc).symm.trans h; clear hc
      refine Ev.aload_n (q := 0) ⟨dX8_copyField_22, rfl⟩ rfl rfl ?_
      refine Ev.iload_n (q := 3) ⟨dX8_copyField_23, rfl⟩ rfl rfl ?_
      obtain ⟨r17, hv16, h⟩ := bnd_s h
      refine Ev.callV1 (mc1 := 0) (ms1 := 0) (v := vi r17) (h1 := hq D x1) vX8_205 (c_X8_isField Θ D z _ _ _ _ hv16) rfl rfl (by decide) rfl ⟨by decide, by decide, Nat.le_of_eq (Nat.zero_add _), Nat.le_of_eq (Nat.zero_add _), Nat.le_of_ble_eq_true rfl⟩ ⟨dX8_copyField_24, rfl⟩ ?_
      clear hv16
      refine Ev.if_eq jX8_copyField_27 (fun hc => ?_) (fun hc => ?_)
      · replace h := (if_pos hc).symm.trans h; clear hc
        exact e_X8_copyField_34 Θ D z _ _ _ _ _ _ _ h
      · replace h := (if_neg hc).symm.trans h; clear hc
        refine Ev.iconst ⟨dX8_copyField_30, rfl⟩ (inRd rfl) ?_
        refine Ev.goto jX8_copyField_31 ?_
        exact e_X8_copyField_35 Θ D z _ _ _ _ _ _ _ _ h

def F_X8_changedCount (z : Nat) (v0 : Nat) (v1 : Int) (x : Mm) : Option (Int × Mm) := (some (wI x 8 v0 0 ((0 : Int)))).bind fun x1 => (F_X8_isClient z (v0) (v1) x1).bind fun r3 => (F_X8_fails z (v0) (r3) ((1 : Int)) x1).bind fun r5 => if r5.1 = 0 then ((F_X8_hasLease z (v0) (v1) r5.2).bind fun r7 => (F_X8_fails z (v0) (r7) ((2 : Int)) r5.2).bind fun r9 => if r9.1 = 0 then ((F_X8_allChanges z (v0) (v1) r9.2).bind fun r11 => some ((r11, r9.2))) else (some (((0 : Int), r9.2)))) else (some (((0 : Int), r5.2)))
set_option maxHeartbeats 4000000 in
set_option maxRecDepth 20000 in
theorem c_X8_changedCount (Θ : GC) (D : Nat → Nat → Prop) (z : Nat) (v0 : Nat) (v1 : Int) (x : Mm) (y) (h : F_X8_changedCount z v0 v1 x = some y) : Cal Θ mX8_changedCount 5 115 0 0 [vr 8 (v0 + 1), vi (v1)] (hq D x) (Ret (vi y.1) (hq D y.2)) := by
  refine Cal.of (by decide +kernel) rfl rfl (Nat.le_of_ble_eq_true rfl) ?_
  show Ev Θ mX8_changedCount 5 115 0 0 0 [(0, vr 8 (v0 + 1)), (1, vi (v1))] [] (hq D x) (Ret (vi y.1) (hq D y.2))
  unfold F_X8_changedCount at h
  refine Ev.aload_n (q := 0) ⟨dX8_changedCount_0, rfl⟩ rfl rfl ?_
  refine Ev.iconst ⟨dX8_changedCount_1, rfl⟩ (inRd rfl) ?_
  obtain ⟨x1, ex, h⟩ := bnd_s h
  refine Ev.putI fX8_38 ⟨dX8_changedCount_2, rfl⟩ ?_
  refine Ev.cast ?_ rfl rfl (hqI ex)
  clear ex
  refine Ev.aload_n (q := 0) ⟨dX8_changedCount_5, rfl⟩ rfl rfl ?_
  refine Ev.aload_n (q := 0) ⟨dX8_changedCount_6, rfl⟩ rfl rfl ?_
  refine Ev.iload_n (q := 1) ⟨dX8_changedCount_7, rfl⟩ rfl rfl ?_
  obtain ⟨r3, hv2, h⟩ := bnd_s h
  refine Ev.callV1 (mc1 := 0) (ms1 := 0) (v := vi r3) (h1 := hq D x1) vX8_188 (c_X8_isClient Θ D z _ _ _ _ hv2) rfl rfl (by decide) rfl ⟨by decide, by decide, Nat.le_of_eq (Nat.zero_add _), Nat.le_of_eq (Nat.zero_add _), Nat.le_of_ble_eq_true rfl⟩ ⟨dX8_changedCount_8, rfl⟩ ?_
  clear hv2
  refine Ev.iconst ⟨dX8_changedCount_11, rfl⟩ (inRd rfl) ?_
  obtain ⟨r5, hv4, h⟩ := bnd_s h
  refine Ev.callV1 (mc1 := 0) (ms1 := 0) (v := vi r5.1) (h1 := hq D r5.2) vX8_49 (c_X8_fails Θ D z _ _ _ _ _ hv4) rfl rfl (by decide) rfl ⟨by decide, by decide, Nat.le_of_eq (Nat.zero_add _), Nat.le_of_eq (Nat.zero_add _), Nat.le_of_ble_eq_true rfl⟩ ⟨dX8_changedCount_12, rfl⟩ ?_
  clear hv4
  refine Ev.if_ne jX8_changedCount_15 (fun hc => ?_) (fun hc => ?_)
  · replace h := (if_neg hc).symm.trans h; clear hc
    refine Ev.iconst ⟨dX8_changedCount_31, rfl⟩ (inRd rfl) ?_
    refine Ev.goto jX8_changedCount_32 ?_
    obtain rfl := Option.some.inj h
    exact Ev.ireturn (ty := .int) ⟨dX8_changedCount_40, rfl⟩ rfl rfl ⟨rfl, rfl⟩
  · replace h := (if_pos hc).symm.trans h; clear hc
    refine Ev.aload_n (q := 0) ⟨dX8_changedCount_18, rfl⟩ rfl rfl ?_
    refine Ev.aload_n (q := 0) ⟨dX8_changedCount_19, rfl⟩ rfl rfl ?_
    refine Ev.iload_n (q := 1) ⟨dX8_changedCount_20, rfl⟩ rfl rfl ?_
    obtain ⟨r7, hv6, h⟩ := bnd_s h
    refine Ev.callV1 (mc1 := 0) (ms1 := 0) (v := vi r7) (h1 := hq D r5.2) vX8_177 (c_X8_hasLease Θ D z _ _ _ _ hv6) rfl rfl (by decide) rfl ⟨by decide, by decide, Nat.le_of_eq (Nat.zero_add _), Nat.le_of_eq (Nat.zero_add _), Nat.le_of_ble_eq_true rfl⟩ ⟨dX8_changedCount_21, rfl⟩ ?_
    clear hv6
    refine Ev.iconst ⟨dX8_changedCount_24, rfl⟩ (inRd rfl) ?_
    obtain ⟨r9, hv8, h⟩ := bnd_s h
    refine Ev.callV1 (mc1 := 0) (ms1 := 0) (v := vi r9.1) (h1 := hq D r9.2) vX8_49 (c_X8_fails Θ D z _ _ _ _ _ hv8) rfl rfl (by decide) rfl ⟨by decide, by decide, Nat.le_of_eq (Nat.zero_add _), Nat.le_of_eq (Nat.zero_add _), Nat.le_of_ble_eq_true rfl⟩ ⟨dX8_changedCount_25, rfl⟩ ?_
    clear hv8
    refine Ev.if_eq jX8_changedCount_28 (fun hc => ?_) (fun hc => ?_)
    · replace h := (if_pos hc).symm.trans h; clear hc
      refine Ev.aload_n (q := 0) ⟨dX8_changedCount_35, rfl⟩ rfl rfl ?_
      refine Ev.iload_n (q := 1) ⟨dX8_changedCount_36, rfl⟩ rfl rfl ?_
      obtain ⟨r11, hv10, h⟩ := bnd_s h
      refine Ev.callV1 (mc1 := 0) (ms1 := 0) (v := vi r11) (h1 := hq D r9.2) vX8_281 (c_X8_allChanges Θ D z _ _ _ _ hv10) rfl rfl (by decide) rfl ⟨by decide, by decide, Nat.le_of_eq (Nat.zero_add _), Nat.le_of_eq (Nat.zero_add _), Nat.le_of_ble_eq_true rfl⟩ ⟨dX8_changedCount_37, rfl⟩ ?_
      clear hv10
      obtain rfl := Option.some.inj h
      exact Ev.ireturn (ty := .int) ⟨dX8_changedCount_40, rfl⟩ rfl rfl ⟨rfl, rfl⟩
    · replace h := (if_neg hc).symm.trans h; clear hc
      refine Ev.iconst ⟨dX8_changedCount_31, rfl⟩ (inRd rfl) ?_
      refine Ev.goto jX8_changedCount_32 ?_
      obtain rfl := Option.some.inj h
      exact Ev.ireturn (ty := .int) ⟨dX8_changedCount_40, rfl⟩ rfl rfl ⟨rfl, rfl⟩

def F_X8_preview (z : Nat) (v0 : Nat) (v1 : Int) (x : Mm) : Option (Int × Mm) := (some (wI x 8 v0 0 ((0 : Int)))).bind fun x1 => (F_X8_isClient z (v0) (v1) x1).bind fun r3 => (F_X8_fails z (v0) (r3) ((1 : Int)) x1).bind fun r5 => if r5.1 = 0 then ((F_X8_hasLease z (v0) (v1) r5.2).bind fun r7 => (F_X8_fails z (v0) (r7) ((2 : Int)) r5.2).bind fun r9 => if r9.1 = 0 then ((F_X8_copy z (0) (3) r9.2).bind fun r11 => (F_X8_merge z (v0) (v1) r11).bind fun r13 => (F_X8_copy z (3) (0) r13.2).bind fun r15 => some ((r13.1, r15))) else (some (((0 : Int), r9.2)))) else (some (((0 : Int), r5.2)))
set_option maxHeartbeats 4000000 in
set_option maxRecDepth 20000 in
theorem c_X8_preview (Θ : GC) (D : Nat → Nat → Prop) (z : Nat) (v0 : Nat) (v1 : Int) (x : Mm) (y) (h : F_X8_preview z v0 v1 x = some y) : Cal Θ mX8_preview 6 137 0 0 [vr 8 (v0 + 1), vi (v1)] (hq D x) (Ret (vi y.1) (hq D y.2)) := by
  refine Cal.of (by decide +kernel) rfl rfl (Nat.le_of_ble_eq_true rfl) ?_
  show Ev Θ mX8_preview 6 137 0 0 0 [(0, vr 8 (v0 + 1)), (1, vi (v1))] [] (hq D x) (Ret (vi y.1) (hq D y.2))
  unfold F_X8_preview at h
  refine Ev.aload_n (q := 0) ⟨dX8_preview_0, rfl⟩ rfl rfl ?_
  refine Ev.iconst ⟨dX8_preview_1, rfl⟩ (inRd rfl) ?_
  obtain ⟨x1, ex, h⟩ := bnd_s h
  refine Ev.putI fX8_38 ⟨dX8_preview_2, rfl⟩ ?_
  refine Ev.cast ?_ rfl rfl (hqI ex)
  clear ex
  refine Ev.aload_n (q := 0) ⟨dX8_preview_5, rfl⟩ rfl rfl ?_
  refine Ev.aload_n (q := 0) ⟨dX8_preview_6, rfl⟩ rfl rfl ?_
  refine Ev.iload_n (q := 1) ⟨dX8_preview_7, rfl⟩ rfl rfl ?_
  obtain ⟨r3, hv2, h⟩ := bnd_s h
  refine Ev.callV1 (mc1 := 0) (ms1 := 0) (v := vi r3) (h1 := hq D x1) vX8_188 (c_X8_isClient Θ D z _ _ _ _ hv2) rfl rfl (by decide) rfl ⟨by decide, by decide, Nat.le_of_eq (Nat.zero_add _), Nat.le_of_eq (Nat.zero_add _), Nat.le_of_ble_eq_true rfl⟩ ⟨dX8_preview_8, rfl⟩ ?_
  clear hv2
  refine Ev.iconst ⟨dX8_preview_11, rfl⟩ (inRd rfl) ?_
  obtain ⟨r5, hv4, h⟩ := bnd_s h
  refine Ev.callV1 (mc1 := 0) (ms1 := 0) (v := vi r5.1) (h1 := hq D r5.2) vX8_49 (c_X8_fails Θ D z _ _ _ _ _ hv4) rfl rfl (by decide) rfl ⟨by decide, by decide, Nat.le_of_eq (Nat.zero_add _), Nat.le_of_eq (Nat.zero_add _), Nat.le_of_ble_eq_true rfl⟩ ⟨dX8_preview_12, rfl⟩ ?_
  clear hv4
  refine Ev.if_ne jX8_preview_15 (fun hc => ?_) (fun hc => ?_)
  · replace h := (if_neg hc).symm.trans h; clear hc
    refine Ev.iconst ⟨dX8_preview_31, rfl⟩ (inRd rfl) ?_
    obtain rfl := Option.some.inj h
    exact Ev.ireturn (ty := .int) ⟨dX8_preview_32, rfl⟩ rfl rfl ⟨rfl, rfl⟩
  · replace h := (if_pos hc).symm.trans h; clear hc
    refine Ev.aload_n (q := 0) ⟨dX8_preview_18, rfl⟩ rfl rfl ?_
    refine Ev.aload_n (q := 0) ⟨dX8_preview_19, rfl⟩ rfl rfl ?_
    refine Ev.iload_n (q := 1) ⟨dX8_preview_20, rfl⟩ rfl rfl ?_
    obtain ⟨r7, hv6, h⟩ := bnd_s h
    refine Ev.callV1 (mc1 := 0) (ms1 := 0) (v := vi r7) (h1 := hq D r5.2) vX8_177 (c_X8_hasLease Θ D z _ _ _ _ hv6) rfl rfl (by decide) rfl ⟨by decide, by decide, Nat.le_of_eq (Nat.zero_add _), Nat.le_of_eq (Nat.zero_add _), Nat.le_of_ble_eq_true rfl⟩ ⟨dX8_preview_21, rfl⟩ ?_
    clear hv6
    refine Ev.iconst ⟨dX8_preview_24, rfl⟩ (inRd rfl) ?_
    obtain ⟨r9, hv8, h⟩ := bnd_s h
    refine Ev.callV1 (mc1 := 0) (ms1 := 0) (v := vi r9.1) (h1 := hq D r9.2) vX8_49 (c_X8_fails Θ D z _ _ _ _ _ hv8) rfl rfl (by decide) rfl ⟨by decide, by decide, Nat.le_of_eq (Nat.zero_add _), Nat.le_of_eq (Nat.zero_add _), Nat.le_of_ble_eq_true rfl⟩ ⟨dX8_preview_25, rfl⟩ ?_
    clear hv8
    refine Ev.if_eq jX8_preview_28 (fun hc => ?_) (fun hc => ?_)
    · replace h := (if_pos hc).symm.trans h; clear hc
      refine Ev.aload_n (q := 0) ⟨dX8_preview_33, rfl⟩ rfl rfl ?_
      refine Ev.getRk (C2 := 27) (r := 0) fX8_13 rfl (by decide) (by decide) ⟨dX8_preview_34, rfl⟩ ?_
      refine Ev.aload_n (q := 0) ⟨dX8_preview_37, rfl⟩ rfl rfl ?_
      refine Ev.getRk (C2 := 27) (r := 3) fX8_26 rfl (by decide) (by decide) ⟨dX8_preview_38, rfl⟩ ?_
      obtain ⟨r11, hv10, h⟩ := bnd_s h
      refine Ev.callSV (mc1 := 0) (ms1 := 0) (h1 := hq D r11) sX8_162 (c_X8_copy Θ D z _ _ _ _ hv10) rfl rfl ⟨by decide, by decide, Nat.le_of_eq (Nat.zero_add _), Nat.le_of_eq (Nat.zero_add _), Nat.le_of_ble_eq_true rfl⟩ ⟨dX8_preview_41, rfl⟩ ?_
      clear hv10
      refine Ev.aload_n (q := 0) ⟨dX8_preview_44, rfl⟩ rfl rfl ?_
      refine Ev.iload_n (q := 1) ⟨dX8_preview_45, rfl⟩ rfl rfl ?_
      obtain ⟨r13, hv12, h⟩ := bnd_s h
      refine Ev.callV1 (mc1 := 0) (ms1 := 0) (v := vi r13.1) (h1 := hq D r13.2) vX8_278 (c_X8_merge Θ D z _ _ _ _ hv12) rfl rfl (by decide) rfl ⟨by decide, by decide, Nat.le_of_eq (Nat.zero_add _), Nat.le_of_eq (Nat.zero_add _), Nat.le_of_ble_eq_true rfl⟩ ⟨dX8_preview_46, rfl⟩ ?_
      clear hv12
      refine Ev.istore_n (i := 2) (ls' := [(0, _), (1, _), (2, _)]) ⟨dX8_preview_49, rfl⟩ rfl (by decide) rfl ?_
      refine Ev.aload_n (q := 0) ⟨dX8_preview_50, rfl⟩ rfl rfl ?_
      refine Ev.getRk (C2 := 27) (r := 3) fX8_26 rfl (by decide) (by decide) ⟨dX8_preview_51, rfl⟩ ?_
      refine Ev.aload_n (q := 0) ⟨dX8_preview_54, rfl⟩ rfl rfl ?_
      refine Ev.getRk (C2 := 27) (r := 0) fX8_13 rfl (by decide) (by decide) ⟨dX8_preview_55, rfl⟩ ?_
      obtain ⟨r15, hv14, h⟩ := bnd_s h
      refine Ev.callSV (mc1 := 0) (ms1 := 0) (h1 := hq D r15) sX8_162 (c_X8_copy Θ D z _ _ _ _ hv14) rfl rfl ⟨by decide, by decide, Nat.le_of_eq (Nat.zero_add _), Nat.le_of_eq (Nat.zero_add _), Nat.le_of_ble_eq_true rfl⟩ ⟨dX8_preview_58, rfl⟩ ?_
      clear hv14
      refine Ev.iload_n (q := 2) ⟨dX8_preview_61, rfl⟩ rfl rfl ?_
      obtain rfl := Option.some.inj h
      exact Ev.ireturn (ty := .int) ⟨dX8_preview_62, rfl⟩ rfl rfl ⟨rfl, rfl⟩
    · replace h := (if_neg hc).symm.trans h; clear hc
      refine Ev.iconst ⟨dX8_preview_31, rfl⟩ (inRd rfl) ?_
      obtain rfl := Option.some.inj h
      exact Ev.ireturn (ty := .int) ⟨dX8_preview_32, rfl⟩ rfl rfl ⟨rfl, rfl⟩

def F_X8_wouldBe_35 (z : Nat) (v0 : Nat) (v1 : Int) (v2 : Int) (v3 : Int) (u0 : Int) (u1 : Nat) (x : Mm) : Option (Int × Mm) := (F_X8_fails z (u1) (u0) ((1 : Int)) x).bind fun r5 => if r5.1 = 0 then ((F_X8_hasLease z (v0) (v1) r5.2).bind fun r7 => (F_X8_fails z (v0) (r7) ((2 : Int)) r5.2).bind fun r9 => if r9.1 = 0 then ((F_X8_copy z (0) (3) r9.2).bind fun r11 => (F_X8_merge z (v0) (v1) r11).bind fun r13 => (F_X8_isAlive z (v0) (v2) r13.2).bind fun r15 => (F_X8_value z (v0) (v2) (v3) r13.2).bind fun r17 => (F_X8_copy z (3) (0) r13.2).bind fun r19 => (F_X8_fails z (v0) (r15) ((3 : Int)) r19).bind fun r21 => if r21.1 = 0 then (some ((r17, r21.2))) else (some (((0 : Int), r21.2)))) else (some (((0 : Int), r9.2)))) else (some (((0 : Int), r5.2)))
set_option maxHeartbeats 4000000 in
set_option maxRecDepth 20000 in
theorem e_X8_wouldBe_35 (Θ : GC) (D : Nat → Nat → Prop) (z : Nat) (v0 : Nat) (v1 : Int) (v2 : Int) (v3 : Int) (u0 : Int) (u1 : Nat) (x : Mm) (y) (h : F_X8_wouldBe_35 z v0 v1 v2 v3 u0 u1 x = some y) : Ev Θ mX8_wouldBe 6 137 0 0 35 [(0, vr 8 (v0 + 1)), (1, vi (v1)), (2, vi (v2)), (3, vi (v3))] [vi (u0), vr 8 (u1 + 1)] (hq D x) (Ret (vi y.1) (hq D y.2)) := by
  unfold F_X8_wouldBe_35 at h
  refine Ev.iconst ⟨dX8_wouldBe_35, rfl⟩ (inRd rfl) ?_
  obtain ⟨r5, hv4, h⟩ := bnd_s h
  refine Ev.callV1 (mc1 := 0) (ms1 := 0) (v := vi r5.1) (h1 := hq D r5.2) vX8_49 (c_X8_fails Θ D z _ _ _ _ _ hv4) rfl rfl (by decide) rfl ⟨by decide, by decide, Nat.le_of_eq (Nat.zero_add _), Nat.le_of_eq (Nat.zero_add _), Nat.le_of_ble_eq_true rfl⟩ ⟨dX8_wouldBe_36, rfl⟩ ?_
  clear hv4
  refine Ev.if_ne jX8_wouldBe_39 (fun hc => ?_) (fun hc => ?_)
  · replace h := (if_neg hc).symm.trans h; clear hc
    refine Ev.iconst ⟨dX8_wouldBe_55, rfl⟩ (inRd rfl) ?_
    obtain rfl := Option.some.inj h
    exact Ev.ireturn (ty := .int) ⟨dX8_wouldBe_56, rfl⟩ rfl rfl ⟨rfl, rfl⟩
  · replace h := (if_pos hc).symm.trans h; clear hc
    refine Ev.aload_n (q := 0) ⟨dX8_wouldBe_42, rfl⟩ rfl rfl ?_
    refine Ev.aload_n (q := 0) ⟨dX8_wouldBe_43, rfl⟩ rfl rfl ?_
    refine Ev.iload_n (q := 1) ⟨dX8_wouldBe_44, rfl⟩ rfl rfl ?_
    obtain ⟨r7, hv6, h⟩ := bnd_s h
    refine Ev.callV1 (mc1 := 0) (ms1 := 0) (v := vi r7) (h1 := hq D r5.2) vX8_177 (c_X8_hasLease Θ D z _ _ _ _ hv6) rfl rfl (by decide) rfl ⟨by decide, by decide, Nat.le_of_eq (Nat.zero_add _), Nat.le_of_eq (Nat.zero_add _), Nat.le_of_ble_eq_true rfl⟩ ⟨dX8_wouldBe_45, rfl⟩ ?_
    clear hv6
    refine Ev.iconst ⟨dX8_wouldBe_48, rfl⟩ (inRd rfl) ?_
    obtain ⟨r9, hv8, h⟩ := bnd_s h
    refine Ev.callV1 (mc1 := 0) (ms1 := 0) (v := vi r9.1) (h1 := hq D r9.2) vX8_49 (c_X8_fails Θ D z _ _ _ _ _ hv8) rfl rfl (by decide) rfl ⟨by decide, by decide, Nat.le_of_eq (Nat.zero_add _), Nat.le_of_eq (Nat.zero_add _), Nat.le_of_ble_eq_true rfl⟩ ⟨dX8_wouldBe_49, rfl⟩ ?_
    clear hv8
    refine Ev.if_eq jX8_wouldBe_52 (fun hc => ?_) (fun hc => ?_)
    · replace h := (if_pos hc).symm.trans h; clear hc
      refine Ev.aload_n (q := 0) ⟨dX8_wouldBe_57, rfl⟩ rfl rfl ?_
      refine Ev.getRk (C2 := 27) (r := 0) fX8_13 rfl (by decide) (by decide) ⟨dX8_wouldBe_58, rfl⟩ ?_
      refine Ev.aload_n (q := 0) ⟨dX8_wouldBe_61, rfl⟩ rfl rfl ?_
      refine Ev.getRk (C2 := 27) (r := 3) fX8_26 rfl (by decide) (by decide) ⟨dX8_wouldBe_62, rfl⟩ ?_
      obtain ⟨r11, hv10, h⟩ := bnd_s h
      refine Ev.callSV (mc1 := 0) (ms1 := 0) (h1 := hq D r11) sX8_162 (c_X8_copy Θ D z _ _ _ _ hv10) rfl rfl ⟨by decide, by decide, Nat.le_of_eq (Nat.zero_add _), Nat.le_of_eq (Nat.zero_add _), Nat.le_of_ble_eq_true rfl⟩ ⟨dX8_wouldBe_65, rfl⟩ ?_
      clear hv10
      refine Ev.aload_n (q := 0) ⟨dX8_wouldBe_68, rfl⟩ rfl rfl ?_
      refine Ev.iload_n (q := 1) ⟨dX8_wouldBe_69, rfl⟩ rfl rfl ?_
      obtain ⟨r13, hv12, h⟩ := bnd_s h
      refine Ev.callV1 (mc1 := 0) (ms1 := 0) (v := vi r13.1) (h1 := hq D r13.2) vX8_278 (c_X8_merge Θ D z _ _ _ _ hv12) rfl rfl (by decide) rfl ⟨by decide, by decide, Nat.le_of_eq (Nat.zero_add _), Nat.le_of_eq (Nat.zero_add _), Nat.le_of_ble_eq_true rfl⟩ ⟨dX8_wouldBe_70, rfl⟩ ?_
      clear hv12
      refine Ev.pop ⟨dX8_wouldBe_73, rfl⟩ rfl ?_
      refine Ev.aload_n (q := 0) ⟨dX8_wouldBe_74, rfl⟩ rfl rfl ?_
      refine Ev.iload_n (q := 2) ⟨dX8_wouldBe_75, rfl⟩ rfl rfl ?_
      obtain ⟨r15, hv14, h⟩ := bnd_s h
      refine Ev.callV1 (mc1 := 0) (ms1 := 0) (v := vi r15) (h1 := hq D r13.2) vX8_194 (c_X8_isAlive Θ D z _ _ _ _ hv14) rfl rfl (by decide) rfl ⟨by decide, by decide, Nat.le_of_eq (Nat.zero_add _), Nat.le_of_eq (Nat.zero_add _), Nat.le_of_ble_eq_true rfl⟩ ⟨dX8_wouldBe_76, rfl⟩ ?_
      clear hv14
      refine Ev.istore (i := 4) (ls' := [(0, _), (1, _), (2, _), (3, _), (4, _)]) ⟨dX8_wouldBe_79, rfl⟩ (by decide) rfl ?_
      refine Ev.aload_n (q := 0) ⟨dX8_wouldBe_81, rfl⟩ rfl rfl ?_
      refine Ev.iload_n (q := 2) ⟨dX8_wouldBe_82, rfl⟩ rfl rfl ?_
      refine Ev.iload_n (q := 3) ⟨dX8_wouldBe_83, rfl⟩ rfl rfl ?_
      obtain ⟨r17, hv16, h⟩ := bnd_s h
      refine Ev.callV1 (mc1 := 0) (ms1 := 0) (v := vi r17) (h1 := hq D r13.2) vX8_203 (c_X8_value Θ D z _ _ _ _ _ hv16) rfl rfl (by decide) rfl ⟨by decide, by decide, Nat.le_of_eq (Nat.zero_add _), Nat.le_of_eq (Nat.zero_add _), Nat.le_of_ble_eq_true rfl⟩ ⟨dX8_wouldBe_84, rfl⟩ ?_
      clear hv16
      refine Ev.istore (i := 5) (ls' := [(0, _), (1, _), (2, _), (3, _), (4, _), (5, _)]) ⟨dX8_wouldBe_87, rfl⟩ (by decide) rfl ?_
      refine Ev.aload_n (q := 0) ⟨dX8_wouldBe_89, rfl⟩ rfl rfl ?_
      refine Ev.getRk (C2 := 27) (r := 3) fX8_26 rfl (by decide) (by decide) ⟨dX8_wouldBe_90, rfl⟩ ?_
      refine Ev.aload_n (q := 0) ⟨dX8_wouldBe_93, rfl⟩ rfl rfl ?_
      refine Ev.getRk (C2 := 27) (r := 0) fX8_13 rfl (by decide) (by decide) ⟨dX8_wouldBe_94, rfl⟩ ?_
      obtain ⟨r19, hv18, h⟩ := bnd_s h
      refine Ev.callSV (mc1 := 0) (ms1 := 0) (h1 := hq D r19) sX8_162 (c_X8_copy Θ D z _ _ _ _ hv18) rfl rfl ⟨by decide, by decide, Nat.le_of_eq (Nat.zero_add _), Nat.le_of_eq (Nat.zero_add _), Nat.le_of_ble_eq_true rfl⟩ ⟨dX8_wouldBe_97, rfl⟩ ?_
      clear hv18
      refine Ev.aload_n (q := 0) ⟨dX8_wouldBe_100, rfl⟩ rfl rfl ?_
      refine Ev.iload (q := 4) ⟨dX8_wouldBe_101, rfl⟩ rfl ?_
      refine Ev.iconst ⟨dX8_wouldBe_103, rfl⟩ (inRd rfl) ?_
      obtain ⟨r21, hv20, h⟩ := bnd_s h
      refine Ev.callV1 (mc1 := 0) (ms1 := 0) (v := vi r21.1) (h1 := hq D r21.2) vX8_49 (c_X8_fails Θ D z _ _ _ _ _ hv20) rfl rfl (by decide) rfl ⟨by decide, by decide, Nat.le_of_eq (Nat.zero_add _), Nat.le_of_eq (Nat.zero_add _), Nat.le_of_ble_eq_true rfl⟩ ⟨dX8_wouldBe_104, rfl⟩ ?_
      clear hv20
      refine Ev.if_eq jX8_wouldBe_107 (fun hc => ?_) (fun hc => ?_)
      · replace h := (if_pos hc).symm.trans h; clear hc
        refine Ev.iload (q := 5) ⟨dX8_wouldBe_114, rfl⟩ rfl ?_
        obtain rfl := Option.some.inj h
        exact Ev.ireturn (ty := .int) ⟨dX8_wouldBe_116, rfl⟩ rfl rfl ⟨rfl, rfl⟩
      · replace h := (if_neg hc).symm.trans h; clear hc
        refine Ev.iconst ⟨dX8_wouldBe_110, rfl⟩ (inRd rfl) ?_
        refine Ev.goto jX8_wouldBe_111 ?_
        obtain rfl := Option.some.inj h
        exact Ev.ireturn (ty := .int) ⟨dX8_wouldBe_116, rfl⟩ rfl rfl ⟨rfl, rfl⟩
    · replace h := (if_neg hc).symm.trans h; clear hc
      refine Ev.iconst ⟨dX8_wouldBe_55, rfl⟩ (inRd rfl) ?_
      obtain rfl := Option.some.inj h
      exact Ev.ireturn (ty := .int) ⟨dX8_wouldBe_56, rfl⟩ rfl rfl ⟨rfl, rfl⟩

def F_X8_wouldBe_34 (z : Nat) (v0 : Nat) (v1 : Int) (v2 : Int) (v3 : Int) (u0 : Nat) (x : Mm) : Option (Int × Mm) := F_X8_wouldBe_35 z (v0) (v1) (v2) (v3) ((0 : Int)) (u0) x
set_option maxHeartbeats 4000000 in
set_option maxRecDepth 20000 in
theorem e_X8_wouldBe_34 (Θ : GC) (D : Nat → Nat → Prop) (z : Nat) (v0 : Nat) (v1 : Int) (v2 : Int) (v3 : Int) (u0 : Nat) (x : Mm) (y) (h : F_X8_wouldBe_34 z v0 v1 v2 v3 u0 x = some y) : Ev Θ mX8_wouldBe 6 137 0 0 34 [(0, vr 8 (v0 + 1)), (1, vi (v1)), (2, vi (v2)), (3, vi (v3))] [vr 8 (u0 + 1)] (hq D x) (Ret (vi y.1) (hq D y.2)) := by
  unfold F_X8_wouldBe_34 at h
  refine Ev.iconst ⟨dX8_wouldBe_34, rfl⟩ (inRd rfl) ?_
  exact e_X8_wouldBe_35 Θ D z _ _ _ _ _ _ _ _ h
def F_X8_wouldBe (z : Nat) (v0 : Nat) (v1 : Int) (v2 : Int) (v3 : Int) (x : Mm) : Option (Int × Mm) := (some (wI x 8 v0 0 ((0 : Int)))).bind fun x1 => (F_X8_isClient z (v0) (v1) x1).bind fun r3 => if r3 = 0 then (F_X8_wouldBe_34 z (v0) (v1) (v2) (v3) (v0) x1) else ((F_X8_isNode z (v0) (v2) x1).bind fun r23 => if r23 = 0 then (F_X8_wouldBe_34 z (v0) (v1) (v2) (v3) (v0) x1) else ((F_X8_isField z (v0) (v3) x1).bind fun r25 => if r25 = 0 then (F_X8_wouldBe_34 z (v0) (v1) (v2) (v3) (v0) x1) else (F_X8_wouldBe_35 z (v0) (v1) (v2) (v3) ((1 : Int)) (v0) x1)))
set_option maxHeartbeats 4000000 in
set_option maxRecDepth 20000 in
theorem c_X8_wouldBe (Θ : GC) (D : Nat → Nat → Prop) (z : Nat) (v0 : Nat) (v1 : Int) (v2 : Int) (v3 : Int) (x : Mm) (y) (h : F_X8_wouldBe z v0 v1 v2 v3 x = some y) : Cal Θ mX8_wouldBe 6 137 0 0 [vr 8 (v0 + 1), vi (v1), vi (v2), vi (v3)] (hq D x) (Ret (vi y.1) (hq D y.2)) := by
  refine Cal.of (by decide +kernel) rfl rfl (Nat.le_of_ble_eq_true rfl) ?_
  show Ev Θ mX8_wouldBe 6 137 0 0 0 [(0, vr 8 (v0 + 1)), (1, vi (v1)), (2, vi (v2)), (3, vi (v3))] [] (hq D x) (Ret (vi y.1) (hq D y.2))
  unfold F_X8_wouldBe at h
  refine Ev.aload_n (q := 0) ⟨dX8_wouldBe_0, rfl⟩ rfl rfl ?_
  refine Ev.iconst ⟨dX8_wouldBe_1, rfl⟩ (inRd rfl) ?_
  obtain ⟨x1, ex, h⟩ := bnd_s h
  refine Ev.putI fX8_38 ⟨dX8_wouldBe_2, rfl⟩ ?_
  refine Ev.cast ?_ rfl rfl (hqI ex)
  clear ex
  refine Ev.aload_n (q := 0) ⟨dX8_wouldBe_5, rfl⟩ rfl rfl ?_
  refine Ev.aload_n (q := 0) ⟨dX8_wouldBe_6, rfl⟩ rfl rfl ?_
  refine Ev.iload_n (q := 1) ⟨dX8_wouldBe_7, rfl⟩ rfl rfl ?_
  obtain ⟨r3, hv2, h⟩ := bnd_s h
  refine Ev.callV1 (mc1 := 0) (ms1 := 0) (v := vi r3) (h1 := hq D x1) vX8_188 (c_X8_isClient Θ D z _ _ _ _ hv2) rfl rfl (by decide) rfl ⟨by decide, by decide, Nat.le_of_eq (Nat.zero_add _), Nat.le_of_eq (Nat.zero_add _), Nat.le_of_ble_eq_true rfl⟩ ⟨dX8_wouldBe_8, rfl⟩ ?_
  clear hv2
  refine Ev.if_eq jX8_wouldBe_11 (fun hc => ?_) (fun hc => ?_)
  · replace h := (if_pos hc).symm.trans h; clear hc
    exact e_X8_wouldBe_34 Θ D z _ _ _ _ _ _ _ h
  · replace h := (if_neg hc).symm.trans h; clear hc
    refine Ev.aload_n (q := 0) ⟨dX8_wouldBe_14, rfl⟩ rfl rfl ?_
    refine Ev.iload_n (q := 2) ⟨dX8_wouldBe_15, rfl⟩ rfl rfl ?_
    obtain ⟨r23, hv22, h⟩ := bnd_s h
    refine Ev.callV1 (mc1 := 0) (ms1 := 0) (v := vi r23) (h1 := hq D x1) vX8_191 (c_X8_isNode Θ D z _ _ _ _ hv22) rfl rfl (by decide) rfl ⟨by decide, by decide, Nat.le_of_eq (Nat.zero_add _), Nat.le_of_eq (Nat.zero_add _), Nat.le_of_ble_eq_true rfl⟩ ⟨dX8_wouldBe_16, rfl⟩ ?_
    clear hv22
    refine Ev.if_eq jX8_wouldBe_19 (fun hc => ?_) (fun hc => ?_)
    · replace h := (if_pos hc).symm.trans h; clear hc
      exact e_X8_wouldBe_34 Θ D z _ _ _ _ _ _ _ h
    · replace h := (if_neg hc).symm.trans h; clear hc
      refine Ev.aload_n (q := 0) ⟨dX8_wouldBe_22, rfl⟩ rfl rfl ?_
      refine Ev.iload_n (q := 3) ⟨dX8_wouldBe_23, rfl⟩ rfl rfl ?_
      obtain ⟨r25, hv24, h⟩ := bnd_s h
      refine Ev.callV1 (mc1 := 0) (ms1 := 0) (v := vi r25) (h1 := hq D x1) vX8_205 (c_X8_isField Θ D z _ _ _ _ hv24) rfl rfl (by decide) rfl ⟨by decide, by decide, Nat.le_of_eq (Nat.zero_add _), Nat.le_of_eq (Nat.zero_add _), Nat.le_of_ble_eq_true rfl⟩ ⟨dX8_wouldBe_24, rfl⟩ ?_
      clear hv24
      refine Ev.if_eq jX8_wouldBe_27 (fun hc => ?_) (fun hc => ?_)
      · replace h := (if_pos hc).symm.trans h; clear hc
        exact e_X8_wouldBe_34 Θ D z _ _ _ _ _ _ _ h
      · replace h := (if_neg hc).symm.trans h; clear hc
        refine Ev.iconst ⟨dX8_wouldBe_30, rfl⟩ (inRd rfl) ?_
        refine Ev.goto jX8_wouldBe_31 ?_
        exact e_X8_wouldBe_35 Θ D z _ _ _ _ _ _ _ _ h

def F_X8_isTrunkLike_36 (z : Nat) (v0 : Nat) (v1 : Nat) (v2 : Int) (x : Mm) : Nat → Int → Option ((Unit) ⊕ (Int))
  | 0, _ => none
  | k + 1, v3 => ckI (1 : Int) 5366 <| if (x.1 27 0 ((1 : Int)).toNat) ≤ v3 then (some (.inl ())) else ((F_X8_isAlive z (v0) (v2) x).bind fun r8 => if r8 = 0 then (some (.inl ())) else ((F_X8_value z (v0) (v2) (v3) x).bind fun r10 => ckR (((6 : Int) * v2)) <| ckR (((251 : Int) + ((6 : Int) * v2))) <| ckR ((((251 : Int) + ((6 : Int) * v2)) + v3)) <| ckI (((251 : Int) + ((6 : Int) * v2)) + v3) 5366 <| if r10 = (x.1 27 v1 ((((251 : Int) + ((6 : Int) * v2)) + v3)).toNat) then (ckR ((v3 + 1)) <| F_X8_isTrunkLike_36 z v0 v1 v2 x k ((v3 + 1))) else (some (.inr (0 : Int)))))
set_option maxHeartbeats 4000000 in
set_option maxRecDepth 20000 in
theorem e_X8_isTrunkLike_36 (Θ : GC) (D : Nat → Nat → Prop) (z : Nat) (v0 : Nat) (v1 : Nat) (v2 : Int) (x : Mm) (Q : Ro → Hp → Prop) (mc ms : Nat) : ∀ (k : Nat) (v3 : Int) (y), F_X8_isTrunkLike_36 z v0 v1 v2 x k v3 = some y → (∀ s, y = .inl s → Ev Θ mX8_isTrunkLike 1 22 mc ms 83 [(0, vr 8 (v0 + 1)), (1, vr 27 (v1 + 1)), (2, vi (v2))] [] (hq D x) Q) → (∀ r, y = .inr r → Q (.inl (some (vi r))) (hq D x)) → Ev Θ mX8_isTrunkLike 1 22 mc ms 36 [(0, vr 8 (v0 + 1)), (1, vr 27 (v1 + 1)), (2, vi (v2)), (3, vi (v3))] [] (hq D x) Q := by
  intro k
  induction k with
  | zero => intro v3 y h; exact absurd h (by unfold F_X8_isTrunkLike_36; exact nofun)
  | succ k ih =>
    intro v3 y h k1 k2
    unfold F_X8_isTrunkLike_36 at h
    refine Ev.iload_n (q := 3) ⟨dX8_isTrunkLike_36, rfl⟩ rfl rfl ?_
    refine Ev.aload_n (q := 0) ⟨dX8_isTrunkLike_37, rfl⟩ rfl rfl ?_
    refine Ev.getRk (C2 := 27) (r := 0) fX8_13 rfl (by decide) (by decide) ⟨dX8_isTrunkLike_38, rfl⟩ ?_
    refine Ev.iconst ⟨dX8_isTrunkLike_41, rfl⟩ (inRd rfl) ?_
    obtain ⟨c6, h⟩ := ckI_s h
    refine Ev.iaload (by decide) c6.1 c6.2 ⟨dX8_isTrunkLike_42, rfl⟩ ?_
    refine Ev.icmp_ge jX8_isTrunkLike_43 (fun hc => ?_) (fun hc => ?_)
    · replace h := (if_pos hc).symm.trans h; clear hc
      refine Ev.keep [0, 1, 2] rfl ?_
      obtain rfl := Option.some.inj h
      exact k1 _ rfl
    · replace h := (if_neg hc).symm.trans h; clear hc
      refine Ev.aload_n (q := 0) ⟨dX8_isTrunkLike_46, rfl⟩ rfl rfl ?_
      refine Ev.iload_n (q := 2) ⟨dX8_isTrunkLike_47, rfl⟩ rfl rfl ?_
      obtain ⟨r8, hv7, h⟩ := bnd_s h
      refine Ev.callV1 (mc1 := mc) (ms1 := ms) (v := vi r8) (h1 := hq D x) vX8_194 (c_X8_isAlive Θ D z _ _ _ _ hv7) rfl rfl (by decide) rfl ⟨by decide, by decide, Nat.le_of_eq (Nat.zero_add _), Nat.le_of_eq (Nat.zero_add _), Nat.le_of_ble_eq_true rfl⟩ ⟨dX8_isTrunkLike_48, rfl⟩ ?_
      clear hv7
      refine Ev.if_eq jX8_isTrunkLike_51 (fun hc => ?_) (fun hc => ?_)
      · replace h := (if_pos hc).symm.trans h; clear hc
        refine Ev.keep [0, 1, 2] rfl ?_
        obtain rfl := Option.some.inj h
        exact k1 _ rfl
      · replace h := (if_neg hc).symm.trans h; clear hc
        refine Ev.aload_n (q := 0) ⟨dX8_isTrunkLike_54, rfl⟩ rfl rfl ?_
        refine Ev.iload_n (q := 2) ⟨dX8_isTrunkLike_55, rfl⟩ rfl rfl ?_
        refine Ev.iload_n (q := 3) ⟨dX8_isTrunkLike_56, rfl⟩ rfl rfl ?_
        obtain ⟨r10, hv9, h⟩ := bnd_s h
        refine Ev.callV1 (mc1 := mc) (ms1 := ms) (v := vi r10) (h1 := hq D x) vX8_203 (c_X8_value Θ D z _ _ _ _ _ hv9) rfl rfl (by decide) rfl ⟨by decide, by decide, Nat.le_of_eq (Nat.zero_add _), Nat.le_of_eq (Nat.zero_add _), Nat.le_of_ble_eq_true rfl⟩ ⟨dX8_isTrunkLike_57, rfl⟩ ?_
        clear hv9
        refine Ev.aload_n (q := 1) ⟨dX8_isTrunkLike_60, rfl⟩ rfl rfl ?_
        refine Ev.sipush ⟨dX8_isTrunkLike_61, rfl⟩ (inRd rfl) (by decide) ?_
        refine Ev.bipush ⟨dX8_isTrunkLike_64, rfl⟩ (inRd rfl) (by decide) ?_
        refine Ev.iload_n (q := 2) ⟨dX8_isTrunkLike_66, rfl⟩ rfl rfl ?_
        obtain ⟨c11, h⟩ := ckR_s h
        refine Ev.imul ⟨dX8_isTrunkLike_67, rfl⟩ c11 ?_
        obtain ⟨c12, h⟩ := ckR_s h
        refine Ev.iadd ⟨dX8_isTrunkLike_68, rfl⟩ c12 ?_
        refine Ev.iload_n (q := 3) ⟨dX8_isTrunkLike_69, rfl⟩ rfl rfl ?_
        obtain ⟨c13, h⟩ := ckR_s h
        refine Ev.iadd ⟨dX8_isTrunkLike_70, rfl⟩ c13 ?_
        obtain ⟨c14, h⟩ := ckI_s h
        refine Ev.iaload (by decide) c14.1 c14.2 ⟨dX8_isTrunkLike_71, rfl⟩ ?_
        refine Ev.icmp_eq jX8_isTrunkLike_72 (fun hc => ?_) (fun hc => ?_)
        · replace h := (if_pos hc).symm.trans h; clear hc
          obtain ⟨c15, h⟩ := ckR_s h
          refine Ev.iinc (q := 3) (ls' := [(0, _), (1, _), (2, _), (3, _)]) ⟨dX8_isTrunkLike_77, rfl⟩ rfl (by decide) c15 rfl ?_
          refine Ev.goto jX8_isTrunkLike_80 ?_
          exact ih _ _ h k1 k2
        · replace h := (if_neg hc).symm.trans h; clear hc
          refine Ev.iconst ⟨dX8_isTrunkLike_75, rfl⟩ (inRd rfl) ?_
          obtain rfl := Option.some.inj h
          exact Ev.ireturn (ty := .boolean) ⟨dX8_isTrunkLike_76, rfl⟩ rfl rfl (k2 _ rfl)

def F_X8_isTrunkLike_2 (z : Nat) (v0 : Nat) (v1 : Nat) (x : Mm) : Nat → Int → Option ((Unit) ⊕ (Int))
  | 0, _ => none
  | k + 1, v2 => ckI (3 : Int) 5366 <| if (x.1 27 0 ((3 : Int)).toNat) ≤ v2 then (some (.inl ())) else (ckR (((191 : Int) + v2)) <| ckI ((191 : Int) + v2) 5366 <| ckR (((191 : Int) + v2)) <| ckI ((191 : Int) + v2) 5366 <| if (x.1 27 0 (((191 : Int) + v2)).toNat) = (x.1 27 v1 (((191 : Int) + v2)).toNat) then (bndE (fun r => .inr r) (F_X8_isTrunkLike_36 z (v0) (v1) (v2) x z ((0 : Int))) fun s16 => ckR ((v2 + 1)) <| F_X8_isTrunkLike_2 z v0 v1 x k ((v2 + 1))) else (some (.inr (0 : Int))))
set_option maxHeartbeats 4000000 in
set_option maxRecDepth 20000 in
theorem e_X8_isTrunkLike_2 (Θ : GC) (D : Nat → Nat → Prop) (z : Nat) (v0 : Nat) (v1 : Nat) (x : Mm) (Q : Ro → Hp → Prop) (mc ms : Nat) : ∀ (k : Nat) (v2 : Int) (y), F_X8_isTrunkLike_2 z v0 v1 x k v2 = some y → (∀ s, y = .inl s → Ev Θ mX8_isTrunkLike 1 22 mc ms 89 [(0, vr 8 (v0 + 1)), (1, vr 27 (v1 + 1))] [] (hq D x) Q) → (∀ r, y = .inr r → Q (.inl (some (vi r))) (hq D x)) → Ev Θ mX8_isTrunkLike 1 22 mc ms 2 [(0, vr 8 (v0 + 1)), (1, vr 27 (v1 + 1)), (2, vi (v2))] [] (hq D x) Q := by
  intro k
  induction k with
  | zero => intro v2 y h; exact absurd h (by unfold F_X8_isTrunkLike_2; exact nofun)
  | succ k ih =>
    intro v2 y h k1 k2
    unfold F_X8_isTrunkLike_2 at h
    refine Ev.iload_n (q := 2) ⟨dX8_isTrunkLike_2, rfl⟩ rfl rfl ?_
    refine Ev.aload_n (q := 0) ⟨dX8_isTrunkLike_3, rfl⟩ rfl rfl ?_
    refine Ev.getRk (C2 := 27) (r := 0) fX8_13 rfl (by decide) (by decide) ⟨dX8_isTrunkLike_4, rfl⟩ ?_
    refine Ev.iconst ⟨dX8_isTrunkLike_7, rfl⟩ (inRd rfl) ?_
    obtain ⟨c1, h⟩ := ckI_s h
    refine Ev.iaload (by decide) c1.1 c1.2 ⟨dX8_isTrunkLike_8, rfl⟩ ?_
    refine Ev.icmp_ge jX8_isTrunkLike_9 (fun hc => ?_) (fun hc => ?_)
    · replace h := (if_pos hc).symm.trans h; clear hc
      refine Ev.keep [0, 1] rfl ?_
      obtain rfl := Option.some.inj h
      exact k1 _ rfl
    · replace h := (if_neg hc).symm.trans h; clear hc
      refine Ev.aload_n (q := 0) ⟨dX8_isTrunkLike_12, rfl⟩ rfl rfl ?_
      refine Ev.getRk (C2 := 27) (r := 0) fX8_13 rfl (by decide) (by decide) ⟨dX8_isTrunkLike_13, rfl⟩ ?_
      refine Ev.sipush ⟨dX8_isTrunkLike_16, rfl⟩ (inRd rfl) (by decide) ?_
      refine Ev.iload_n (q := 2) ⟨dX8_isTrunkLike_19, rfl⟩ rfl rfl ?_
      obtain ⟨c2, h⟩ := ckR_s h
      refine Ev.iadd ⟨dX8_isTrunkLike_20, rfl⟩ c2 ?_
      obtain ⟨c3, h⟩ := ckI_s h
      refine Ev.iaload (by decide) c3.1 c3.2 ⟨dX8_isTrunkLike_21, rfl⟩ ?_
      refine Ev.aload_n (q := 1) ⟨dX8_isTrunkLike_22, rfl⟩ rfl rfl ?_
      refine Ev.sipush ⟨dX8_isTrunkLike_23, rfl⟩ (inRd rfl) (by decide) ?_
      refine Ev.iload_n (q := 2) ⟨dX8_isTrunkLike_26, rfl⟩ rfl rfl ?_
      obtain ⟨c4, h⟩ := ckR_s h
      refine Ev.iadd ⟨dX8_isTrunkLike_27, rfl⟩ c4 ?_
      obtain ⟨c5, h⟩ := ckI_s h
      refine Ev.iaload (by decide) c5.1 c5.2 ⟨dX8_isTrunkLike_28, rfl⟩ ?_
      refine Ev.icmp_eq jX8_isTrunkLike_29 (fun hc => ?_) (fun hc => ?_)
      · replace h := (if_pos hc).symm.trans h; clear hc
        refine Ev.iconst ⟨dX8_isTrunkLike_34, rfl⟩ (inRd rfl) ?_
        refine Ev.istore_n (i := 3) (ls' := [(0, _), (1, _), (2, _), (3, _)]) ⟨dX8_isTrunkLike_35, rfl⟩ rfl (by decide) rfl ?_
        rcases bndE_s h with ⟨s16, hl, h⟩ | ⟨r1, hl, rfl⟩
        rotate_left
        · exact e_X8_isTrunkLike_36 Θ D z _ _ _ _ _ _ _ _ _ _ hl (fun s2 e2 => by cases e2) (fun r2 e2 => by cases e2; exact k2 _ rfl)
        refine e_X8_isTrunkLike_36 Θ D z _ _ _ _ _ _ _ _ _ _ hl (fun s2 e2 => ?_) (fun r2 e2 => by cases e2)
        cases e2
        clear hl
        obtain ⟨c17, h⟩ := ckR_s h
        refine Ev.iinc (q := 2) (ls' := [(0, _), (1, _), (2, _)]) ⟨dX8_isTrunkLike_83, rfl⟩ rfl (by decide) c17 rfl ?_
        refine Ev.goto jX8_isTrunkLike_86 ?_
        exact ih _ _ h k1 k2
      · replace h := (if_neg hc).symm.trans h; clear hc
        refine Ev.iconst ⟨dX8_isTrunkLike_32, rfl⟩ (inRd rfl) ?_
        obtain rfl := Option.some.inj h
        exact Ev.ireturn (ty := .boolean) ⟨dX8_isTrunkLike_33, rfl⟩ rfl rfl (k2 _ rfl)
def F_X8_isTrunkLike (z : Nat) (v0 : Nat) (v1 : Nat) (x : Mm) : Option (Int) := bndE (fun r => r) (F_X8_isTrunkLike_2 z (v0) (v1) x z ((0 : Int))) fun s18 => some ((1 : Int))
set_option maxHeartbeats 4000000 in
set_option maxRecDepth 20000 in
theorem c_X8_isTrunkLike (Θ : GC) (D : Nat → Nat → Prop) (z : Nat) (v0 : Nat) (v1 : Nat) (x : Mm) (y) (h : F_X8_isTrunkLike z v0 v1 x = some y) : Cal Θ mX8_isTrunkLike 1 22 0 0 [vr 8 (v0 + 1), vr 27 (v1 + 1)] (hq D x) (Ret (vi y) (hq D x)) := by
  refine Cal.of (by decide +kernel) rfl rfl (Nat.le_of_ble_eq_true rfl) ?_
  show Ev Θ mX8_isTrunkLike 1 22 0 0 0 [(0, vr 8 (v0 + 1)), (1, vr 27 (v1 + 1))] [] (hq D x) (Ret (vi y) (hq D x))
  unfold F_X8_isTrunkLike at h
  refine Ev.iconst ⟨dX8_isTrunkLike_0, rfl⟩ (inRd rfl) ?_
  refine Ev.istore_n (i := 2) (ls' := [(0, _), (1, _), (2, _)]) ⟨dX8_isTrunkLike_1, rfl⟩ rfl (by decide) rfl ?_
  rcases bndE_s h with ⟨s18, hl, h⟩ | ⟨r1, hl, rfl⟩
  rotate_left
  · exact e_X8_isTrunkLike_2 Θ D z _ _ _ _ _ _ _ _ _ hl (fun s2 e2 => by cases e2) (fun r2 e2 => by cases e2; exact ⟨rfl, rfl⟩)
  refine e_X8_isTrunkLike_2 Θ D z _ _ _ _ _ _ _ _ _ hl (fun s2 e2 => ?_) (fun r2 e2 => by cases e2)
  cases e2
  clear hl
  refine Ev.iconst ⟨dX8_isTrunkLike_89, rfl⟩ (inRd rfl) ?_
  obtain rfl := Option.some.inj h
  exact Ev.ireturn (ty := .boolean) ⟨dX8_isTrunkLike_90, rfl⟩ rfl rfl ⟨rfl, rfl⟩

def F_X8_isFree_168 (z : Nat) (v0 : Nat) (x : Mm) : Option (Int × Mm) := (F_X8_copy z (3) (0) x).bind fun r29 => some (((0 : Int), r29))
set_option maxHeartbeats 4000000 in
set_option maxRecDepth 20000 in
theorem e_X8_isFree_168 (Θ : GC) (D : Nat → Nat → Prop) (z : Nat) (v0 : Nat) (x : Mm) (y) (h : F_X8_isFree_168 z v0 x = some y) : Ev Θ mX8_isFree 6 137 0 0 168 [(0, vr 8 (v0 + 1))] [] (hq D x) (Ret (vi y.1) (hq D y.2)) := by
  unfold F_X8_isFree_168 at h
  refine Ev.iconst ⟨dX8_isFree_168, rfl⟩ (inRd rfl) ?_
  refine Ev.istore (i := 5) (ls' := [(0, _), (5, _)]) ⟨dX8_isFree_169, rfl⟩ (by decide) rfl ?_
  refine Ev.aload_n (q := 0) ⟨dX8_isFree_171, rfl⟩ rfl rfl ?_
  refine Ev.getRk (C2 := 27) (r := 3) fX8_26 rfl (by decide) (by decide) ⟨dX8_isFree_172, rfl⟩ ?_
  refine Ev.aload_n (q := 0) ⟨dX8_isFree_175, rfl⟩ rfl rfl ?_
  refine Ev.getRk (C2 := 27) (r := 0) fX8_13 rfl (by decide) (by decide) ⟨dX8_isFree_176, rfl⟩ ?_
  obtain ⟨r29, hv28, h⟩ := bnd_s h
  refine Ev.callSV (mc1 := 0) (ms1 := 0) (h1 := hq D r29) sX8_162 (c_X8_copy Θ D z _ _ _ _ hv28) rfl rfl ⟨by decide, by decide, Nat.le_of_eq (Nat.zero_add _), Nat.le_of_eq (Nat.zero_add _), Nat.le_of_ble_eq_true rfl⟩ ⟨dX8_isFree_179, rfl⟩ ?_
  clear hv28
  refine Ev.iload (q := 1) ⟨dX8_isFree_182, rfl⟩ rfl ?_
  obtain rfl := Option.some.inj h
  exact Ev.ireturn (ty := .boolean) ⟨dX8_isFree_184, rfl⟩ rfl rfl ⟨rfl, rfl⟩

def F_X8_isFree_74 (z : Nat) (v0 : Nat) (v1 : Int) (v2 : Int) (u0 : Int) (u1 : Nat) (x : Mm) : Option (Int × Mm) := (F_X8_fails z (u1) (u0) ((3 : Int)) x).bind fun r11 => if r11.1 = 0 then ((F_X8_copy z (0) (3) r11.2).bind fun r13 => (F_X8_merge z (v0) (v1) r13).bind fun r15 => (F_X8_merge z (v0) (v2) r15.2).bind fun r17 => ckR ((r15.1 + r17.1)) <| (F_X8_copy z (0) (4) r17.2).bind fun r20 => (F_X8_copy z (3) (0) r20).bind fun r22 => (F_X8_merge z (v0) (v2) r22).bind fun r24 => (F_X8_merge z (v0) (v1) r24.2).bind fun r26 => ckR ((r24.1 + r26.1)) <| if (r15.1 + r17.1) = (r24.1 + r26.1) then ((F_X8_isTrunkLike z (v0) (4) r26.2).bind fun r31 => if r31 = 0 then (F_X8_isFree_168 z (v0) r26.2) else ((F_X8_copy z (3) (0) r26.2).bind fun r33 => some (((1 : Int), r33)))) else (F_X8_isFree_168 z (v0) r26.2)) else (some (((0 : Int), r11.2)))
set_option maxHeartbeats 4000000 in
set_option maxRecDepth 20000 in
theorem e_X8_isFree_74 (Θ : GC) (D : Nat → Nat → Prop) (z : Nat) (v0 : Nat) (v1 : Int) (v2 : Int) (u0 : Int) (u1 : Nat) (x : Mm) (y) (h : F_X8_isFree_74 z v0 v1 v2 u0 u1 x = some y) : Ev Θ mX8_isFree 6 137 0 0 74 [(0, vr 8 (v0 + 1)), (1, vi (v1)), (2, vi (v2))] [vi (u0), vr 8 (u1 + 1)] (hq D x) (Ret (vi y.1) (hq D y.2)) := by
  unfold F_X8_isFree_74 at h
  refine Ev.iconst ⟨dX8_isFree_74, rfl⟩ (inRd rfl) ?_
  obtain ⟨r11, hv10, h⟩ := bnd_s h
  refine Ev.callV1 (mc1 := 0) (ms1 := 0) (v := vi r11.1) (h1 := hq D r11.2) vX8_49 (c_X8_fails Θ D z _ _ _ _ _ hv10) rfl rfl (by decide) rfl ⟨by decide, by decide, Nat.le_of_eq (Nat.zero_add _), Nat.le_of_eq (Nat.zero_add _), Nat.le_of_ble_eq_true rfl⟩ ⟨dX8_isFree_75, rfl⟩ ?_
  clear hv10
  refine Ev.if_eq jX8_isFree_78 (fun hc => ?_) (fun hc => ?_)
  · replace h := (if_pos hc).symm.trans h; clear hc
    refine Ev.aload_n (q := 0) ⟨dX8_isFree_83, rfl⟩ rfl rfl ?_
    refine Ev.getRk (C2 := 27) (r := 0) fX8_13 rfl (by decide) (by decide) ⟨dX8_isFree_84, rfl⟩ ?_
    refine Ev.aload_n (q := 0) ⟨dX8_isFree_87, rfl⟩ rfl rfl ?_
    refine Ev.getRk (C2 := 27) (r := 3) fX8_26 rfl (by decide) (by decide) ⟨dX8_isFree_88, rfl⟩ ?_
    obtain ⟨r13, hv12, h⟩ := bnd_s h
    refine Ev.callSV (mc1 := 0) (ms1 := 0) (h1 := hq D r13) sX8_162 (c_X8_copy Θ D z _ _ _ _ hv12) rfl rfl ⟨by decide, by decide, Nat.le_of_eq (Nat.zero_add _), Nat.le_of_eq (Nat.zero_add _), Nat.le_of_ble_eq_true rfl⟩ ⟨dX8_isFree_91, rfl⟩ ?_
    clear hv12
    refine Ev.aload_n (q := 0) ⟨dX8_isFree_94, rfl⟩ rfl rfl ?_
    refine Ev.iload_n (q := 1) ⟨dX8_isFree_95, rfl⟩ rfl rfl ?_
    obtain ⟨r15, hv14, h⟩ := bnd_s h
    refine Ev.callV1 (mc1 := 0) (ms1 := 0) (v := vi r15.1) (h1 := hq D r15.2) vX8_278 (c_X8_merge Θ D z _ _ _ _ hv14) rfl rfl (by decide) rfl ⟨by decide, by decide, Nat.le_of_eq (Nat.zero_add _), Nat.le_of_eq (Nat.zero_add _), Nat.le_of_ble_eq_true rfl⟩ ⟨dX8_isFree_96, rfl⟩ ?_
    clear hv14
    refine Ev.istore_n (i := 3) (ls' := [(0, _), (1, _), (2, _), (3, _)]) ⟨dX8_isFree_99, rfl⟩ rfl (by decide) rfl ?_
    refine Ev.iload_n (q := 3) ⟨dX8_isFree_100, rfl⟩ rfl rfl ?_
    refine Ev.aload_n (q := 0) ⟨dX8_isFree_101, rfl⟩ rfl rfl ?_
    refine Ev.iload_n (q := 2) ⟨dX8_isFree_102, rfl⟩ rfl rfl ?_
    obtain ⟨r17, hv16, h⟩ := bnd_s h
    refine Ev.callV1 (mc1 := 0) (ms1 := 0) (v := vi r17.1) (h1 := hq D r17.2) vX8_278 (c_X8_merge Θ D z _ _ _ _ hv16) rfl rfl (by decide) rfl ⟨by decide, by decide, Nat.le_of_eq (Nat.zero_add _), Nat.le_of_eq (Nat.zero_add _), Nat.le_of_ble_eq_true rfl⟩ ⟨dX8_isFree_103, rfl⟩ ?_
    clear hv16
    obtain ⟨c18, h⟩ := ckR_s h
    refine Ev.iadd ⟨dX8_isFree_106, rfl⟩ c18 ?_
    refine Ev.istore_n (i := 3) (ls' := [(0, _), (1, _), (2, _), (3, _)]) ⟨dX8_isFree_107, rfl⟩ rfl (by decide) rfl ?_
    refine Ev.aload_n (q := 0) ⟨dX8_isFree_108, rfl⟩ rfl rfl ?_
    refine Ev.getRk (C2 := 27) (r := 0) fX8_13 rfl (by decide) (by decide) ⟨dX8_isFree_109, rfl⟩ ?_
    refine Ev.aload_n (q := 0) ⟨dX8_isFree_112, rfl⟩ rfl rfl ?_
    refine Ev.getRk (C2 := 27) (r := 4) fX8_29 rfl (by decide) (by decide) ⟨dX8_isFree_113, rfl⟩ ?_
    obtain ⟨r20, hv19, h⟩ := bnd_s h
    refine Ev.callSV (mc1 := 0) (ms1 := 0) (h1 := hq D r20) sX8_162 (c_X8_copy Θ D z _ _ _ _ hv19) rfl rfl ⟨by decide, by decide, Nat.le_of_eq (Nat.zero_add _), Nat.le_of_eq (Nat.zero_add _), Nat.le_of_ble_eq_true rfl⟩ ⟨dX8_isFree_116, rfl⟩ ?_
    clear hv19
    refine Ev.aload_n (q := 0) ⟨dX8_isFree_119, rfl⟩ rfl rfl ?_
    refine Ev.getRk (C2 := 27) (r := 3) fX8_26 rfl (by decide) (by decide) ⟨dX8_isFree_120, rfl⟩ ?_
    refine Ev.aload_n (q := 0) ⟨dX8_isFree_123, rfl⟩ rfl rfl ?_
    refine Ev.getRk (C2 := 27) (r := 0) fX8_13 rfl (by decide) (by decide) ⟨dX8_isFree_124, rfl⟩ ?_
    obtain ⟨r22, hv21, h⟩ := bnd_s h
    refine Ev.callSV (mc1 := 0) (ms1 := 0) (h1 := hq D r22) sX8_162 (c_X8_copy Θ D z _ _ _ _ hv21) rfl rfl ⟨by decide, by decide, Nat.le_of_eq (Nat.zero_add _), Nat.le_of_eq (Nat.zero_add _), Nat.le_of_ble_eq_true rfl⟩ ⟨dX8_isFree_127, rfl⟩ ?_
    clear hv21
    refine Ev.aload_n (q := 0) ⟨dX8_isFree_130, rfl⟩ rfl rfl ?_
    refine Ev.iload_n (q := 2) ⟨dX8_isFree_131, rfl⟩ rfl rfl ?_
    obtain ⟨r24, hv23, h⟩ := bnd_s h
    refine Ev.callV1 (mc1 := 0) (ms1 := 0) (v := vi r24.1) (h1 := hq D r24.2) vX8_278 (c_X8_merge Θ D z _ _ _ _ hv23) rfl rfl (by decide) rfl ⟨by decide, by decide, Nat.le_of_eq (Nat.zero_add _), Nat.le_of_eq (Nat.zero_add _), Nat.le_of_ble_eq_true rfl⟩ ⟨dX8_isFree_132, rfl⟩ ?_
    clear hv23
    refine Ev.istore (i := 4) (ls' := [(0, _), (1, _), (2, _), (3, _), (4, _)]) ⟨dX8_isFree_135, rfl⟩ (by decide) rfl ?_
    refine Ev.iload (q := 4) ⟨dX8_isFree_137, rfl⟩ rfl ?_
    refine Ev.aload_n (q := 0) ⟨dX8_isFree_139, rfl⟩ rfl rfl ?_
    refine Ev.iload_n (q := 1) ⟨dX8_isFree_140, rfl⟩ rfl rfl ?_
    obtain ⟨r26, hv25, h⟩ := bnd_s h
    refine Ev.callV1 (mc1 := 0) (ms1 := 0) (v := vi r26.1) (h1 := hq D r26.2) vX8_278 (c_X8_merge Θ D z _ _ _ _ hv25) rfl rfl (by decide) rfl ⟨by decide, by decide, Nat.le_of_eq (Nat.zero_add _), Nat.le_of_eq (Nat.zero_add _), Nat.le_of_ble_eq_true rfl⟩ ⟨dX8_isFree_141, rfl⟩ ?_
    clear hv25
    obtain ⟨c27, h⟩ := ckR_s h
    refine Ev.iadd ⟨dX8_isFree_144, rfl⟩ c27 ?_
    refine Ev.istore (i := 4) (ls' := [(0, _), (1, _), (2, _), (3, _), (4, _)]) ⟨dX8_isFree_145, rfl⟩ (by decide) rfl ?_
    refine Ev.iload_n (q := 3) ⟨dX8_isFree_147, rfl⟩ rfl rfl ?_
    refine Ev.iload (q := 4) ⟨dX8_isFree_148, rfl⟩ rfl ?_
    refine Ev.icmp_ne jX8_isFree_150 (fun hc => ?_) (fun hc => ?_)
    · replace h := (if_neg hc).symm.trans h; clear hc
      refine Ev.keep [0] rfl ?_
      exact e_X8_isFree_168 Θ D z _ _ _ h
    · replace h := (if_pos hc).symm.trans h; clear hc
      refine Ev.aload_n (q := 0) ⟨dX8_isFree_153, rfl⟩ rfl rfl ?_
      refine Ev.aload_n (q := 0) ⟨dX8_isFree_154, rfl⟩ rfl rfl ?_
      refine Ev.getRk (C2 := 27) (r := 4) fX8_29 rfl (by decide) (by decide) ⟨dX8_isFree_155, rfl⟩ ?_
      obtain ⟨r31, hv30, h⟩ := bnd_s h
      refine Ev.callV1 (mc1 := 0) (ms1 := 0) (v := vi r31) (h1 := hq D r26.2) vX8_302 (c_X8_isTrunkLike Θ D z _ _ _ _ hv30) rfl rfl (by decide) rfl ⟨by decide, by decide, Nat.le_of_eq (Nat.zero_add _), Nat.le_of_eq (Nat.zero_add _), Nat.le_of_ble_eq_true rfl⟩ ⟨dX8_isFree_158, rfl⟩ ?_
      clear hv30
      refine Ev.if_eq jX8_isFree_161 (fun hc => ?_) (fun hc => ?_)
      · replace h := (if_pos hc).symm.trans h; clear hc
        refine Ev.keep [0] rfl ?_
        exact e_X8_isFree_168 Θ D z _ _ _ h
      · replace h := (if_neg hc).symm.trans h; clear hc
        refine Ev.iconst ⟨dX8_isFree_164, rfl⟩ (inRd rfl) ?_
        refine Ev.goto jX8_isFree_165 ?_
        refine Ev.istore (i := 5) (ls' := [(0, _), (1, _), (2, _), (3, _), (4, _), (5, _)]) ⟨dX8_isFree_169, rfl⟩ (by decide) rfl ?_
        refine Ev.aload_n (q := 0) ⟨dX8_isFree_171, rfl⟩ rfl rfl ?_
        refine Ev.getRk (C2 := 27) (r := 3) fX8_26 rfl (by decide) (by decide) ⟨dX8_isFree_172, rfl⟩ ?_
        refine Ev.aload_n (q := 0) ⟨dX8_isFree_175, rfl⟩ rfl rfl ?_
        refine Ev.getRk (C2 := 27) (r := 0) fX8_13 rfl (by decide) (by decide) ⟨dX8_isFree_176, rfl⟩ ?_
        obtain ⟨r33, hv32, h⟩ := bnd_s h
        refine Ev.callSV (mc1 := 0) (ms1 := 0) (h1 := hq D r33) sX8_162 (c_X8_copy Θ D z _ _ _ _ hv32) rfl rfl ⟨by decide, by decide, Nat.le_of_eq (Nat.zero_add _), Nat.le_of_eq (Nat.zero_add _), Nat.le_of_ble_eq_true rfl⟩ ⟨dX8_isFree_179, rfl⟩ ?_
        clear hv32
        refine Ev.iload (q := 5) ⟨dX8_isFree_182, rfl⟩ rfl ?_
        obtain rfl := Option.some.inj h
        exact Ev.ireturn (ty := .boolean) ⟨dX8_isFree_184, rfl⟩ rfl rfl ⟨rfl, rfl⟩
  · replace h := (if_neg hc).symm.trans h; clear hc
    refine Ev.iconst ⟨dX8_isFree_81, rfl⟩ (inRd rfl) ?_
    obtain rfl := Option.some.inj h
    exact Ev.ireturn (ty := .boolean) ⟨dX8_isFree_82, rfl⟩ rfl rfl ⟨rfl, rfl⟩

def F_X8_isFree_73 (z : Nat) (v0 : Nat) (v1 : Int) (v2 : Int) (u0 : Nat) (x : Mm) : Option (Int × Mm) := F_X8_isFree_74 z (v0) (v1) (v2) ((0 : Int)) (u0) x
set_option maxHeartbeats 4000000 in
set_option maxRecDepth 20000 in
theorem e_X8_isFree_73 (Θ : GC) (D : Nat → Nat → Prop) (z : Nat) (v0 : Nat) (v1 : Int) (v2 : Int) (u0 : Nat) (x : Mm) (y) (h : F_X8_isFree_73 z v0 v1 v2 u0 x = some y) : Ev Θ mX8_isFree 6 137 0 0 73 [(0, vr 8 (v0 + 1)), (1, vi (v1)), (2, vi (v2))] [vr 8 (u0 + 1)] (hq D x) (Ret (vi y.1) (hq D y.2)) := by
  unfold F_X8_isFree_73 at h
  refine Ev.iconst ⟨dX8_isFree_73, rfl⟩ (inRd rfl) ?_
  exact e_X8_isFree_74 Θ D z _ _ _ _ _ _ _ h

def F_X8_isFree_45 (z : Nat) (v0 : Nat) (v1 : Int) (v2 : Int) (u0 : Int) (u1 : Nat) (x : Mm) : Option (Int × Mm) := (F_X8_fails z (u1) (u0) ((2 : Int)) x).bind fun r7 => if r7.1 = 0 then ((F_X8_hasLease z (v0) (v1) r7.2).bind fun r9 => if r9 = 0 then (F_X8_isFree_73 z (v0) (v1) (v2) (v0) r7.2) else ((F_X8_hasLease z (v0) (v2) r7.2).bind fun r35 => if r35 = 0 then (F_X8_isFree_73 z (v0) (v1) (v2) (v0) r7.2) else (F_X8_isFree_74 z (v0) (v1) (v2) ((1 : Int)) (v0) r7.2))) else (some (((0 : Int), r7.2)))
set_option maxHeartbeats 4000000 in
set_option maxRecDepth 20000 in
theorem e_X8_isFree_45 (Θ : GC) (D : Nat → Nat → Prop) (z : Nat) (v0 : Nat) (v1 : Int) (v2 : Int) (u0 : Int) (u1 : Nat) (x : Mm) (y) (h : F_X8_isFree_45 z v0 v1 v2 u0 u1 x = some y) : Ev Θ mX8_isFree 6 137 0 0 45 [(0, vr 8 (v0 + 1)), (1, vi (v1)), (2, vi (v2))] [vi (u0), vr 8 (u1 + 1)] (hq D x) (Ret (vi y.1) (hq D y.2)) := by
  unfold F_X8_isFree_45 at h
  refine Ev.iconst ⟨dX8_isFree_45, rfl⟩ (inRd rfl) ?_
  obtain ⟨r7, hv6, h⟩ := bnd_s h
  refine Ev.callV1 (mc1 := 0) (ms1 := 0) (v := vi r7.1) (h1 := hq D r7.2) vX8_49 (c_X8_fails Θ D z _ _ _ _ _ hv6) rfl rfl (by decide) rfl ⟨by decide, by decide, Nat.le_of_eq (Nat.zero_add _), Nat.le_of_eq (Nat.zero_add _), Nat.le_of_ble_eq_true rfl⟩ ⟨dX8_isFree_46, rfl⟩ ?_
  clear hv6
  refine Ev.if_ne jX8_isFree_49 (fun hc => ?_) (fun hc => ?_)
  · replace h := (if_neg hc).symm.trans h; clear hc
    refine Ev.iconst ⟨dX8_isFree_81, rfl⟩ (inRd rfl) ?_
    obtain rfl := Option.some.inj h
    exact Ev.ireturn (ty := .boolean) ⟨dX8_isFree_82, rfl⟩ rfl rfl ⟨rfl, rfl⟩
  · replace h := (if_pos hc).symm.trans h; clear hc
    refine Ev.aload_n (q := 0) ⟨dX8_isFree_52, rfl⟩ rfl rfl ?_
    refine Ev.aload_n (q := 0) ⟨dX8_isFree_53, rfl⟩ rfl rfl ?_
    refine Ev.iload_n (q := 1) ⟨dX8_isFree_54, rfl⟩ rfl rfl ?_
    obtain ⟨r9, hv8, h⟩ := bnd_s h
    refine Ev.callV1 (mc1 := 0) (ms1 := 0) (v := vi r9) (h1 := hq D r7.2) vX8_177 (c_X8_hasLease Θ D z _ _ _ _ hv8) rfl rfl (by decide) rfl ⟨by decide, by decide, Nat.le_of_eq (Nat.zero_add _), Nat.le_of_eq (Nat.zero_add _), Nat.le_of_ble_eq_true rfl⟩ ⟨dX8_isFree_55, rfl⟩ ?_
    clear hv8
    refine Ev.if_eq jX8_isFree_58 (fun hc => ?_) (fun hc => ?_)
    · replace h := (if_pos hc).symm.trans h; clear hc
      exact e_X8_isFree_73 Θ D z _ _ _ _ _ _ h
    · replace h := (if_neg hc).symm.trans h; clear hc
      refine Ev.aload_n (q := 0) ⟨dX8_isFree_61, rfl⟩ rfl rfl ?_
      refine Ev.iload_n (q := 2) ⟨dX8_isFree_62, rfl⟩ rfl rfl ?_
      obtain ⟨r35, hv34, h⟩ := bnd_s h
      refine Ev.callV1 (mc1 := 0) (ms1 := 0) (v := vi r35) (h1 := hq D r7.2) vX8_177 (c_X8_hasLease Θ D z _ _ _ _ hv34) rfl rfl (by decide) rfl ⟨by decide, by decide, Nat.le_of_eq (Nat.zero_add _), Nat.le_of_eq (Nat.zero_add _), Nat.le_of_ble_eq_true rfl⟩ ⟨dX8_isFree_63, rfl⟩ ?_
      clear hv34
      refine Ev.if_eq jX8_isFree_66 (fun hc => ?_) (fun hc => ?_)
      · replace h := (if_pos hc).symm.trans h; clear hc
        exact e_X8_isFree_73 Θ D z _ _ _ _ _ _ h
      · replace h := (if_neg hc).symm.trans h; clear hc
        refine Ev.iconst ⟨dX8_isFree_69, rfl⟩ (inRd rfl) ?_
        refine Ev.goto jX8_isFree_70 ?_
        exact e_X8_isFree_74 Θ D z _ _ _ _ _ _ _ h

def F_X8_isFree_27 (z : Nat) (v0 : Nat) (v1 : Int) (v2 : Int) (u0 : Int) (u1 : Nat) (x : Mm) : Option (Int × Mm) := (F_X8_fails z (u1) (u0) ((1 : Int)) x).bind fun r5 => if r5.1 = 0 then (if v1 = v2 then (F_X8_isFree_45 z (v0) (v1) (v2) ((0 : Int)) (v0) r5.2) else (F_X8_isFree_45 z (v0) (v1) (v2) ((1 : Int)) (v0) r5.2)) else (some (((0 : Int), r5.2)))
set_option maxHeartbeats 4000000 in
set_option maxRecDepth 20000 in
theorem e_X8_isFree_27 (Θ : GC) (D : Nat → Nat → Prop) (z : Nat) (v0 : Nat) (v1 : Int) (v2 : Int) (u0 : Int) (u1 : Nat) (x : Mm) (y) (h : F_X8_isFree_27 z v0 v1 v2 u0 u1 x = some y) : Ev Θ mX8_isFree 6 137 0 0 27 [(0, vr 8 (v0 + 1)), (1, vi (v1)), (2, vi (v2))] [vi (u0), vr 8 (u1 + 1)] (hq D x) (Ret (vi y.1) (hq D y.2)) := by
  unfold F_X8_isFree_27 at h
  refine Ev.iconst ⟨dX8_isFree_27, rfl⟩ (inRd rfl) ?_
  obtain ⟨r5, hv4, h⟩ := bnd_s h
  refine Ev.callV1 (mc1 := 0) (ms1 := 0) (v := vi r5.1) (h1 := hq D r5.2) vX8_49 (c_X8_fails Θ D z _ _ _ _ _ hv4) rfl rfl (by decide) rfl ⟨by decide, by decide, Nat.le_of_eq (Nat.zero_add _), Nat.le_of_eq (Nat.zero_add _), Nat.le_of_ble_eq_true rfl⟩ ⟨dX8_isFree_28, rfl⟩ ?_
  clear hv4
  refine Ev.if_ne jX8_isFree_31 (fun hc => ?_) (fun hc => ?_)
  · replace h := (if_neg hc).symm.trans h; clear hc
    refine Ev.iconst ⟨dX8_isFree_81, rfl⟩ (inRd rfl) ?_
    obtain rfl := Option.some.inj h
    exact Ev.ireturn (ty := .boolean) ⟨dX8_isFree_82, rfl⟩ rfl rfl ⟨rfl, rfl⟩
  · replace h := (if_pos hc).symm.trans h; clear hc
    refine Ev.aload_n (q := 0) ⟨dX8_isFree_34, rfl⟩ rfl rfl ?_
    refine Ev.iload_n (q := 1) ⟨dX8_isFree_35, rfl⟩ rfl rfl ?_
    refine Ev.iload_n (q := 2) ⟨dX8_isFree_36, rfl⟩ rfl rfl ?_
    refine Ev.icmp_eq jX8_isFree_37 (fun hc => ?_) (fun hc => ?_)
    · replace h := (if_pos hc).symm.trans h; clear hc
      refine Ev.iconst ⟨dX8_isFree_44, rfl⟩ (inRd rfl) ?_
      exact e_X8_isFree_45 Θ D z _ _ _ _ _ _ _ h
    · replace h := (if_neg hc).symm.trans h; clear hc
      refine Ev.iconst ⟨dX8_isFree_40, rfl⟩ (inRd rfl) ?_
      refine Ev.goto jX8_isFree_41 ?_
      exact e_X8_isFree_45 Θ D z _ _ _ _ _ _ _ h

def F_X8_isFree_26 (z : Nat) (v0 : Nat) (v1 : Int) (v2 : Int) (u0 : Nat) (x : Mm) : Option (Int × Mm) := F_X8_isFree_27 z (v0) (v1) (v2) ((0 : Int)) (u0) x
set_option maxHeartbeats 4000000 in
set_option maxRecDepth 20000 in
theorem e_X8_isFree_26 (Θ : GC) (D : Nat → Nat → Prop) (z : Nat) (v0 : Nat) (v1 : Int) (v2 : Int) (u0 : Nat) (x : Mm) (y) (h : F_X8_isFree_26 z v0 v1 v2 u0 x = some y) : Ev Θ mX8_isFree 6 137 0 0 26 [(0, vr 8 (v0 + 1)), (1, vi (v1)), (2, vi (v2))] [vr 8 (u0 + 1)] (hq D x) (Ret (vi y.1) (hq D y.2)) := by
  unfold F_X8_isFree_26 at h
  refine Ev.iconst ⟨dX8_isFree_26, rfl⟩ (inRd rfl) ?_
  exact e_X8_isFree_27 Θ D z _ _ _ _ _ _ _ h
def F_X8_isFree (z : Nat) (v0 : Nat) (v1 : Int) (v2 : Int) (x : Mm) : Option (Int × Mm) := (some (wI x 8 v0 0 ((0 : Int)))).bind fun x1 => (F_X8_isClient z (v0) (v1) x1).bind fun r3 => if r3 = 0 then (F_X8_isFree_26 z (v0) (v1) (v2) (v0) x1) else ((F_X8_isClient z (v0) (v2) x1).bind fun r37 => if r37 = 0 then (F_X8_isFree_26 z (v0) (v1) (v2) (v0) x1) else (F_X8_isFree_27 z (v0) (v1) (v2) ((1 : Int)) (v0) x1))
set_option maxHeartbeats 4000000 in
set_option maxRecDepth 20000 in
theorem c_X8_isFree (Θ : GC) (D : Nat → Nat → Prop) (z : Nat) (v0 : Nat) (v1 : Int) (v2 : Int) (x : Mm) (y) (h : F_X8_isFree z v0 v1 v2 x = some y) : Cal Θ mX8_isFree 6 137 0 0 [vr 8 (v0 + 1), vi (v1), vi (v2)] (hq D x) (Ret (vi y.1) (hq D y.2)) := by
  refine Cal.of (by decide +kernel) rfl rfl (Nat.le_of_ble_eq_true rfl) ?_
  show Ev Θ mX8_isFree 6 137 0 0 0 [(0, vr 8 (v0 + 1)), (1, vi (v1)), (2, vi (v2))] [] (hq D x) (Ret (vi y.1) (hq D y.2))
  unfold F_X8_isFree at h
  refine Ev.aload_n (q := 0) ⟨dX8_isFree_0, rfl⟩ rfl rfl ?_
  refine Ev.iconst ⟨dX8_isFree_1, rfl⟩ (inRd rfl) ?_
  obtain ⟨x1, ex, h⟩ := bnd_s h
  refine Ev.putI fX8_38 ⟨dX8_isFree_2, rfl⟩ ?_
  refine Ev.cast ?_ rfl rfl (hqI ex)
  clear ex
  refine Ev.aload_n (q := 0) ⟨dX8_isFree_5, rfl⟩ rfl rfl ?_
  refine Ev.aload_n (q := 0) ⟨dX8_isFree_6, rfl⟩ rfl rfl ?_
  refine Ev.iload_n (q := 1) ⟨dX8_isFree_7, rfl⟩ rfl rfl ?_
  obtain ⟨r3, hv2, h⟩ := bnd_s h
  refine Ev.callV1 (mc1 := 0) (ms1 := 0) (v := vi r3) (h1 := hq D x1) vX8_188 (c_X8_isClient Θ D z _ _ _ _ hv2) rfl rfl (by decide) rfl ⟨by decide, by decide, Nat.le_of_eq (Nat.zero_add _), Nat.le_of_eq (Nat.zero_add _), Nat.le_of_ble_eq_true rfl⟩ ⟨dX8_isFree_8, rfl⟩ ?_
  clear hv2
  refine Ev.if_eq jX8_isFree_11 (fun hc => ?_) (fun hc => ?_)
  · replace h := (if_pos hc).symm.trans h; clear hc
    exact e_X8_isFree_26 Θ D z _ _ _ _ _ _ h
  · replace h := (if_neg hc).symm.trans h; clear hc
    refine Ev.aload_n (q := 0) ⟨dX8_isFree_14, rfl⟩ rfl rfl ?_
    refine Ev.iload_n (q := 2) ⟨dX8_isFree_15, rfl⟩ rfl rfl ?_
    obtain ⟨r37, hv36, h⟩ := bnd_s h
    refine Ev.callV1 (mc1 := 0) (ms1 := 0) (v := vi r37) (h1 := hq D x1) vX8_188 (c_X8_isClient Θ D z _ _ _ _ hv36) rfl rfl (by decide) rfl ⟨by decide, by decide, Nat.le_of_eq (Nat.zero_add _), Nat.le_of_eq (Nat.zero_add _), Nat.le_of_ble_eq_true rfl⟩ ⟨dX8_isFree_16, rfl⟩ ?_
    clear hv36
    refine Ev.if_eq jX8_isFree_19 (fun hc => ?_) (fun hc => ?_)
    · replace h := (if_pos hc).symm.trans h; clear hc
      exact e_X8_isFree_26 Θ D z _ _ _ _ _ _ h
    · replace h := (if_neg hc).symm.trans h; clear hc
      refine Ev.iconst ⟨dX8_isFree_22, rfl⟩ (inRd rfl) ?_
      refine Ev.goto jX8_isFree_23 ?_
      exact e_X8_isFree_27 Θ D z _ _ _ _ _ _ _ h

def F_X8_conflictCount (z : Nat) (v0 : Nat) (x : Mm) : Option (Int × Mm) := (some (wI x 8 v0 0 ((0 : Int)))).bind fun x1 => ckI (4 : Int) 5366 <| some (((x1.1 27 0 ((4 : Int)).toNat), x1))
set_option maxHeartbeats 4000000 in
set_option maxRecDepth 20000 in
theorem c_X8_conflictCount (Θ : GC) (D : Nat → Nat → Prop) (z : Nat) (v0 : Nat) (x : Mm) (y) (h : F_X8_conflictCount z v0 x = some y) : Cal Θ mX8_conflictCount 0 0 0 0 [vr 8 (v0 + 1)] (hq D x) (Ret (vi y.1) (hq D y.2)) := by
  refine Cal.of (by decide +kernel) rfl rfl (Nat.le_of_ble_eq_true rfl) ?_
  show Ev Θ mX8_conflictCount 0 0 0 0 0 [(0, vr 8 (v0 + 1))] [] (hq D x) (Ret (vi y.1) (hq D y.2))
  unfold F_X8_conflictCount at h
  refine Ev.aload_n (q := 0) ⟨dX8_conflictCount_0, rfl⟩ rfl rfl ?_
  refine Ev.iconst ⟨dX8_conflictCount_1, rfl⟩ (inRd rfl) ?_
  obtain ⟨x1, ex, h⟩ := bnd_s h
  refine Ev.putI fX8_38 ⟨dX8_conflictCount_2, rfl⟩ ?_
  refine Ev.cast ?_ rfl rfl (hqI ex)
  clear ex
  refine Ev.aload_n (q := 0) ⟨dX8_conflictCount_5, rfl⟩ rfl rfl ?_
  refine Ev.getRk (C2 := 27) (r := 0) fX8_13 rfl (by decide) (by decide) ⟨dX8_conflictCount_6, rfl⟩ ?_
  refine Ev.iconst ⟨dX8_conflictCount_9, rfl⟩ (inRd rfl) ?_
  obtain ⟨c2, h⟩ := ckI_s h
  refine Ev.iaload (by decide) c2.1 c2.2 ⟨dX8_conflictCount_10, rfl⟩ ?_
  obtain rfl := Option.some.inj h
  exact Ev.ireturn (ty := .int) ⟨dX8_conflictCount_11, rfl⟩ rfl rfl ⟨rfl, rfl⟩

def F_X8_conflict (z : Nat) (v0 : Nat) (v1 : Int) (v2 : Int) (x : Mm) : Option (Int × Mm) := (some (wI x 8 v0 0 ((0 : Int)))).bind fun x1 => ckI (4 : Int) 5366 <| ckR (((x1.1 27 0 ((4 : Int)).toNat) - (1 : Int))) <| (F_X8_in z (v1) ((0 : Int)) (((x1.1 27 0 ((4 : Int)).toNat) - (1 : Int))) x1).bind fun r5 => (F_X8_fails z (v0) (r5) ((1 : Int)) x1).bind fun r7 => if r7.1 = 0 then ((F_X8_in z (v2) ((0 : Int)) ((5 : Int)) r7.2).bind fun r9 => (F_X8_fails z (v0) (r9) ((2 : Int)) r7.2).bind fun r11 => if r11.1 = 0 then (ckR (((6 : Int) * v1)) <| ckR (((626 : Int) + ((6 : Int) * v1))) <| ckR ((((626 : Int) + ((6 : Int) * v1)) + v2)) <| ckI (((626 : Int) + ((6 : Int) * v1)) + v2) 5366 <| some (((r11.2.1 27 0 ((((626 : Int) + ((6 : Int) * v1)) + v2)).toNat), r11.2))) else (some (((0 : Int), r11.2)))) else (some (((0 : Int), r7.2)))
set_option maxHeartbeats 4000000 in
set_option maxRecDepth 20000 in
theorem c_X8_conflict (Θ : GC) (D : Nat → Nat → Prop) (z : Nat) (v0 : Nat) (v1 : Int) (v2 : Int) (x : Mm) (y) (h : F_X8_conflict z v0 v1 v2 x = some y) : Cal Θ mX8_conflict 1 22 0 0 [vr 8 (v0 + 1), vi (v1), vi (v2)] (hq D x) (Ret (vi y.1) (hq D y.2)) := by
  refine Cal.of (by decide +kernel) rfl rfl (Nat.le_of_ble_eq_true rfl) ?_
  show Ev Θ mX8_conflict 1 22 0 0 0 [(0, vr 8 (v0 + 1)), (1, vi (v1)), (2, vi (v2))] [] (hq D x) (Ret (vi y.1) (hq D y.2))
  unfold F_X8_conflict at h
  refine Ev.aload_n (q := 0) ⟨dX8_conflict_0, rfl⟩ rfl rfl ?_
  refine Ev.iconst ⟨dX8_conflict_1, rfl⟩ (inRd rfl) ?_
  obtain ⟨x1, ex, h⟩ := bnd_s h
  refine Ev.putI fX8_38 ⟨dX8_conflict_2, rfl⟩ ?_
  refine Ev.cast ?_ rfl rfl (hqI ex)
  clear ex
  refine Ev.aload_n (q := 0) ⟨dX8_conflict_5, rfl⟩ rfl rfl ?_
  refine Ev.iload_n (q := 1) ⟨dX8_conflict_6, rfl⟩ rfl rfl ?_
  refine Ev.iconst ⟨dX8_conflict_7, rfl⟩ (inRd rfl) ?_
  refine Ev.aload_n (q := 0) ⟨dX8_conflict_8, rfl⟩ rfl rfl ?_
  refine Ev.getRk (C2 := 27) (r := 0) fX8_13 rfl (by decide) (by decide) ⟨dX8_conflict_9, rfl⟩ ?_
  refine Ev.iconst ⟨dX8_conflict_12, rfl⟩ (inRd rfl) ?_
  obtain ⟨c2, h⟩ := ckI_s h
  refine Ev.iaload (by decide) c2.1 c2.2 ⟨dX8_conflict_13, rfl⟩ ?_
  refine Ev.iconst ⟨dX8_conflict_14, rfl⟩ (inRd rfl) ?_
  obtain ⟨c3, h⟩ := ckR_s h
  refine Ev.isub ⟨dX8_conflict_15, rfl⟩ c3 ?_
  obtain ⟨r5, hv4, h⟩ := bnd_s h
  refine Ev.callS1 (mc1 := 0) (ms1 := 0) (v := vi r5) (h1 := hq D x1) sX8_53 (c_X8_in Θ D z _ _ _ _ _ hv4) rfl rfl ⟨by decide, by decide, Nat.le_of_eq (Nat.zero_add _), Nat.le_of_eq (Nat.zero_add _), Nat.le_of_ble_eq_true rfl⟩ ⟨dX8_conflict_16, rfl⟩ ?_
  clear hv4
  refine Ev.iconst ⟨dX8_conflict_19, rfl⟩ (inRd rfl) ?_
  obtain ⟨r7, hv6, h⟩ := bnd_s h
  refine Ev.callV1 (mc1 := 0) (ms1 := 0) (v := vi r7.1) (h1 := hq D r7.2) vX8_49 (c_X8_fails Θ D z _ _ _ _ _ hv6) rfl rfl (by decide) rfl ⟨by decide, by decide, Nat.le_of_eq (Nat.zero_add _), Nat.le_of_eq (Nat.zero_add _), Nat.le_of_ble_eq_true rfl⟩ ⟨dX8_conflict_20, rfl⟩ ?_
  clear hv6
  refine Ev.if_ne jX8_conflict_23 (fun hc => ?_) (fun hc => ?_)
  · replace h := (if_neg hc).symm.trans h; clear hc
    refine Ev.iconst ⟨dX8_conflict_40, rfl⟩ (inRd rfl) ?_
    refine Ev.goto jX8_conflict_41 ?_
    obtain rfl := Option.some.inj h
    exact Ev.ireturn (ty := .int) ⟨dX8_conflict_59, rfl⟩ rfl rfl ⟨rfl, rfl⟩
  · replace h := (if_pos hc).symm.trans h; clear hc
    refine Ev.aload_n (q := 0) ⟨dX8_conflict_26, rfl⟩ rfl rfl ?_
    refine Ev.iload_n (q := 2) ⟨dX8_conflict_27, rfl⟩ rfl rfl ?_
    refine Ev.iconst ⟨dX8_conflict_28, rfl⟩ (inRd rfl) ?_
    refine Ev.iconst ⟨dX8_conflict_29, rfl⟩ (inRd rfl) ?_
    obtain ⟨r9, hv8, h⟩ := bnd_s h
    refine Ev.callS1 (mc1 := 0) (ms1 := 0) (v := vi r9) (h1 := hq D r7.2) sX8_53 (c_X8_in Θ D z _ _ _ _ _ hv8) rfl rfl ⟨by decide, by decide, Nat.le_of_eq (Nat.zero_add _), Nat.le_of_eq (Nat.zero_add _), Nat.le_of_ble_eq_true rfl⟩ ⟨dX8_conflict_30, rfl⟩ ?_
    clear hv8
    refine Ev.iconst ⟨dX8_conflict_33, rfl⟩ (inRd rfl) ?_
    obtain ⟨r11, hv10, h⟩ := bnd_s h
    refine Ev.callV1 (mc1 := 0) (ms1 := 0) (v := vi r11.1) (h1 := hq D r11.2) vX8_49 (c_X8_fails Θ D z _ _ _ _ _ hv10) rfl rfl (by decide) rfl ⟨by decide, by decide, Nat.le_of_eq (Nat.zero_add _), Nat.le_of_eq (Nat.zero_add _), Nat.le_of_ble_eq_true rfl⟩ ⟨dX8_conflict_34, rfl⟩ ?_
    clear hv10
    refine Ev.if_eq jX8_conflict_37 (fun hc => ?_) (fun hc => ?_)
    · replace h := (if_pos hc).symm.trans h; clear hc
      refine Ev.aload_n (q := 0) ⟨dX8_conflict_44, rfl⟩ rfl rfl ?_
      refine Ev.getRk (C2 := 27) (r := 0) fX8_13 rfl (by decide) (by decide) ⟨dX8_conflict_45, rfl⟩ ?_
      refine Ev.sipush ⟨dX8_conflict_48, rfl⟩ (inRd rfl) (by decide) ?_
      refine Ev.bipush ⟨dX8_conflict_51, rfl⟩ (inRd rfl) (by decide) ?_
      refine Ev.iload_n (q := 1) ⟨dX8_conflict_53, rfl⟩ rfl rfl ?_
      obtain ⟨c12, h⟩ := ckR_s h
      refine Ev.imul ⟨dX8_conflict_54, rfl⟩ c12 ?_
      obtain ⟨c13, h⟩ := ckR_s h
      refine Ev.iadd ⟨dX8_conflict_55, rfl⟩ c13 ?_
      refine Ev.iload_n (q := 2) ⟨dX8_conflict_56, rfl⟩ rfl rfl ?_
      obtain ⟨c14, h⟩ := ckR_s h
      refine Ev.iadd ⟨dX8_conflict_57, rfl⟩ c14 ?_
      obtain ⟨c15, h⟩ := ckI_s h
      refine Ev.iaload (by decide) c15.1 c15.2 ⟨dX8_conflict_58, rfl⟩ ?_
      obtain rfl := Option.some.inj h
      exact Ev.ireturn (ty := .int) ⟨dX8_conflict_59, rfl⟩ rfl rfl ⟨rfl, rfl⟩
    · replace h := (if_neg hc).symm.trans h; clear hc
      refine Ev.iconst ⟨dX8_conflict_40, rfl⟩ (inRd rfl) ?_
      refine Ev.goto jX8_conflict_41 ?_
      obtain rfl := Option.some.inj h
      exact Ev.ireturn (ty := .int) ⟨dX8_conflict_59, rfl⟩ rfl rfl ⟨rfl, rfl⟩

def F_X8_conflictsOf_25 (z : Nat) (v0 : Nat) (v1 : Int) (x : Mm) : Nat → Int → Int → Option (Int)
  | 0, _, _ => none
  | k + 1, v2, v3 => ckI (4 : Int) 5366 <| if (x.1 27 0 ((4 : Int)).toNat) ≤ v3 then (some (v2)) else (ckR (((6 : Int) * v3)) <| ckR (((626 : Int) + ((6 : Int) * v3))) <| ckR ((((626 : Int) + ((6 : Int) * v3)) + (0 : Int))) <| ckI (((626 : Int) + ((6 : Int) * v3)) + (0 : Int)) 5366 <| if (x.1 27 0 ((((626 : Int) + ((6 : Int) * v3)) + (0 : Int))).toNat) = v1 then (ckR ((v2 + (1 : Int))) <| ckR ((v3 + 1)) <| F_X8_conflictsOf_25 z v0 v1 x k ((v2 + (1 : Int))) ((v3 + 1))) else (ckR ((v2 + (0 : Int))) <| ckR ((v3 + 1)) <| F_X8_conflictsOf_25 z v0 v1 x k ((v2 + (0 : Int))) ((v3 + 1))))
set_option maxHeartbeats 4000000 in
set_option maxRecDepth 20000 in
theorem e_X8_conflictsOf_25 (Θ : GC) (D : Nat → Nat → Prop) (z : Nat) (v0 : Nat) (v1 : Int) (x : Mm) (Q : Ro → Hp → Prop) (mc ms : Nat) : ∀ (k : Nat) (v2 : Int) (v3 : Int) (y), F_X8_conflictsOf_25 z v0 v1 x k v2 v3 = some y → (Ev Θ mX8_conflictsOf 1 22 mc ms 68 [(0, vr 8 (v0 + 1)), (1, vi (v1)), (2, vi (y))] [] (hq D x) Q) → Ev Θ mX8_conflictsOf 1 22 mc ms 25 [(0, vr 8 (v0 + 1)), (1, vi (v1)), (2, vi (v2)), (3, vi (v3))] [] (hq D x) Q := by
  intro k
  induction k with
  | zero => intro v2 v3 y h; exact absurd h (by unfold F_X8_conflictsOf_25; exact nofun)
  | succ k ih =>
    intro v2 v3 y h k1
    unfold F_X8_conflictsOf_25 at h
    refine Ev.iload_n (q := 3) ⟨dX8_conflictsOf_25, rfl⟩ rfl rfl ?_
    refine Ev.aload_n (q := 0) ⟨dX8_conflictsOf_26, rfl⟩ rfl rfl ?_
    refine Ev.getRk (C2 := 27) (r := 0) fX8_13 rfl (by decide) (by decide) ⟨dX8_conflictsOf_27, rfl⟩ ?_
    refine Ev.iconst ⟨dX8_conflictsOf_30, rfl⟩ (inRd rfl) ?_
    obtain ⟨c6, h⟩ := ckI_s h
    refine Ev.iaload (by decide) c6.1 c6.2 ⟨dX8_conflictsOf_31, rfl⟩ ?_
    refine Ev.icmp_ge jX8_conflictsOf_32 (fun hc => ?_) (fun hc => ?_)
    · replace h := (if_pos hc).symm.trans h; clear hc
      refine Ev.keep [0, 1, 2] rfl ?_
      obtain rfl := Option.some.inj h
      exact k1
    · replace h := (if_neg hc).symm.trans h; clear hc
      refine Ev.iload_n (q := 2) ⟨dX8_conflictsOf_35, rfl⟩ rfl rfl ?_
      refine Ev.aload_n (q := 0) ⟨dX8_conflictsOf_36, rfl⟩ rfl rfl ?_
      refine Ev.getRk (C2 := 27) (r := 0) fX8_13 rfl (by decide) (by decide) ⟨dX8_conflictsOf_37, rfl⟩ ?_
      refine Ev.sipush ⟨dX8_conflictsOf_40, rfl⟩ (inRd rfl) (by decide) ?_
      refine Ev.bipush ⟨dX8_conflictsOf_43, rfl⟩ (inRd rfl) (by decide) ?_
      refine Ev.iload_n (q := 3) ⟨dX8_conflictsOf_45, rfl⟩ rfl rfl ?_
      obtain ⟨c7, h⟩ := ckR_s h
      refine Ev.imul ⟨dX8_conflictsOf_46, rfl⟩ c7 ?_
      obtain ⟨c8, h⟩ := ckR_s h
      refine Ev.iadd ⟨dX8_conflictsOf_47, rfl⟩ c8 ?_
      refine Ev.iconst ⟨dX8_conflictsOf_48, rfl⟩ (inRd rfl) ?_
      obtain ⟨c9, h⟩ := ckR_s h
      refine Ev.iadd ⟨dX8_conflictsOf_49, rfl⟩ c9 ?_
      obtain ⟨c10, h⟩ := ckI_s h
      refine Ev.iaload (by decide) c10.1 c10.2 ⟨dX8_conflictsOf_50, rfl⟩ ?_
      refine Ev.iload_n (q := 1) ⟨dX8_conflictsOf_51, rfl⟩ rfl rfl ?_
      refine Ev.icmp_ne jX8_conflictsOf_52 (fun hc => ?_) (fun hc => ?_)
      · replace h := (if_neg hc).symm.trans h; clear hc
        refine Ev.iconst ⟨dX8_conflictsOf_59, rfl⟩ (inRd rfl) ?_
        obtain ⟨c11, h⟩ := ckR_s h
        refine Ev.iadd ⟨dX8_conflictsOf_60, rfl⟩ c11 ?_
        refine Ev.istore_n (i := 2) (ls' := [(0, _), (1, _), (2, _), (3, _)]) ⟨dX8_conflictsOf_61, rfl⟩ rfl (by decide) rfl ?_
        obtain ⟨c12, h⟩ := ckR_s h
        refine Ev.iinc (q := 3) (ls' := [(0, _), (1, _), (2, _), (3, _)]) ⟨dX8_conflictsOf_62, rfl⟩ rfl (by decide) c12 rfl ?_
        refine Ev.goto jX8_conflictsOf_65 ?_
        exact ih _ _ _ h k1
      · replace h := (if_pos hc).symm.trans h; clear hc
        refine Ev.iconst ⟨dX8_conflictsOf_55, rfl⟩ (inRd rfl) ?_
        refine Ev.goto jX8_conflictsOf_56 ?_
        obtain ⟨c13, h⟩ := ckR_s h
        refine Ev.iadd ⟨dX8_conflictsOf_60, rfl⟩ c13 ?_
        refine Ev.istore_n (i := 2) (ls' := [(0, _), (1, _), (2, _), (3, _)]) ⟨dX8_conflictsOf_61, rfl⟩ rfl (by decide) rfl ?_
        obtain ⟨c14, h⟩ := ckR_s h
        refine Ev.iinc (q := 3) (ls' := [(0, _), (1, _), (2, _), (3, _)]) ⟨dX8_conflictsOf_62, rfl⟩ rfl (by decide) c14 rfl ?_
        refine Ev.goto jX8_conflictsOf_65 ?_
        exact ih _ _ _ h k1
def F_X8_conflictsOf (z : Nat) (v0 : Nat) (v1 : Int) (x : Mm) : Option (Int × Mm) := (some (wI x 8 v0 0 ((0 : Int)))).bind fun x1 => (F_X8_in z (v1) ((0 : Int)) ((4 : Int)) x1).bind fun r3 => (F_X8_fails z (v0) (r3) ((1 : Int)) x1).bind fun r5 => if r5.1 = 0 then ((F_X8_conflictsOf_25 z (v0) (v1) r5.2 z ((0 : Int)) ((0 : Int))).bind fun s15 => some ((s15, r5.2))) else (some (((0 : Int), r5.2)))
set_option maxHeartbeats 4000000 in
set_option maxRecDepth 20000 in
theorem c_X8_conflictsOf (Θ : GC) (D : Nat → Nat → Prop) (z : Nat) (v0 : Nat) (v1 : Int) (x : Mm) (y) (h : F_X8_conflictsOf z v0 v1 x = some y) : Cal Θ mX8_conflictsOf 1 22 0 0 [vr 8 (v0 + 1), vi (v1)] (hq D x) (Ret (vi y.1) (hq D y.2)) := by
  refine Cal.of (by decide +kernel) rfl rfl (Nat.le_of_ble_eq_true rfl) ?_
  show Ev Θ mX8_conflictsOf 1 22 0 0 0 [(0, vr 8 (v0 + 1)), (1, vi (v1))] [] (hq D x) (Ret (vi y.1) (hq D y.2))
  unfold F_X8_conflictsOf at h
  refine Ev.aload_n (q := 0) ⟨dX8_conflictsOf_0, rfl⟩ rfl rfl ?_
  refine Ev.iconst ⟨dX8_conflictsOf_1, rfl⟩ (inRd rfl) ?_
  obtain ⟨x1, ex, h⟩ := bnd_s h
  refine Ev.putI fX8_38 ⟨dX8_conflictsOf_2, rfl⟩ ?_
  refine Ev.cast ?_ rfl rfl (hqI ex)
  clear ex
  refine Ev.aload_n (q := 0) ⟨dX8_conflictsOf_5, rfl⟩ rfl rfl ?_
  refine Ev.iload_n (q := 1) ⟨dX8_conflictsOf_6, rfl⟩ rfl rfl ?_
  refine Ev.iconst ⟨dX8_conflictsOf_7, rfl⟩ (inRd rfl) ?_
  refine Ev.iconst ⟨dX8_conflictsOf_8, rfl⟩ (inRd rfl) ?_
  obtain ⟨r3, hv2, h⟩ := bnd_s h
  refine Ev.callS1 (mc1 := 0) (ms1 := 0) (v := vi r3) (h1 := hq D x1) sX8_53 (c_X8_in Θ D z _ _ _ _ _ hv2) rfl rfl ⟨by decide, by decide, Nat.le_of_eq (Nat.zero_add _), Nat.le_of_eq (Nat.zero_add _), Nat.le_of_ble_eq_true rfl⟩ ⟨dX8_conflictsOf_9, rfl⟩ ?_
  clear hv2
  refine Ev.iconst ⟨dX8_conflictsOf_12, rfl⟩ (inRd rfl) ?_
  obtain ⟨r5, hv4, h⟩ := bnd_s h
  refine Ev.callV1 (mc1 := 0) (ms1 := 0) (v := vi r5.1) (h1 := hq D r5.2) vX8_49 (c_X8_fails Θ D z _ _ _ _ _ hv4) rfl rfl (by decide) rfl ⟨by decide, by decide, Nat.le_of_eq (Nat.zero_add _), Nat.le_of_eq (Nat.zero_add _), Nat.le_of_ble_eq_true rfl⟩ ⟨dX8_conflictsOf_13, rfl⟩ ?_
  clear hv4
  refine Ev.if_eq jX8_conflictsOf_16 (fun hc => ?_) (fun hc => ?_)
  · replace h := (if_pos hc).symm.trans h; clear hc
    refine Ev.iconst ⟨dX8_conflictsOf_21, rfl⟩ (inRd rfl) ?_
    refine Ev.istore_n (i := 2) (ls' := [(0, _), (1, _), (2, _)]) ⟨dX8_conflictsOf_22, rfl⟩ rfl (by decide) rfl ?_
    refine Ev.iconst ⟨dX8_conflictsOf_23, rfl⟩ (inRd rfl) ?_
    refine Ev.istore_n (i := 3) (ls' := [(0, _), (1, _), (2, _), (3, _)]) ⟨dX8_conflictsOf_24, rfl⟩ rfl (by decide) rfl ?_
    obtain ⟨s15, hl, h⟩ := bnd_s h
    refine e_X8_conflictsOf_25 Θ D z _ _ _ _ _ _ _ _ _ _ hl ?_
    clear hl
    refine Ev.iload_n (q := 2) ⟨dX8_conflictsOf_68, rfl⟩ rfl rfl ?_
    obtain rfl := Option.some.inj h
    exact Ev.ireturn (ty := .int) ⟨dX8_conflictsOf_69, rfl⟩ rfl rfl ⟨rfl, rfl⟩
  · replace h := (if_neg hc).symm.trans h; clear hc
    refine Ev.iconst ⟨dX8_conflictsOf_19, rfl⟩ (inRd rfl) ?_
    obtain rfl := Option.some.inj h
    exact Ev.ireturn (ty := .int) ⟨dX8_conflictsOf_20, rfl⟩ rfl rfl ⟨rfl, rfl⟩
