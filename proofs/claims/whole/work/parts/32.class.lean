def F_X0_reset (z : Nat) (v0 : Nat) (x : Mm) : Option (Mm) := (F_X7_bit z ((0 : Int)) x).bind fun r2 => (some (wL x 0 v0 0 (r2))).bind fun x3 => (F_J7_fill_53178 z (v0) ((0 : Int)) x3).bind fun r5 => some (r5)
set_option maxHeartbeats 4000000 in
set_option maxRecDepth 20000 in
theorem c_X0_reset (Θ : GC) (D : Nat → Nat → Prop) (z : Nat) (v0 : Nat) (x : Mm) (y) (h : F_X0_reset z v0 x = some y) : Cal Θ mX0_reset 1 23 0 0 [vr 0 (v0 + 1)] (hq D x) (RetN (hq D y)) := by
  refine Cal.of (by decide +kernel) rfl rfl (Nat.le_of_ble_eq_true rfl) ?_
  show Ev Θ mX0_reset 1 23 0 0 0 [(0, vr 0 (v0 + 1))] [] (hq D x) (RetN (hq D y))
  unfold F_X0_reset at h
  refine Ev.aload_n (q := 0) ⟨dX0_reset_0, rfl⟩ rfl rfl ?_
  refine Ev.iconst ⟨dX0_reset_1, rfl⟩ (inRd rfl) ?_
  obtain ⟨r2, hv1, h⟩ := bnd_s h
  refine Ev.callN1 (mc1 := 0) (ms1 := 0) (v := vl r2) (h1 := hq D x) nX0_15 (c_X7_bit Θ D z _ _ _ hv1) rfl rfl ⟨by decide, by decide, Nat.le_of_eq (Nat.zero_add _), Nat.le_of_eq (Nat.zero_add _), Nat.le_of_ble_eq_true rfl⟩ ⟨dX0_reset_2, rfl⟩ ?_
  clear hv1
  obtain ⟨x3, ex, h⟩ := bnd_s h
  refine Ev.putL fX0_19 ⟨dX0_reset_5, rfl⟩ ?_
  refine Ev.cast ?_ rfl rfl (hqL ex)
  clear ex
  refine Ev.aload_n (q := 0) ⟨dX0_reset_8, rfl⟩ rfl rfl ?_
  refine Ev.getRk (C2 := 23) (r := v0) fX0_9 rfl (by decide) (by decide) ⟨dX0_reset_9, rfl⟩ ?_
  refine Ev.iconst ⟨dX0_reset_12, rfl⟩ (inRd rfl) ?_
  obtain ⟨r5, hv4, h⟩ := bnd_s h
  refine Ev.callSV (mc1 := 0) (ms1 := 0) (h1 := hq D r5) sX0_23 (c_J7_fill_53178 Θ D z _ _ _ _ hv4) rfl rfl ⟨by decide, by decide, Nat.le_of_eq (Nat.zero_add _), Nat.le_of_eq (Nat.zero_add _), Nat.le_of_ble_eq_true rfl⟩ ⟨dX0_reset_13, rfl⟩ ?_
  clear hv4
  obtain rfl := Option.some.inj h
  exact Ev.ret ⟨dX0_reset_16, rfl⟩ rfl ⟨rfl, rfl⟩

def F_X0_copyFrom (z : Nat) (v0 : Nat) (v1 : Nat) (x : Mm) : Option (Mm) := (some (wL x 0 v0 0 ((x.2 0 v1 0)))).bind fun x1 => ckC (0 : Int) (0 : Int) (360 : Int) 360 <| (some (wC x1 23 v1 ((0 : Int)).toNat v0 ((0 : Int)).toNat ((360 : Int)).toNat)).bind fun x3 => some (x3)
set_option maxHeartbeats 4000000 in
set_option maxRecDepth 20000 in
theorem c_X0_copyFrom (Θ : GC) (D : Nat → Nat → Prop) (z : Nat) (v0 : Nat) (v1 : Nat) (x : Mm) (y) (h : F_X0_copyFrom z v0 v1 x = some y) : Cal Θ mX0_copyFrom 1 26 0 0 [vr 0 (v0 + 1), vr 0 (v1 + 1)] (hq D x) (RetN (hq D y)) := by
  refine Cal.of (by decide +kernel) rfl rfl (Nat.le_of_ble_eq_true rfl) ?_
  show Ev Θ mX0_copyFrom 1 26 0 0 0 [(0, vr 0 (v0 + 1)), (1, vr 0 (v1 + 1))] [] (hq D x) (RetN (hq D y))
  unfold F_X0_copyFrom at h
  refine Ev.aload_n (q := 0) ⟨dX0_copyFrom_0, rfl⟩ rfl rfl ?_
  refine Ev.aload_n (q := 1) ⟨dX0_copyFrom_1, rfl⟩ rfl rfl ?_
  refine Ev.getL fX0_19 ⟨dX0_copyFrom_2, rfl⟩ ?_
  obtain ⟨x1, ex, h⟩ := bnd_s h
  refine Ev.putL fX0_19 ⟨dX0_copyFrom_5, rfl⟩ ?_
  refine Ev.cast ?_ rfl rfl (hqL ex)
  clear ex
  refine Ev.aload_n (q := 1) ⟨dX0_copyFrom_8, rfl⟩ rfl rfl ?_
  refine Ev.getRk (C2 := 23) (r := v1) fX0_9 rfl (by decide) (by decide) ⟨dX0_copyFrom_9, rfl⟩ ?_
  refine Ev.iconst ⟨dX0_copyFrom_12, rfl⟩ (inRd rfl) ?_
  refine Ev.aload_n (q := 0) ⟨dX0_copyFrom_13, rfl⟩ rfl rfl ?_
  refine Ev.getRk (C2 := 23) (r := v0) fX0_9 rfl (by decide) (by decide) ⟨dX0_copyFrom_14, rfl⟩ ?_
  refine Ev.iconst ⟨dX0_copyFrom_17, rfl⟩ (inRd rfl) ?_
  refine Ev.aload_n (q := 0) ⟨dX0_copyFrom_18, rfl⟩ rfl rfl ?_
  refine Ev.getRk (C2 := 23) (r := v0) fX0_9 rfl (by decide) (by decide) ⟨dX0_copyFrom_19, rfl⟩ ?_
  refine Ev.alen (by decide) ⟨dX0_copyFrom_22, rfl⟩ ?_
  obtain ⟨c2, h⟩ := ckC_s h
  obtain ⟨x3, ex, h⟩ := bnd_s h
  refine Ev.copyI (by decide) (by decide) aX0_29 c2.1 c2.2.1 c2.2.2.1 c2.2.2.2.1 c2.2.2.2.2 (by decide) (Nat.le_of_ble_eq_true rfl) ⟨dX0_copyFrom_23, rfl⟩ ?_
  refine Ev.cast ?_ rfl rfl (hqC ex)
  clear ex
  obtain rfl := Option.some.inj h
  exact Ev.ret ⟨dX0_copyFrom_26, rfl⟩ rfl ⟨rfl, rfl⟩

def F_X0_has (z : Nat) (v0 : Nat) (v1 : Int) (x : Mm) : Option (Int) := (F_X7_contains z ((x.2 0 v0 0)) (v1) x).bind fun r2 => ckZ (r2) <| some (r2)
set_option maxHeartbeats 4000000 in
set_option maxRecDepth 20000 in
theorem c_X0_has (Θ : GC) (D : Nat → Nat → Prop) (z : Nat) (v0 : Nat) (v1 : Int) (x : Mm) (y) (h : F_X0_has z v0 v1 x = some y) : Cal Θ mX0_has 1 22 0 0 [vr 0 (v0 + 1), vi (v1)] (hq D x) (Ret (vi y) (hq D x)) := by
  refine Cal.of (by decide +kernel) rfl rfl (Nat.le_of_ble_eq_true rfl) ?_
  show Ev Θ mX0_has 1 22 0 0 0 [(0, vr 0 (v0 + 1)), (1, vi (v1))] [] (hq D x) (Ret (vi y) (hq D x))
  unfold F_X0_has at h
  refine Ev.aload_n (q := 0) ⟨dX0_has_0, rfl⟩ rfl rfl ?_
  refine Ev.getL fX0_19 ⟨dX0_has_1, rfl⟩ ?_
  refine Ev.iload_n (q := 1) ⟨dX0_has_4, rfl⟩ rfl rfl ?_
  obtain ⟨r2, hv1, h⟩ := bnd_s h
  refine Ev.callN1 (mc1 := 0) (ms1 := 0) (v := vi r2) (h1 := hq D x) nX0_35 (c_X7_contains Θ D z _ _ _ _ hv1) rfl rfl ⟨by decide, by decide, Nat.le_of_eq (Nat.zero_add _), Nat.le_of_eq (Nat.zero_add _), Nat.le_of_ble_eq_true rfl⟩ ⟨dX0_has_5, rfl⟩ ?_
  clear hv1
  obtain ⟨c3, h⟩ := ckZ_s h
  obtain rfl := Option.some.inj h
  exact Ev.ireturn (ty := .boolean) ⟨dX0_has_8, rfl⟩ rfl (nz c3) ⟨rfl, rfl⟩

def F_X0_valueOf (z : Nat) (v0 : Nat) (v1 : Int) (v2 : Int) (x : Mm) : Option (Int) := ckR ((v1 * (6 : Int))) <| ckR (((v1 * (6 : Int)) + v2)) <| ckI ((v1 * (6 : Int)) + v2) 360 <| some ((x.1 23 v0 (((v1 * (6 : Int)) + v2)).toNat))
set_option maxHeartbeats 4000000 in
set_option maxRecDepth 20000 in
theorem c_X0_valueOf (Θ : GC) (D : Nat → Nat → Prop) (z : Nat) (v0 : Nat) (v1 : Int) (v2 : Int) (x : Mm) (y) (h : F_X0_valueOf z v0 v1 v2 x = some y) : Cal Θ mX0_valueOf 0 0 0 0 [vr 0 (v0 + 1), vi (v1), vi (v2)] (hq D x) (Ret (vi y) (hq D x)) := by
  refine Cal.of (by decide +kernel) rfl rfl (Nat.le_of_ble_eq_true rfl) ?_
  show Ev Θ mX0_valueOf 0 0 0 0 0 [(0, vr 0 (v0 + 1)), (1, vi (v1)), (2, vi (v2))] [] (hq D x) (Ret (vi y) (hq D x))
  unfold F_X0_valueOf at h
  refine Ev.aload_n (q := 0) ⟨dX0_valueOf_0, rfl⟩ rfl rfl ?_
  refine Ev.getRk (C2 := 23) (r := v0) fX0_9 rfl (by decide) (by decide) ⟨dX0_valueOf_1, rfl⟩ ?_
  refine Ev.iload_n (q := 1) ⟨dX0_valueOf_4, rfl⟩ rfl rfl ?_
  refine Ev.bipush ⟨dX0_valueOf_5, rfl⟩ (inRd rfl) (by decide) ?_
  obtain ⟨c1, h⟩ := ckR_s h
  refine Ev.imul ⟨dX0_valueOf_7, rfl⟩ c1 ?_
  refine Ev.iload_n (q := 2) ⟨dX0_valueOf_8, rfl⟩ rfl rfl ?_
  obtain ⟨c2, h⟩ := ckR_s h
  refine Ev.iadd ⟨dX0_valueOf_9, rfl⟩ c2 ?_
  obtain ⟨c3, h⟩ := ckI_s h
  refine Ev.iaload (by decide) c3.1 c3.2 ⟨dX0_valueOf_10, rfl⟩ ?_
  obtain rfl := Option.some.inj h
  exact Ev.ireturn (ty := .int) ⟨dX0_valueOf_11, rfl⟩ rfl rfl ⟨rfl, rfl⟩

def F_X0_put (z : Nat) (v0 : Nat) (v1 : Int) (v2 : Int) (v3 : Int) (x : Mm) : Option (Mm) := ckR ((v1 * (6 : Int))) <| ckR (((v1 * (6 : Int)) + v2)) <| ckI ((v1 * (6 : Int)) + v2) 360 <| (some (wI x 23 v0 (((v1 * (6 : Int)) + v2)).toNat (v3))).bind fun x4 => some (x4)
set_option maxHeartbeats 4000000 in
set_option maxRecDepth 20000 in
theorem c_X0_put (Θ : GC) (D : Nat → Nat → Prop) (z : Nat) (v0 : Nat) (v1 : Int) (v2 : Int) (v3 : Int) (x : Mm) (y) (h : F_X0_put z v0 v1 v2 v3 x = some y) : Cal Θ mX0_put 0 0 0 0 [vr 0 (v0 + 1), vi (v1), vi (v2), vi (v3)] (hq D x) (RetN (hq D y)) := by
  refine Cal.of (by decide +kernel) rfl rfl (Nat.le_of_ble_eq_true rfl) ?_
  show Ev Θ mX0_put 0 0 0 0 0 [(0, vr 0 (v0 + 1)), (1, vi (v1)), (2, vi (v2)), (3, vi (v3))] [] (hq D x) (RetN (hq D y))
  unfold F_X0_put at h
  refine Ev.aload_n (q := 0) ⟨dX0_put_0, rfl⟩ rfl rfl ?_
  refine Ev.getRk (C2 := 23) (r := v0) fX0_9 rfl (by decide) (by decide) ⟨dX0_put_1, rfl⟩ ?_
  refine Ev.iload_n (q := 1) ⟨dX0_put_4, rfl⟩ rfl rfl ?_
  refine Ev.bipush ⟨dX0_put_5, rfl⟩ (inRd rfl) (by decide) ?_
  obtain ⟨c1, h⟩ := ckR_s h
  refine Ev.imul ⟨dX0_put_7, rfl⟩ c1 ?_
  refine Ev.iload_n (q := 2) ⟨dX0_put_8, rfl⟩ rfl rfl ?_
  obtain ⟨c2, h⟩ := ckR_s h
  refine Ev.iadd ⟨dX0_put_9, rfl⟩ c2 ?_
  refine Ev.iload_n (q := 3) ⟨dX0_put_10, rfl⟩ rfl rfl ?_
  obtain ⟨c3, h⟩ := ckI_s h
  obtain ⟨x4, ex, h⟩ := bnd_s h
  refine Ev.iastore (by decide) c3.1 c3.2 ⟨dX0_put_11, rfl⟩ ?_
  refine Ev.cast ?_ rfl rfl (hqI ex)
  clear ex
  obtain rfl := Option.some.inj h
  exact Ev.ret ⟨dX0_put_12, rfl⟩ rfl ⟨rfl, rfl⟩

def F_X0_takeFields (z : Nat) (v0 : Nat) (v1 : Nat) (v2 : Int) (x : Mm) : Option (Mm) := ckR ((v2 * (6 : Int))) <| ckR ((v2 * (6 : Int))) <| ckC (v2 * (6 : Int)) (v2 * (6 : Int)) (6 : Int) 360 <| (some (wC x 23 v1 ((v2 * (6 : Int))).toNat v0 ((v2 * (6 : Int))).toNat ((6 : Int)).toNat)).bind fun x4 => some (x4)
set_option maxHeartbeats 4000000 in
set_option maxRecDepth 20000 in
theorem c_X0_takeFields (Θ : GC) (D : Nat → Nat → Prop) (z : Nat) (v0 : Nat) (v1 : Nat) (v2 : Int) (x : Mm) (y) (h : F_X0_takeFields z v0 v1 v2 x = some y) : Cal Θ mX0_takeFields 1 26 0 0 [vr 0 (v0 + 1), vr 0 (v1 + 1), vi (v2)] (hq D x) (RetN (hq D y)) := by
  refine Cal.of (by decide +kernel) rfl rfl (Nat.le_of_ble_eq_true rfl) ?_
  show Ev Θ mX0_takeFields 1 26 0 0 0 [(0, vr 0 (v0 + 1)), (1, vr 0 (v1 + 1)), (2, vi (v2))] [] (hq D x) (RetN (hq D y))
  unfold F_X0_takeFields at h
  refine Ev.aload_n (q := 1) ⟨dX0_takeFields_0, rfl⟩ rfl rfl ?_
  refine Ev.getRk (C2 := 23) (r := v1) fX0_9 rfl (by decide) (by decide) ⟨dX0_takeFields_1, rfl⟩ ?_
  refine Ev.iload_n (q := 2) ⟨dX0_takeFields_4, rfl⟩ rfl rfl ?_
  refine Ev.bipush ⟨dX0_takeFields_5, rfl⟩ (inRd rfl) (by decide) ?_
  obtain ⟨c1, h⟩ := ckR_s h
  refine Ev.imul ⟨dX0_takeFields_7, rfl⟩ c1 ?_
  refine Ev.aload_n (q := 0) ⟨dX0_takeFields_8, rfl⟩ rfl rfl ?_
  refine Ev.getRk (C2 := 23) (r := v0) fX0_9 rfl (by decide) (by decide) ⟨dX0_takeFields_9, rfl⟩ ?_
  refine Ev.iload_n (q := 2) ⟨dX0_takeFields_12, rfl⟩ rfl rfl ?_
  refine Ev.bipush ⟨dX0_takeFields_13, rfl⟩ (inRd rfl) (by decide) ?_
  obtain ⟨c2, h⟩ := ckR_s h
  refine Ev.imul ⟨dX0_takeFields_15, rfl⟩ c2 ?_
  refine Ev.bipush ⟨dX0_takeFields_16, rfl⟩ (inRd rfl) (by decide) ?_
  obtain ⟨c3, h⟩ := ckC_s h
  obtain ⟨x4, ex, h⟩ := bnd_s h
  refine Ev.copyI (by decide) (by decide) aX0_29 c3.1 c3.2.1 c3.2.2.1 c3.2.2.2.1 c3.2.2.2.2 (by decide) (Nat.le_of_ble_eq_true rfl) ⟨dX0_takeFields_18, rfl⟩ ?_
  refine Ev.cast ?_ rfl rfl (hqC ex)
  clear ex
  obtain rfl := Option.some.inj h
  exact Ev.ret ⟨dX0_takeFields_21, rfl⟩ rfl ⟨rfl, rfl⟩

def F_X0_clearFields_2 (z : Nat) (v0 : Nat) (v1 : Int) : Nat → Int → Mm → Option (Mm)
  | 0, _, _ => none
  | k + 1, v2, x => if (6 : Int) ≤ v2 then (some (x)) else ((F_X0_put z (v0) (v1) (v2) ((0 : Int)) x).bind fun r2 => ckR ((v2 + 1)) <| F_X0_clearFields_2 z v0 v1 k ((v2 + 1)) r2)
set_option maxHeartbeats 4000000 in
set_option maxRecDepth 20000 in
theorem e_X0_clearFields_2 (Θ : GC) (D : Nat → Nat → Prop) (z : Nat) (v0 : Nat) (v1 : Int) (Q : Ro → Hp → Prop) (mc ms : Nat) : ∀ (k : Nat) (v2 : Int) (x : Mm) (y), F_X0_clearFields_2 z v0 v1 k v2 x = some y → (Ev Θ mX0_clearFields 1 23 mc ms 21 [(0, vr 0 (v0 + 1)), (1, vi (v1))] [] (hq D y) Q) → Ev Θ mX0_clearFields 1 23 mc ms 2 [(0, vr 0 (v0 + 1)), (1, vi (v1)), (2, vi (v2))] [] (hq D x) Q := by
  intro k
  induction k with
  | zero => intro v2 x y h; exact absurd h (by unfold F_X0_clearFields_2; exact nofun)
  | succ k ih =>
    intro v2 x y h k1
    unfold F_X0_clearFields_2 at h
    refine Ev.iload_n (q := 2) ⟨dX0_clearFields_2, rfl⟩ rfl rfl ?_
    refine Ev.bipush ⟨dX0_clearFields_3, rfl⟩ (inRd rfl) (by decide) ?_
    refine Ev.icmp_ge jX0_clearFields_5 (fun hc => ?_) (fun hc => ?_)
    · replace h := (if_pos hc).symm.trans h; clear hc
      refine Ev.keep [0, 1] rfl ?_
      obtain rfl := Option.some.inj h
      exact k1
    · replace h := (if_neg hc).symm.trans h; clear hc
      refine Ev.aload_n (q := 0) ⟨dX0_clearFields_8, rfl⟩ rfl rfl ?_
      refine Ev.iload_n (q := 1) ⟨dX0_clearFields_9, rfl⟩ rfl rfl ?_
      refine Ev.iload_n (q := 2) ⟨dX0_clearFields_10, rfl⟩ rfl rfl ?_
      refine Ev.iconst ⟨dX0_clearFields_11, rfl⟩ (inRd rfl) ?_
      obtain ⟨r2, hv1, h⟩ := bnd_s h
      refine Ev.callVN (mc1 := mc) (ms1 := ms) (h1 := hq D r2) vX0_39 (c_X0_put Θ D z _ _ _ _ _ _ hv1) rfl rfl (by decide) rfl ⟨by decide, by decide, Nat.le_of_eq (Nat.zero_add _), Nat.le_of_eq (Nat.zero_add _), Nat.le_of_ble_eq_true rfl⟩ ⟨dX0_clearFields_12, rfl⟩ ?_
      clear hv1
      obtain ⟨c3, h⟩ := ckR_s h
      refine Ev.iinc (q := 2) (ls' := [(0, _), (1, _), (2, _)]) ⟨dX0_clearFields_15, rfl⟩ rfl (by decide) c3 rfl ?_
      refine Ev.goto jX0_clearFields_18 ?_
      exact ih _ _ _ h k1
def F_X0_clearFields (z : Nat) (v0 : Nat) (v1 : Int) (x : Mm) : Option (Mm) := (F_X0_clearFields_2 z (v0) (v1) z ((0 : Int)) x).bind fun s4 => some (s4)
set_option maxHeartbeats 4000000 in
set_option maxRecDepth 20000 in
theorem c_X0_clearFields (Θ : GC) (D : Nat → Nat → Prop) (z : Nat) (v0 : Nat) (v1 : Int) (x : Mm) (y) (h : F_X0_clearFields z v0 v1 x = some y) : Cal Θ mX0_clearFields 1 23 0 0 [vr 0 (v0 + 1), vi (v1)] (hq D x) (RetN (hq D y)) := by
  refine Cal.of (by decide +kernel) rfl rfl (Nat.le_of_ble_eq_true rfl) ?_
  show Ev Θ mX0_clearFields 1 23 0 0 0 [(0, vr 0 (v0 + 1)), (1, vi (v1))] [] (hq D x) (RetN (hq D y))
  unfold F_X0_clearFields at h
  refine Ev.iconst ⟨dX0_clearFields_0, rfl⟩ (inRd rfl) ?_
  refine Ev.istore_n (i := 2) (ls' := [(0, _), (1, _), (2, _)]) ⟨dX0_clearFields_1, rfl⟩ rfl (by decide) rfl ?_
  obtain ⟨s4, hl, h⟩ := bnd_s h
  refine e_X0_clearFields_2 Θ D z _ _ _ _ _ _ _ _ _ hl ?_
  clear hl
  obtain rfl := Option.some.inj h
  exact Ev.ret ⟨dX0_clearFields_21, rfl⟩ rfl ⟨rfl, rfl⟩

def F_X0_countDifferent_5 (z : Nat) (v0 : Nat) (v1 : Nat) (v2 : Int) (x : Mm) : Nat → Int → Int → Option (Int)
  | 0, _, _ => none
  | k + 1, v3, v4 => if (6 : Int) ≤ v4 then (some (v3)) else ((F_X0_valueOf z (v0) (v2) (v4) x).bind fun r2 => (F_X0_valueOf z (v1) (v2) (v4) x).bind fun r4 => if r2 = r4 then (ckR ((v4 + 1)) <| F_X0_countDifferent_5 z v0 v1 v2 x k (v3) ((v4 + 1))) else (ckR ((v3 + 1)) <| ckR ((v4 + 1)) <| F_X0_countDifferent_5 z v0 v1 v2 x k ((v3 + 1)) ((v4 + 1))))
set_option maxHeartbeats 4000000 in
set_option maxRecDepth 20000 in
theorem e_X0_countDifferent_5 (Θ : GC) (D : Nat → Nat → Prop) (z : Nat) (v0 : Nat) (v1 : Nat) (v2 : Int) (x : Mm) (Q : Ro → Hp → Prop) (mc ms : Nat) : ∀ (k : Nat) (v3 : Int) (v4 : Int) (y), F_X0_countDifferent_5 z v0 v1 v2 x k v3 v4 = some y → (Ev Θ mX0_countDifferent 1 22 mc ms 38 [(0, vr 0 (v0 + 1)), (1, vr 0 (v1 + 1)), (2, vi (v2)), (3, vi (y))] [] (hq D x) Q) → Ev Θ mX0_countDifferent 1 22 mc ms 5 [(0, vr 0 (v0 + 1)), (1, vr 0 (v1 + 1)), (2, vi (v2)), (3, vi (v3)), (4, vi (v4))] [] (hq D x) Q := by
  intro k
  induction k with
  | zero => intro v3 v4 y h; exact absurd h (by unfold F_X0_countDifferent_5; exact nofun)
  | succ k ih =>
    intro v3 v4 y h k1
    unfold F_X0_countDifferent_5 at h
    refine Ev.iload (q := 4) ⟨dX0_countDifferent_5, rfl⟩ rfl ?_
    refine Ev.bipush ⟨dX0_countDifferent_7, rfl⟩ (inRd rfl) (by decide) ?_
    refine Ev.icmp_ge jX0_countDifferent_9 (fun hc => ?_) (fun hc => ?_)
    · replace h := (if_pos hc).symm.trans h; clear hc
      refine Ev.keep [0, 1, 2, 3] rfl ?_
      obtain rfl := Option.some.inj h
      exact k1
    · replace h := (if_neg hc).symm.trans h; clear hc
      refine Ev.aload_n (q := 0) ⟨dX0_countDifferent_12, rfl⟩ rfl rfl ?_
      refine Ev.iload_n (q := 2) ⟨dX0_countDifferent_13, rfl⟩ rfl rfl ?_
      refine Ev.iload (q := 4) ⟨dX0_countDifferent_14, rfl⟩ rfl ?_
      obtain ⟨r2, hv1, h⟩ := bnd_s h
      refine Ev.callV1 (mc1 := mc) (ms1 := ms) (v := vi r2) (h1 := hq D x) vX0_43 (c_X0_valueOf Θ D z _ _ _ _ _ hv1) rfl rfl (by decide) rfl ⟨by decide, by decide, Nat.le_of_eq (Nat.zero_add _), Nat.le_of_eq (Nat.zero_add _), Nat.le_of_ble_eq_true rfl⟩ ⟨dX0_countDifferent_16, rfl⟩ ?_
      clear hv1
      refine Ev.aload_n (q := 1) ⟨dX0_countDifferent_19, rfl⟩ rfl rfl ?_
      refine Ev.iload_n (q := 2) ⟨dX0_countDifferent_20, rfl⟩ rfl rfl ?_
      refine Ev.iload (q := 4) ⟨dX0_countDifferent_21, rfl⟩ rfl ?_
      obtain ⟨r4, hv3, h⟩ := bnd_s h
      refine Ev.callV1 (mc1 := mc) (ms1 := ms) (v := vi r4) (h1 := hq D x) vX0_43 (c_X0_valueOf Θ D z _ _ _ _ _ hv3) rfl rfl (by decide) rfl ⟨by decide, by decide, Nat.le_of_eq (Nat.zero_add _), Nat.le_of_eq (Nat.zero_add _), Nat.le_of_ble_eq_true rfl⟩ ⟨dX0_countDifferent_23, rfl⟩ ?_
      clear hv3
      refine Ev.icmp_eq jX0_countDifferent_26 (fun hc => ?_) (fun hc => ?_)
      · replace h := (if_pos hc).symm.trans h; clear hc
        obtain ⟨c5, h⟩ := ckR_s h
        refine Ev.iinc (q := 4) (ls' := [(0, _), (1, _), (2, _), (3, _), (4, _)]) ⟨dX0_countDifferent_32, rfl⟩ rfl (by decide) c5 rfl ?_
        refine Ev.goto jX0_countDifferent_35 ?_
        exact ih _ _ _ h k1
      · replace h := (if_neg hc).symm.trans h; clear hc
        obtain ⟨c6, h⟩ := ckR_s h
        refine Ev.iinc (q := 3) (ls' := [(0, _), (1, _), (2, _), (3, _), (4, _)]) ⟨dX0_countDifferent_29, rfl⟩ rfl (by decide) c6 rfl ?_
        obtain ⟨c7, h⟩ := ckR_s h
        refine Ev.iinc (q := 4) (ls' := [(0, _), (1, _), (2, _), (3, _), (4, _)]) ⟨dX0_countDifferent_32, rfl⟩ rfl (by decide) c7 rfl ?_
        refine Ev.goto jX0_countDifferent_35 ?_
        exact ih _ _ _ h k1
def F_X0_countDifferent (z : Nat) (v0 : Nat) (v1 : Nat) (v2 : Int) (x : Mm) : Option (Int) := (F_X0_countDifferent_5 z (v0) (v1) (v2) x z ((0 : Int)) ((0 : Int))).bind fun s8 => some (s8)
set_option maxHeartbeats 4000000 in
set_option maxRecDepth 20000 in
theorem c_X0_countDifferent (Θ : GC) (D : Nat → Nat → Prop) (z : Nat) (v0 : Nat) (v1 : Nat) (v2 : Int) (x : Mm) (y) (h : F_X0_countDifferent z v0 v1 v2 x = some y) : Cal Θ mX0_countDifferent 1 22 0 0 [vr 0 (v0 + 1), vr 0 (v1 + 1), vi (v2)] (hq D x) (Ret (vi y) (hq D x)) := by
  refine Cal.of (by decide +kernel) rfl rfl (Nat.le_of_ble_eq_true rfl) ?_
  show Ev Θ mX0_countDifferent 1 22 0 0 0 [(0, vr 0 (v0 + 1)), (1, vr 0 (v1 + 1)), (2, vi (v2))] [] (hq D x) (Ret (vi y) (hq D x))
  unfold F_X0_countDifferent at h
  refine Ev.iconst ⟨dX0_countDifferent_0, rfl⟩ (inRd rfl) ?_
  refine Ev.istore_n (i := 3) (ls' := [(0, _), (1, _), (2, _), (3, _)]) ⟨dX0_countDifferent_1, rfl⟩ rfl (by decide) rfl ?_
  refine Ev.iconst ⟨dX0_countDifferent_2, rfl⟩ (inRd rfl) ?_
  refine Ev.istore (i := 4) (ls' := [(0, _), (1, _), (2, _), (3, _), (4, _)]) ⟨dX0_countDifferent_3, rfl⟩ (by decide) rfl ?_
  obtain ⟨s8, hl, h⟩ := bnd_s h
  refine e_X0_countDifferent_5 Θ D z _ _ _ _ _ _ _ _ _ _ _ hl ?_
  clear hl
  refine Ev.iload_n (q := 3) ⟨dX0_countDifferent_38, rfl⟩ rfl rfl ?_
  obtain rfl := Option.some.inj h
  exact Ev.ireturn (ty := .int) ⟨dX0_countDifferent_39, rfl⟩ rfl rfl ⟨rfl, rfl⟩

def F_X0_sameAs_16 (z : Nat) (v0 : Nat) (v1 : Nat) (x : Mm) : Nat → Int → Option ((Unit) ⊕ (Int))
  | 0, _ => none
  | k + 1, v2 => if (60 : Int) ≤ v2 then (some (.inl ())) else ((F_X0_has z (v0) (v2) x).bind fun r2 => if r2 = 0 then (ckR ((v2 + 1)) <| F_X0_sameAs_16 z v0 v1 x k ((v2 + 1))) else ((F_X0_countDifferent z (v0) (v1) (v2) x).bind fun r5 => if r5 ≤ 0 then (ckR ((v2 + 1)) <| F_X0_sameAs_16 z v0 v1 x k ((v2 + 1))) else (some (.inr (0 : Int)))))
set_option maxHeartbeats 4000000 in
set_option maxRecDepth 20000 in
theorem e_X0_sameAs_16 (Θ : GC) (D : Nat → Nat → Prop) (z : Nat) (v0 : Nat) (v1 : Nat) (x : Mm) (Q : Ro → Hp → Prop) (mc ms : Nat) : ∀ (k : Nat) (v2 : Int) (y), F_X0_sameAs_16 z v0 v1 x k v2 = some y → (∀ s, y = .inl s → Ev Θ mX0_sameAs 2 46 mc ms 47 [(0, vr 0 (v0 + 1)), (1, vr 0 (v1 + 1))] [] (hq D x) Q) → (∀ r, y = .inr r → Q (.inl (some (vi r))) (hq D x)) → Ev Θ mX0_sameAs 2 46 mc ms 16 [(0, vr 0 (v0 + 1)), (1, vr 0 (v1 + 1)), (2, vi (v2))] [] (hq D x) Q := by
  intro k
  induction k with
  | zero => intro v2 y h; exact absurd h (by unfold F_X0_sameAs_16; exact nofun)
  | succ k ih =>
    intro v2 y h k1 k2
    unfold F_X0_sameAs_16 at h
    refine Ev.iload_n (q := 2) ⟨dX0_sameAs_16, rfl⟩ rfl rfl ?_
    refine Ev.bipush ⟨dX0_sameAs_17, rfl⟩ (inRd rfl) (by decide) ?_
    refine Ev.icmp_ge jX0_sameAs_19 (fun hc => ?_) (fun hc => ?_)
    · replace h := (if_pos hc).symm.trans h; clear hc
      refine Ev.keep [0, 1] rfl ?_
      obtain rfl := Option.some.inj h
      exact k1 _ rfl
    · replace h := (if_neg hc).symm.trans h; clear hc
      refine Ev.aload_n (q := 0) ⟨dX0_sameAs_22, rfl⟩ rfl rfl ?_
      refine Ev.iload_n (q := 2) ⟨dX0_sameAs_23, rfl⟩ rfl rfl ?_
      obtain ⟨r2, hv1, h⟩ := bnd_s h
      refine Ev.callV1 (mc1 := mc) (ms1 := ms) (v := vi r2) (h1 := hq D x) vX0_47 (c_X0_has Θ D z _ _ _ _ hv1) rfl rfl (by decide) rfl ⟨by decide, by decide, Nat.le_of_eq (Nat.zero_add _), Nat.le_of_eq (Nat.zero_add _), Nat.le_of_ble_eq_true rfl⟩ ⟨dX0_sameAs_24, rfl⟩ ?_
      clear hv1
      refine Ev.if_eq jX0_sameAs_27 (fun hc => ?_) (fun hc => ?_)
      · replace h := (if_pos hc).symm.trans h; clear hc
        obtain ⟨c3, h⟩ := ckR_s h
        refine Ev.iinc (q := 2) (ls' := [(0, _), (1, _), (2, _)]) ⟨dX0_sameAs_41, rfl⟩ rfl (by decide) c3 rfl ?_
        refine Ev.goto jX0_sameAs_44 ?_
        exact ih _ _ h k1 k2
      · replace h := (if_neg hc).symm.trans h; clear hc
        refine Ev.aload_n (q := 0) ⟨dX0_sameAs_30, rfl⟩ rfl rfl ?_
        refine Ev.aload_n (q := 1) ⟨dX0_sameAs_31, rfl⟩ rfl rfl ?_
        refine Ev.iload_n (q := 2) ⟨dX0_sameAs_32, rfl⟩ rfl rfl ?_
        obtain ⟨r5, hv4, h⟩ := bnd_s h
        refine Ev.callV1 (mc1 := mc) (ms1 := ms) (v := vi r5) (h1 := hq D x) vX0_51 (c_X0_countDifferent Θ D z _ _ _ _ _ hv4) rfl rfl (by decide) rfl ⟨by decide, by decide, Nat.le_of_eq (Nat.zero_add _), Nat.le_of_eq (Nat.zero_add _), Nat.le_of_ble_eq_true rfl⟩ ⟨dX0_sameAs_33, rfl⟩ ?_
        clear hv4
        refine Ev.if_le jX0_sameAs_36 (fun hc => ?_) (fun hc => ?_)
        · replace h := (if_pos hc).symm.trans h; clear hc
          obtain ⟨c6, h⟩ := ckR_s h
          refine Ev.iinc (q := 2) (ls' := [(0, _), (1, _), (2, _)]) ⟨dX0_sameAs_41, rfl⟩ rfl (by decide) c6 rfl ?_
          refine Ev.goto jX0_sameAs_44 ?_
          exact ih _ _ h k1 k2
        · replace h := (if_neg hc).symm.trans h; clear hc
          refine Ev.iconst ⟨dX0_sameAs_39, rfl⟩ (inRd rfl) ?_
          obtain rfl := Option.some.inj h
          exact Ev.ireturn (ty := .boolean) ⟨dX0_sameAs_40, rfl⟩ rfl rfl (k2 _ rfl)
def F_X0_sameAs (z : Nat) (v0 : Nat) (v1 : Nat) (x : Mm) : Option (Int) := if (lcm (x.2 0 v0 0) (x.2 0 v1 0)) = 0 then (bndE (fun r => r) (F_X0_sameAs_16 z (v0) (v1) x z ((0 : Int))) fun s7 => some ((1 : Int))) else (some ((0 : Int)))
set_option maxHeartbeats 4000000 in
set_option maxRecDepth 20000 in
theorem c_X0_sameAs (Θ : GC) (D : Nat → Nat → Prop) (z : Nat) (v0 : Nat) (v1 : Nat) (x : Mm) (y) (h : F_X0_sameAs z v0 v1 x = some y) : Cal Θ mX0_sameAs 2 46 0 0 [vr 0 (v0 + 1), vr 0 (v1 + 1)] (hq D x) (Ret (vi y) (hq D x)) := by
  refine Cal.of (by decide +kernel) rfl rfl (Nat.le_of_ble_eq_true rfl) ?_
  show Ev Θ mX0_sameAs 2 46 0 0 0 [(0, vr 0 (v0 + 1)), (1, vr 0 (v1 + 1))] [] (hq D x) (Ret (vi y) (hq D x))
  unfold F_X0_sameAs at h
  refine Ev.aload_n (q := 0) ⟨dX0_sameAs_0, rfl⟩ rfl rfl ?_
  refine Ev.getL fX0_19 ⟨dX0_sameAs_1, rfl⟩ ?_
  refine Ev.aload_n (q := 1) ⟨dX0_sameAs_4, rfl⟩ rfl rfl ?_
  refine Ev.getL fX0_19 ⟨dX0_sameAs_5, rfl⟩ ?_
  refine Ev.lcmp ⟨dX0_sameAs_8, rfl⟩ ?_
  refine Ev.if_eq jX0_sameAs_9 (fun hc => ?_) (fun hc => ?_)
  · replace h := (if_pos hc).symm.trans h; clear hc
    refine Ev.iconst ⟨dX0_sameAs_14, rfl⟩ (inRd rfl) ?_
    refine Ev.istore_n (i := 2) (ls' := [(0, _), (1, _), (2, _)]) ⟨dX0_sameAs_15, rfl⟩ rfl (by decide) rfl ?_
    rcases bndE_s h with ⟨s7, hl, h⟩ | ⟨r1, hl, rfl⟩
    rotate_left
    · exact e_X0_sameAs_16 Θ D z _ _ _ _ _ _ _ _ _ hl (fun s2 e2 => by cases e2) (fun r2 e2 => by cases e2; exact ⟨rfl, rfl⟩)
    refine e_X0_sameAs_16 Θ D z _ _ _ _ _ _ _ _ _ hl (fun s2 e2 => ?_) (fun r2 e2 => by cases e2)
    cases e2
    clear hl
    refine Ev.iconst ⟨dX0_sameAs_47, rfl⟩ (inRd rfl) ?_
    obtain rfl := Option.some.inj h
    exact Ev.ireturn (ty := .boolean) ⟨dX0_sameAs_48, rfl⟩ rfl rfl ⟨rfl, rfl⟩
  · replace h := (if_neg hc).symm.trans h; clear hc
    refine Ev.iconst ⟨dX0_sameAs_12, rfl⟩ (inRd rfl) ?_
    obtain rfl := Option.some.inj h
    exact Ev.ireturn (ty := .boolean) ⟨dX0_sameAs_13, rfl⟩ rfl rfl ⟨rfl, rfl⟩

def F_X1_copyFrom (z : Nat) (v0 : Nat) (v1 : Nat) (x : Mm) : Option (Mm) := (some (wI x 1 v0 0 ((x.1 1 v1 0)))).bind fun x1 => ckC (0 : Int) (0 : Int) (240 : Int) 240 <| (some (wC x1 24 v1 ((0 : Int)).toNat v0 ((0 : Int)).toNat ((240 : Int)).toNat)).bind fun x3 => some (x3)
set_option maxHeartbeats 4000000 in
set_option maxRecDepth 20000 in
theorem c_X1_copyFrom (Θ : GC) (D : Nat → Nat → Prop) (z : Nat) (v0 : Nat) (v1 : Nat) (x : Mm) (y) (h : F_X1_copyFrom z v0 v1 x = some y) : Cal Θ mX1_copyFrom 1 26 0 0 [vr 1 (v0 + 1), vr 1 (v1 + 1)] (hq D x) (RetN (hq D y)) := by
  refine Cal.of (by decide +kernel) rfl rfl (Nat.le_of_ble_eq_true rfl) ?_
  show Ev Θ mX1_copyFrom 1 26 0 0 0 [(0, vr 1 (v0 + 1)), (1, vr 1 (v1 + 1))] [] (hq D x) (RetN (hq D y))
  unfold F_X1_copyFrom at h
  refine Ev.aload_n (q := 0) ⟨dX1_copyFrom_0, rfl⟩ rfl rfl ?_
  refine Ev.aload_n (q := 1) ⟨dX1_copyFrom_1, rfl⟩ rfl rfl ?_
  refine Ev.getI fX1_15 (Or.inl rfl) ⟨dX1_copyFrom_2, rfl⟩ ?_
  obtain ⟨x1, ex, h⟩ := bnd_s h
  refine Ev.putI fX1_15 ⟨dX1_copyFrom_5, rfl⟩ ?_
  refine Ev.cast ?_ rfl rfl (hqI ex)
  clear ex
  refine Ev.aload_n (q := 1) ⟨dX1_copyFrom_8, rfl⟩ rfl rfl ?_
  refine Ev.getRk (C2 := 24) (r := v1) fX1_9 rfl (by decide) (by decide) ⟨dX1_copyFrom_9, rfl⟩ ?_
  refine Ev.iconst ⟨dX1_copyFrom_12, rfl⟩ (inRd rfl) ?_
  refine Ev.aload_n (q := 0) ⟨dX1_copyFrom_13, rfl⟩ rfl rfl ?_
  refine Ev.getRk (C2 := 24) (r := v0) fX1_9 rfl (by decide) (by decide) ⟨dX1_copyFrom_14, rfl⟩ ?_
  refine Ev.iconst ⟨dX1_copyFrom_17, rfl⟩ (inRd rfl) ?_
  refine Ev.aload_n (q := 0) ⟨dX1_copyFrom_18, rfl⟩ rfl rfl ?_
  refine Ev.getRk (C2 := 24) (r := v0) fX1_9 rfl (by decide) (by decide) ⟨dX1_copyFrom_19, rfl⟩ ?_
  refine Ev.alen (by decide) ⟨dX1_copyFrom_22, rfl⟩ ?_
  obtain ⟨c2, h⟩ := ckC_s h
  obtain ⟨x3, ex, h⟩ := bnd_s h
  refine Ev.copyI (by decide) (by decide) aX1_19 c2.1 c2.2.1 c2.2.2.1 c2.2.2.2.1 c2.2.2.2.2 (by decide) (Nat.le_of_ble_eq_true rfl) ⟨dX1_copyFrom_23, rfl⟩ ?_
  refine Ev.cast ?_ rfl rfl (hqC ex)
  clear ex
  obtain rfl := Option.some.inj h
  exact Ev.ret ⟨dX1_copyFrom_26, rfl⟩ rfl ⟨rfl, rfl⟩

def F_X1_part (z : Nat) (v0 : Nat) (v1 : Int) (v2 : Int) (x : Mm) : Option (Int) := ckR ((v1 * (6 : Int))) <| ckR (((v1 * (6 : Int)) + v2)) <| ckI ((v1 * (6 : Int)) + v2) 240 <| some ((x.1 24 v0 (((v1 * (6 : Int)) + v2)).toNat))
set_option maxHeartbeats 4000000 in
set_option maxRecDepth 20000 in
theorem c_X1_part (Θ : GC) (D : Nat → Nat → Prop) (z : Nat) (v0 : Nat) (v1 : Int) (v2 : Int) (x : Mm) (y) (h : F_X1_part z v0 v1 v2 x = some y) : Cal Θ mX1_part 0 0 0 0 [vr 1 (v0 + 1), vi (v1), vi (v2)] (hq D x) (Ret (vi y) (hq D x)) := by
  refine Cal.of (by decide +kernel) rfl rfl (Nat.le_of_ble_eq_true rfl) ?_
  show Ev Θ mX1_part 0 0 0 0 0 [(0, vr 1 (v0 + 1)), (1, vi (v1)), (2, vi (v2))] [] (hq D x) (Ret (vi y) (hq D x))
  unfold F_X1_part at h
  refine Ev.aload_n (q := 0) ⟨dX1_part_0, rfl⟩ rfl rfl ?_
  refine Ev.getRk (C2 := 24) (r := v0) fX1_9 rfl (by decide) (by decide) ⟨dX1_part_1, rfl⟩ ?_
  refine Ev.iload_n (q := 1) ⟨dX1_part_4, rfl⟩ rfl rfl ?_
  refine Ev.bipush ⟨dX1_part_5, rfl⟩ (inRd rfl) (by decide) ?_
  obtain ⟨c1, h⟩ := ckR_s h
  refine Ev.imul ⟨dX1_part_7, rfl⟩ c1 ?_
  refine Ev.iload_n (q := 2) ⟨dX1_part_8, rfl⟩ rfl rfl ?_
  obtain ⟨c2, h⟩ := ckR_s h
  refine Ev.iadd ⟨dX1_part_9, rfl⟩ c2 ?_
  obtain ⟨c3, h⟩ := ckI_s h
  refine Ev.iaload (by decide) c3.1 c3.2 ⟨dX1_part_10, rfl⟩ ?_
  obtain rfl := Option.some.inj h
  exact Ev.ireturn (ty := .int) ⟨dX1_part_11, rfl⟩ rfl rfl ⟨rfl, rfl⟩

def F_X1_drop (z : Nat) (v0 : Nat) (v1 : Int) (x : Mm) : Option (Mm) := ckR (((x.1 1 v0 0) - v1)) <| ckR ((((x.1 1 v0 0) - v1) - (1 : Int))) <| ckR (((((x.1 1 v0 0) - v1) - (1 : Int)) * (6 : Int))) <| ckR ((v1 + (1 : Int))) <| ckR (((v1 + (1 : Int)) * (6 : Int))) <| ckR ((v1 * (6 : Int))) <| ckC ((v1 + (1 : Int)) * (6 : Int)) (v1 * (6 : Int)) ((((x.1 1 v0 0) - v1) - (1 : Int)) * (6 : Int)) 240 <| (some (wC x 24 v0 (((v1 + (1 : Int)) * (6 : Int))).toNat v0 ((v1 * (6 : Int))).toNat (((((x.1 1 v0 0) - v1) - (1 : Int)) * (6 : Int))).toNat)).bind fun x8 => ckR (((x8.1 1 v0 0) - (1 : Int))) <| (some (wI x8 1 v0 0 (((x8.1 1 v0 0) - (1 : Int))))).bind fun x10 => some (x10)
set_option maxHeartbeats 4000000 in
set_option maxRecDepth 20000 in
theorem c_X1_drop (Θ : GC) (D : Nat → Nat → Prop) (z : Nat) (v0 : Nat) (v1 : Int) (x : Mm) (y) (h : F_X1_drop z v0 v1 x = some y) : Cal Θ mX1_drop 1 26 0 0 [vr 1 (v0 + 1), vi (v1)] (hq D x) (RetN (hq D y)) := by
  refine Cal.of (by decide +kernel) rfl rfl (Nat.le_of_ble_eq_true rfl) ?_
  show Ev Θ mX1_drop 1 26 0 0 0 [(0, vr 1 (v0 + 1)), (1, vi (v1))] [] (hq D x) (RetN (hq D y))
  unfold F_X1_drop at h
  refine Ev.aload_n (q := 0) ⟨dX1_drop_0, rfl⟩ rfl rfl ?_
  refine Ev.getI fX1_15 (Or.inl rfl) ⟨dX1_drop_1, rfl⟩ ?_
  refine Ev.iload_n (q := 1) ⟨dX1_drop_4, rfl⟩ rfl rfl ?_
  obtain ⟨c1, h⟩ := ckR_s h
  refine Ev.isub ⟨dX1_drop_5, rfl⟩ c1 ?_
  refine Ev.iconst ⟨dX1_drop_6, rfl⟩ (inRd rfl) ?_
  obtain ⟨c2, h⟩ := ckR_s h
  refine Ev.isub ⟨dX1_drop_7, rfl⟩ c2 ?_
  refine Ev.bipush ⟨dX1_drop_8, rfl⟩ (inRd rfl) (by decide) ?_
  obtain ⟨c3, h⟩ := ckR_s h
  refine Ev.imul ⟨dX1_drop_10, rfl⟩ c3 ?_
  refine Ev.istore_n (i := 2) (ls' := [(0, _), (1, _), (2, _)]) ⟨dX1_drop_11, rfl⟩ rfl (by decide) rfl ?_
  refine Ev.aload_n (q := 0) ⟨dX1_drop_12, rfl⟩ rfl rfl ?_
  refine Ev.getRk (C2 := 24) (r := v0) fX1_9 rfl (by decide) (by decide) ⟨dX1_drop_13, rfl⟩ ?_
  refine Ev.iload_n (q := 1) ⟨dX1_drop_16, rfl⟩ rfl rfl ?_
  refine Ev.iconst ⟨dX1_drop_17, rfl⟩ (inRd rfl) ?_
  obtain ⟨c4, h⟩ := ckR_s h
  refine Ev.iadd ⟨dX1_drop_18, rfl⟩ c4 ?_
  refine Ev.bipush ⟨dX1_drop_19, rfl⟩ (inRd rfl) (by decide) ?_
  obtain ⟨c5, h⟩ := ckR_s h
  refine Ev.imul ⟨dX1_drop_21, rfl⟩ c5 ?_
  refine Ev.aload_n (q := 0) ⟨dX1_drop_22, rfl⟩ rfl rfl ?_
  refine Ev.getRk (C2 := 24) (r := v0) fX1_9 rfl (by decide) (by decide) ⟨dX1_drop_23, rfl⟩ ?_
  refine Ev.iload_n (q := 1) ⟨dX1_drop_26, rfl⟩ rfl rfl ?_
  refine Ev.bipush ⟨dX1_drop_27, rfl⟩ (inRd rfl) (by decide) ?_
  obtain ⟨c6, h⟩ := ckR_s h
  refine Ev.imul ⟨dX1_drop_29, rfl⟩ c6 ?_
  refine Ev.iload_n (q := 2) ⟨dX1_drop_30, rfl⟩ rfl rfl ?_
  obtain ⟨c7, h⟩ := ckC_s h
  obtain ⟨x8, ex, h⟩ := bnd_s h
  refine Ev.copyI (by decide) (by decide) aX1_19 c7.1 c7.2.1 c7.2.2.1 c7.2.2.2.1 c7.2.2.2.2 (by decide) (Nat.le_of_ble_eq_true rfl) ⟨dX1_drop_31, rfl⟩ ?_
  refine Ev.cast ?_ rfl rfl (hqC ex)
  clear ex
  refine Ev.aload_n (q := 0) ⟨dX1_drop_34, rfl⟩ rfl rfl ?_
  refine Ev.dup ⟨dX1_drop_35, rfl⟩ rfl ?_
  refine Ev.getI fX1_15 (Or.inl rfl) ⟨dX1_drop_36, rfl⟩ ?_
  refine Ev.iconst ⟨dX1_drop_39, rfl⟩ (inRd rfl) ?_
  obtain ⟨c9, h⟩ := ckR_s h
  refine Ev.isub ⟨dX1_drop_40, rfl⟩ c9 ?_
  obtain ⟨x10, ex, h⟩ := bnd_s h
  refine Ev.putI fX1_15 ⟨dX1_drop_41, rfl⟩ ?_
  refine Ev.cast ?_ rfl rfl (hqI ex)
  clear ex
  obtain rfl := Option.some.inj h
  exact Ev.ret ⟨dX1_drop_44, rfl⟩ rfl ⟨rfl, rfl⟩

def F_X1_add_41 (z : Nat) (v0 : Nat) (v1 : Int) (v2 : Int) (v3 : Int) (v4 : Int) (v5 : Int) (v6 : Int) (x : Mm) : Option (Mm) := ckR (((x.1 1 v0 0) * (6 : Int))) <| ckR ((((x.1 1 v0 0) * (6 : Int)) + (0 : Int))) <| ckI (((x.1 1 v0 0) * (6 : Int)) + (0 : Int)) 240 <| (some (wI x 24 v0 ((((x.1 1 v0 0) * (6 : Int)) + (0 : Int))).toNat (v1))).bind fun x4 => ckR ((((x.1 1 v0 0) * (6 : Int)) + (1 : Int))) <| ckI (((x.1 1 v0 0) * (6 : Int)) + (1 : Int)) 240 <| (some (wI x4 24 v0 ((((x.1 1 v0 0) * (6 : Int)) + (1 : Int))).toNat (v2))).bind fun x7 => ckR ((((x.1 1 v0 0) * (6 : Int)) + (2 : Int))) <| ckI (((x.1 1 v0 0) * (6 : Int)) + (2 : Int)) 240 <| (some (wI x7 24 v0 ((((x.1 1 v0 0) * (6 : Int)) + (2 : Int))).toNat (v3))).bind fun x10 => ckR ((((x.1 1 v0 0) * (6 : Int)) + (3 : Int))) <| ckI (((x.1 1 v0 0) * (6 : Int)) + (3 : Int)) 240 <| (some (wI x10 24 v0 ((((x.1 1 v0 0) * (6 : Int)) + (3 : Int))).toNat (v4))).bind fun x13 => ckR ((((x.1 1 v0 0) * (6 : Int)) + (4 : Int))) <| ckI (((x.1 1 v0 0) * (6 : Int)) + (4 : Int)) 240 <| (some (wI x13 24 v0 ((((x.1 1 v0 0) * (6 : Int)) + (4 : Int))).toNat (v5))).bind fun x16 => ckR ((((x.1 1 v0 0) * (6 : Int)) + (5 : Int))) <| ckI (((x.1 1 v0 0) * (6 : Int)) + (5 : Int)) 240 <| (some (wI x16 24 v0 ((((x.1 1 v0 0) * (6 : Int)) + (5 : Int))).toNat (v6))).bind fun x19 => ckR (((x19.1 1 v0 0) + (1 : Int))) <| (some (wI x19 1 v0 0 (((x19.1 1 v0 0) + (1 : Int))))).bind fun x21 => some (x21)
set_option maxHeartbeats 4000000 in
set_option maxRecDepth 20000 in
theorem e_X1_add_41 (Θ : GC) (D : Nat → Nat → Prop) (z : Nat) (v0 : Nat) (v1 : Int) (v2 : Int) (v3 : Int) (v4 : Int) (v5 : Int) (v6 : Int) (x : Mm) (y) (h : F_X1_add_41 z v0 v1 v2 v3 v4 v5 v6 x = some y) : Ev Θ mX1_add 1 26 0 0 41 [(0, vr 1 (v0 + 1)), (1, vi (v1)), (2, vi (v2)), (3, vi (v3)), (4, vi (v4)), (5, vi (v5)), (6, vi (v6))] [] (hq D x) (RetN (hq D y)) := by
  unfold F_X1_add_41 at h
  refine Ev.aload_n (q := 0) ⟨dX1_add_41, rfl⟩ rfl rfl ?_
  refine Ev.getI fX1_15 (Or.inl rfl) ⟨dX1_add_42, rfl⟩ ?_
  refine Ev.bipush ⟨dX1_add_45, rfl⟩ (inRd rfl) (by decide) ?_
  obtain ⟨c1, h⟩ := ckR_s h
  refine Ev.imul ⟨dX1_add_47, rfl⟩ c1 ?_
  refine Ev.istore (i := 7) (ls' := [(0, _), (1, _), (2, _), (3, _), (4, _), (5, _), (6, _), (7, _)]) ⟨dX1_add_48, rfl⟩ (by decide) rfl ?_
  refine Ev.aload_n (q := 0) ⟨dX1_add_50, rfl⟩ rfl rfl ?_
  refine Ev.getRk (C2 := 24) (r := v0) fX1_9 rfl (by decide) (by decide) ⟨dX1_add_51, rfl⟩ ?_
  refine Ev.iload (q := 7) ⟨dX1_add_54, rfl⟩ rfl ?_
  refine Ev.iconst ⟨dX1_add_56, rfl⟩ (inRd rfl) ?_
  obtain ⟨c2, h⟩ := ckR_s h
  refine Ev.iadd ⟨dX1_add_57, rfl⟩ c2 ?_
  refine Ev.iload_n (q := 1) ⟨dX1_add_58, rfl⟩ rfl rfl ?_
  obtain ⟨c3, h⟩ := ckI_s h
  obtain ⟨x4, ex, h⟩ := bnd_s h
  refine Ev.iastore (by decide) c3.1 c3.2 ⟨dX1_add_59, rfl⟩ ?_
  refine Ev.cast ?_ rfl rfl (hqI ex)
  clear ex
  refine Ev.aload_n (q := 0) ⟨dX1_add_60, rfl⟩ rfl rfl ?_
  refine Ev.getRk (C2 := 24) (r := v0) fX1_9 rfl (by decide) (by decide) ⟨dX1_add_61, rfl⟩ ?_
  refine Ev.iload (q := 7) ⟨dX1_add_64, rfl⟩ rfl ?_
  refine Ev.iconst ⟨dX1_add_66, rfl⟩ (inRd rfl) ?_
  obtain ⟨c5, h⟩ := ckR_s h
  refine Ev.iadd ⟨dX1_add_67, rfl⟩ c5 ?_
  refine Ev.iload_n (q := 2) ⟨dX1_add_68, rfl⟩ rfl rfl ?_
  obtain ⟨c6, h⟩ := ckI_s h
  obtain ⟨x7, ex, h⟩ := bnd_s h
  refine Ev.iastore (by decide) c6.1 c6.2 ⟨dX1_add_69, rfl⟩ ?_
  refine Ev.cast ?_ rfl rfl (hqI ex)
  clear ex
  refine Ev.aload_n (q := 0) ⟨dX1_add_70, rfl⟩ rfl rfl ?_
  refine Ev.getRk (C2 := 24) (r := v0) fX1_9 rfl (by decide) (by decide) ⟨dX1_add_71, rfl⟩ ?_
  refine Ev.iload (q := 7) ⟨dX1_add_74, rfl⟩ rfl ?_
  refine Ev.iconst ⟨dX1_add_76, rfl⟩ (inRd rfl) ?_
  obtain ⟨c8, h⟩ := ckR_s h
  refine Ev.iadd ⟨dX1_add_77, rfl⟩ c8 ?_
  refine Ev.iload_n (q := 3) ⟨dX1_add_78, rfl⟩ rfl rfl ?_
  obtain ⟨c9, h⟩ := ckI_s h
  obtain ⟨x10, ex, h⟩ := bnd_s h
  refine Ev.iastore (by decide) c9.1 c9.2 ⟨dX1_add_79, rfl⟩ ?_
  refine Ev.cast ?_ rfl rfl (hqI ex)
  clear ex
  refine Ev.aload_n (q := 0) ⟨dX1_add_80, rfl⟩ rfl rfl ?_
  refine Ev.getRk (C2 := 24) (r := v0) fX1_9 rfl (by decide) (by decide) ⟨dX1_add_81, rfl⟩ ?_
  refine Ev.iload (q := 7) ⟨dX1_add_84, rfl⟩ rfl ?_
  refine Ev.iconst ⟨dX1_add_86, rfl⟩ (inRd rfl) ?_
  obtain ⟨c11, h⟩ := ckR_s h
  refine Ev.iadd ⟨dX1_add_87, rfl⟩ c11 ?_
  refine Ev.iload (q := 4) ⟨dX1_add_88, rfl⟩ rfl ?_
  obtain ⟨c12, h⟩ := ckI_s h
  obtain ⟨x13, ex, h⟩ := bnd_s h
  refine Ev.iastore (by decide) c12.1 c12.2 ⟨dX1_add_90, rfl⟩ ?_
  refine Ev.cast ?_ rfl rfl (hqI ex)
  clear ex
  refine Ev.aload_n (q := 0) ⟨dX1_add_91, rfl⟩ rfl rfl ?_
  refine Ev.getRk (C2 := 24) (r := v0) fX1_9 rfl (by decide) (by decide) ⟨dX1_add_92, rfl⟩ ?_
  refine Ev.iload (q := 7) ⟨dX1_add_95, rfl⟩ rfl ?_
  refine Ev.iconst ⟨dX1_add_97, rfl⟩ (inRd rfl) ?_
  obtain ⟨c14, h⟩ := ckR_s h
  refine Ev.iadd ⟨dX1_add_98, rfl⟩ c14 ?_
  refine Ev.iload (q := 5) ⟨dX1_add_99, rfl⟩ rfl ?_
  obtain ⟨c15, h⟩ := ckI_s h
  obtain ⟨x16, ex, h⟩ := bnd_s h
  refine Ev.iastore (by decide) c15.1 c15.2 ⟨dX1_add_101, rfl⟩ ?_
  refine Ev.cast ?_ rfl rfl (hqI ex)
  clear ex
  refine Ev.aload_n (q := 0) ⟨dX1_add_102, rfl⟩ rfl rfl ?_
  refine Ev.getRk (C2 := 24) (r := v0) fX1_9 rfl (by decide) (by decide) ⟨dX1_add_103, rfl⟩ ?_
  refine Ev.iload (q := 7) ⟨dX1_add_106, rfl⟩ rfl ?_
  refine Ev.iconst ⟨dX1_add_108, rfl⟩ (inRd rfl) ?_
  obtain ⟨c17, h⟩ := ckR_s h
  refine Ev.iadd ⟨dX1_add_109, rfl⟩ c17 ?_
  refine Ev.iload (q := 6) ⟨dX1_add_110, rfl⟩ rfl ?_
  obtain ⟨c18, h⟩ := ckI_s h
  obtain ⟨x19, ex, h⟩ := bnd_s h
  refine Ev.iastore (by decide) c18.1 c18.2 ⟨dX1_add_112, rfl⟩ ?_
  refine Ev.cast ?_ rfl rfl (hqI ex)
  clear ex
  refine Ev.aload_n (q := 0) ⟨dX1_add_113, rfl⟩ rfl rfl ?_
  refine Ev.dup ⟨dX1_add_114, rfl⟩ rfl ?_
  refine Ev.getI fX1_15 (Or.inl rfl) ⟨dX1_add_115, rfl⟩ ?_
  refine Ev.iconst ⟨dX1_add_118, rfl⟩ (inRd rfl) ?_
  obtain ⟨c20, h⟩ := ckR_s h
  refine Ev.iadd ⟨dX1_add_119, rfl⟩ c20 ?_
  obtain ⟨x21, ex, h⟩ := bnd_s h
  refine Ev.putI fX1_15 ⟨dX1_add_120, rfl⟩ ?_
  refine Ev.cast ?_ rfl rfl (hqI ex)
  clear ex
  obtain rfl := Option.some.inj h
  exact Ev.ret ⟨dX1_add_123, rfl⟩ rfl ⟨rfl, rfl⟩
def F_X1_add (z : Nat) (v0 : Nat) (v1 : Int) (v2 : Int) (v3 : Int) (v4 : Int) (v5 : Int) (v6 : Int) (x : Mm) : Option (Mm) := if (x.1 1 v0 0) < (40 : Int) then (F_X1_add_41 z (v0) (v1) (v2) (v3) (v4) (v5) (v6) x) else (ckC (6 : Int) (0 : Int) ((240 : Int) - (6 : Int)) 240 <| (some (wC x 24 v0 ((6 : Int)).toNat v0 ((0 : Int)).toNat (((240 : Int) - (6 : Int))).toNat)).bind fun x23 => ckR (((x23.1 1 v0 0) - (1 : Int))) <| (some (wI x23 1 v0 0 (((x23.1 1 v0 0) - (1 : Int))))).bind fun x25 => F_X1_add_41 z (v0) (v1) (v2) (v3) (v4) (v5) (v6) x25)
set_option maxHeartbeats 4000000 in
set_option maxRecDepth 20000 in
theorem c_X1_add (Θ : GC) (D : Nat → Nat → Prop) (z : Nat) (v0 : Nat) (v1 : Int) (v2 : Int) (v3 : Int) (v4 : Int) (v5 : Int) (v6 : Int) (x : Mm) (y) (h : F_X1_add z v0 v1 v2 v3 v4 v5 v6 x = some y) : Cal Θ mX1_add 1 26 0 0 [vr 1 (v0 + 1), vi (v1), vi (v2), vi (v3), vi (v4), vi (v5), vi (v6)] (hq D x) (RetN (hq D y)) := by
  refine Cal.of (by decide +kernel) rfl rfl (Nat.le_of_ble_eq_true rfl) ?_
  show Ev Θ mX1_add 1 26 0 0 0 [(0, vr 1 (v0 + 1)), (1, vi (v1)), (2, vi (v2)), (3, vi (v3)), (4, vi (v4)), (5, vi (v5)), (6, vi (v6))] [] (hq D x) (RetN (hq D y))
  unfold F_X1_add at h
  refine Ev.aload_n (q := 0) ⟨dX1_add_0, rfl⟩ rfl rfl ?_
  refine Ev.getI fX1_15 (Or.inl rfl) ⟨dX1_add_1, rfl⟩ ?_
  refine Ev.bipush ⟨dX1_add_4, rfl⟩ (inRd rfl) (by decide) ?_
  refine Ev.icmp_lt jX1_add_6 (fun hc => ?_) (fun hc => ?_)
  · replace h := (if_pos hc).symm.trans h; clear hc
    exact e_X1_add_41 Θ D z _ _ _ _ _ _ _ _ _ h
  · replace h := (if_neg hc).symm.trans h; clear hc
    refine Ev.aload_n (q := 0) ⟨dX1_add_9, rfl⟩ rfl rfl ?_
    refine Ev.getRk (C2 := 24) (r := v0) fX1_9 rfl (by decide) (by decide) ⟨dX1_add_10, rfl⟩ ?_
    refine Ev.bipush ⟨dX1_add_13, rfl⟩ (inRd rfl) (by decide) ?_
    refine Ev.aload_n (q := 0) ⟨dX1_add_15, rfl⟩ rfl rfl ?_
    refine Ev.getRk (C2 := 24) (r := v0) fX1_9 rfl (by decide) (by decide) ⟨dX1_add_16, rfl⟩ ?_
    refine Ev.iconst ⟨dX1_add_19, rfl⟩ (inRd rfl) ?_
    refine Ev.aload_n (q := 0) ⟨dX1_add_20, rfl⟩ rfl rfl ?_
    refine Ev.getRk (C2 := 24) (r := v0) fX1_9 rfl (by decide) (by decide) ⟨dX1_add_21, rfl⟩ ?_
    refine Ev.alen (by decide) ⟨dX1_add_24, rfl⟩ ?_
    refine Ev.bipush ⟨dX1_add_25, rfl⟩ (inRd rfl) (by decide) ?_
    refine Ev.isub ⟨dX1_add_27, rfl⟩ (inRd rfl) ?_
    obtain ⟨c22, h⟩ := ckC_s h
    obtain ⟨x23, ex, h⟩ := bnd_s h
    refine Ev.copyI (by decide) (by decide) aX1_19 c22.1 c22.2.1 c22.2.2.1 c22.2.2.2.1 c22.2.2.2.2 (by decide) (Nat.le_of_ble_eq_true rfl) ⟨dX1_add_28, rfl⟩ ?_
    refine Ev.cast ?_ rfl rfl (hqC ex)
    clear ex
    refine Ev.aload_n (q := 0) ⟨dX1_add_31, rfl⟩ rfl rfl ?_
    refine Ev.dup ⟨dX1_add_32, rfl⟩ rfl ?_
    refine Ev.getI fX1_15 (Or.inl rfl) ⟨dX1_add_33, rfl⟩ ?_
    refine Ev.iconst ⟨dX1_add_36, rfl⟩ (inRd rfl) ?_
    obtain ⟨c24, h⟩ := ckR_s h
    refine Ev.isub ⟨dX1_add_37, rfl⟩ c24 ?_
    obtain ⟨x25, ex, h⟩ := bnd_s h
    refine Ev.putI fX1_15 ⟨dX1_add_38, rfl⟩ ?_
    refine Ev.cast ?_ rfl rfl (hqI ex)
    clear ex
    exact e_X1_add_41 Θ D z _ _ _ _ _ _ _ _ _ h

def F_X1_countOf_4 (z : Nat) (v0 : Nat) (v1 : Int) (x : Mm) : Nat → Int → Int → Option (Int)
  | 0, _, _ => none
  | k + 1, v2, v3 => if (x.1 1 v0 0) ≤ v3 then (some (v2)) else ((F_X1_part z (v0) (v3) ((0 : Int)) x).bind fun r2 => if r2 = v1 then (ckR ((v2 + 1)) <| ckR ((v3 + 1)) <| F_X1_countOf_4 z v0 v1 x k ((v2 + 1)) ((v3 + 1))) else (ckR ((v3 + 1)) <| F_X1_countOf_4 z v0 v1 x k (v2) ((v3 + 1))))
set_option maxHeartbeats 4000000 in
set_option maxRecDepth 20000 in
theorem e_X1_countOf_4 (Θ : GC) (D : Nat → Nat → Prop) (z : Nat) (v0 : Nat) (v1 : Int) (x : Mm) (Q : Ro → Hp → Prop) (mc ms : Nat) : ∀ (k : Nat) (v2 : Int) (v3 : Int) (y), F_X1_countOf_4 z v0 v1 x k v2 v3 = some y → (Ev Θ mX1_countOf 1 22 mc ms 31 [(0, vr 1 (v0 + 1)), (1, vi (v1)), (2, vi (y))] [] (hq D x) Q) → Ev Θ mX1_countOf 1 22 mc ms 4 [(0, vr 1 (v0 + 1)), (1, vi (v1)), (2, vi (v2)), (3, vi (v3))] [] (hq D x) Q := by
  intro k
  induction k with
  | zero => intro v2 v3 y h; exact absurd h (by unfold F_X1_countOf_4; exact nofun)
  | succ k ih =>
    intro v2 v3 y h k1
    unfold F_X1_countOf_4 at h
    refine Ev.iload_n (q := 3) ⟨dX1_countOf_4, rfl⟩ rfl rfl ?_
    refine Ev.aload_n (q := 0) ⟨dX1_countOf_5, rfl⟩ rfl rfl ?_
    refine Ev.getI fX1_15 (Or.inl rfl) ⟨dX1_countOf_6, rfl⟩ ?_
    refine Ev.icmp_ge jX1_countOf_9 (fun hc => ?_) (fun hc => ?_)
    · replace h := (if_pos hc).symm.trans h; clear hc
      refine Ev.keep [0, 1, 2] rfl ?_
      obtain rfl := Option.some.inj h
      exact k1
    · replace h := (if_neg hc).symm.trans h; clear hc
      refine Ev.aload_n (q := 0) ⟨dX1_countOf_12, rfl⟩ rfl rfl ?_
      refine Ev.iload_n (q := 3) ⟨dX1_countOf_13, rfl⟩ rfl rfl ?_
      refine Ev.iconst ⟨dX1_countOf_14, rfl⟩ (inRd rfl) ?_
      obtain ⟨r2, hv1, h⟩ := bnd_s h
      refine Ev.callV1 (mc1 := mc) (ms1 := ms) (v := vi r2) (h1 := hq D x) vX1_25 (c_X1_part Θ D z _ _ _ _ _ hv1) rfl rfl (by decide) rfl ⟨by decide, by decide, Nat.le_of_eq (Nat.zero_add _), Nat.le_of_eq (Nat.zero_add _), Nat.le_of_ble_eq_true rfl⟩ ⟨dX1_countOf_15, rfl⟩ ?_
      clear hv1
      refine Ev.iload_n (q := 1) ⟨dX1_countOf_18, rfl⟩ rfl rfl ?_
      refine Ev.icmp_ne jX1_countOf_19 (fun hc => ?_) (fun hc => ?_)
      · replace h := (if_neg hc).symm.trans h; clear hc
        obtain ⟨c3, h⟩ := ckR_s h
        refine Ev.iinc (q := 3) (ls' := [(0, _), (1, _), (2, _), (3, _)]) ⟨dX1_countOf_25, rfl⟩ rfl (by decide) c3 rfl ?_
        refine Ev.goto jX1_countOf_28 ?_
        exact ih _ _ _ h k1
      · replace h := (if_pos hc).symm.trans h; clear hc
        obtain ⟨c4, h⟩ := ckR_s h
        refine Ev.iinc (q := 2) (ls' := [(0, _), (1, _), (2, _), (3, _)]) ⟨dX1_countOf_22, rfl⟩ rfl (by decide) c4 rfl ?_
        obtain ⟨c5, h⟩ := ckR_s h
        refine Ev.iinc (q := 3) (ls' := [(0, _), (1, _), (2, _), (3, _)]) ⟨dX1_countOf_25, rfl⟩ rfl (by decide) c5 rfl ?_
        refine Ev.goto jX1_countOf_28 ?_
        exact ih _ _ _ h k1
def F_X1_countOf (z : Nat) (v0 : Nat) (v1 : Int) (x : Mm) : Option (Int) := (F_X1_countOf_4 z (v0) (v1) x z ((0 : Int)) ((0 : Int))).bind fun s6 => some (s6)
set_option maxHeartbeats 4000000 in
set_option maxRecDepth 20000 in
theorem c_X1_countOf (Θ : GC) (D : Nat → Nat → Prop) (z : Nat) (v0 : Nat) (v1 : Int) (x : Mm) (y) (h : F_X1_countOf z v0 v1 x = some y) : Cal Θ mX1_countOf 1 22 0 0 [vr 1 (v0 + 1), vi (v1)] (hq D x) (Ret (vi y) (hq D x)) := by
  refine Cal.of (by decide +kernel) rfl rfl (Nat.le_of_ble_eq_true rfl) ?_
  show Ev Θ mX1_countOf 1 22 0 0 0 [(0, vr 1 (v0 + 1)), (1, vi (v1))] [] (hq D x) (Ret (vi y) (hq D x))
  unfold F_X1_countOf at h
  refine Ev.iconst ⟨dX1_countOf_0, rfl⟩ (inRd rfl) ?_
  refine Ev.istore_n (i := 2) (ls' := [(0, _), (1, _), (2, _)]) ⟨dX1_countOf_1, rfl⟩ rfl (by decide) rfl ?_
  refine Ev.iconst ⟨dX1_countOf_2, rfl⟩ (inRd rfl) ?_
  refine Ev.istore_n (i := 3) (ls' := [(0, _), (1, _), (2, _), (3, _)]) ⟨dX1_countOf_3, rfl⟩ rfl (by decide) rfl ?_
  obtain ⟨s6, hl, h⟩ := bnd_s h
  refine e_X1_countOf_4 Θ D z _ _ _ _ _ _ _ _ _ _ hl ?_
  clear hl
  refine Ev.iload_n (q := 2) ⟨dX1_countOf_31, rfl⟩ rfl rfl ?_
  obtain rfl := Option.some.inj h
  exact Ev.ireturn (ty := .int) ⟨dX1_countOf_32, rfl⟩ rfl rfl ⟨rfl, rfl⟩

def F_X2_forget (z : Nat) (v0 : Nat) (x : Mm) : Option (Mm) := (some (wI x 2 v0 0 ((0 : Int)))).bind fun x1 => some (x1)
set_option maxHeartbeats 4000000 in
set_option maxRecDepth 20000 in
theorem c_X2_forget (Θ : GC) (D : Nat → Nat → Prop) (z : Nat) (v0 : Nat) (x : Mm) (y) (h : F_X2_forget z v0 x = some y) : Cal Θ mX2_forget 0 0 0 0 [vr 2 (v0 + 1)] (hq D x) (RetN (hq D y)) := by
  refine Cal.of (by decide +kernel) rfl rfl (Nat.le_of_ble_eq_true rfl) ?_
  show Ev Θ mX2_forget 0 0 0 0 0 [(0, vr 2 (v0 + 1))] [] (hq D x) (RetN (hq D y))
  unfold F_X2_forget at h
  refine Ev.aload_n (q := 0) ⟨dX2_forget_0, rfl⟩ rfl rfl ?_
  refine Ev.iconst ⟨dX2_forget_1, rfl⟩ (inRd rfl) ?_
  obtain ⟨x1, ex, h⟩ := bnd_s h
  refine Ev.putI fX2_18 ⟨dX2_forget_2, rfl⟩ ?_
  refine Ev.cast ?_ rfl rfl (hqI ex)
  clear ex
  obtain rfl := Option.some.inj h
  exact Ev.ret ⟨dX2_forget_5, rfl⟩ rfl ⟨rfl, rfl⟩

def F_X4_copyFrom (z : Nat) (v0 : Nat) (v1 : Nat) (x : Mm) : Option (Mm) := (some (wI x 4 v0 0 ((x.1 4 v1 0)))).bind fun x1 => (some (wL x1 4 v0 1 ((x1.2 4 v1 1)))).bind fun x2 => ckC (0 : Int) (0 : Int) (60 : Int) 60 <| (some (wC x2 21 v1 ((0 : Int)).toNat v0 ((0 : Int)).toNat ((60 : Int)).toNat)).bind fun x4 => ckC (0 : Int) (0 : Int) (60 : Int) 60 <| (some (wC x4 22 v1 ((0 : Int)).toNat v0 ((0 : Int)).toNat ((60 : Int)).toNat)).bind fun x6 => ckC (0 : Int) (0 : Int) (60 : Int) 60 <| (some (wCL x6 30 v1 ((0 : Int)).toNat v0 ((0 : Int)).toNat ((60 : Int)).toNat)).bind fun x8 => some (x8)
set_option maxHeartbeats 4000000 in
set_option maxRecDepth 20000 in
theorem c_X4_copyFrom (Θ : GC) (D : Nat → Nat → Prop) (z : Nat) (v0 : Nat) (v1 : Nat) (x : Mm) (y) (h : F_X4_copyFrom z v0 v1 x = some y) : Cal Θ mX4_copyFrom 1 26 0 0 [vr 4 (v0 + 1), vr 4 (v1 + 1)] (hq D x) (RetN (hq D y)) := by
  refine Cal.of (by decide +kernel) rfl rfl (Nat.le_of_ble_eq_true rfl) ?_
  show Ev Θ mX4_copyFrom 1 26 0 0 0 [(0, vr 4 (v0 + 1)), (1, vr 4 (v1 + 1))] [] (hq D x) (RetN (hq D y))
  unfold F_X4_copyFrom at h
  refine Ev.aload_n (q := 0) ⟨dX4_copyFrom_0, rfl⟩ rfl rfl ?_
  refine Ev.aload_n (q := 1) ⟨dX4_copyFrom_1, rfl⟩ rfl rfl ?_
  refine Ev.getI fX4_22 (Or.inl rfl) ⟨dX4_copyFrom_2, rfl⟩ ?_
  obtain ⟨x1, ex, h⟩ := bnd_s h
  refine Ev.putI fX4_22 ⟨dX4_copyFrom_5, rfl⟩ ?_
  refine Ev.cast ?_ rfl rfl (hqI ex)
  clear ex
  refine Ev.aload_n (q := 0) ⟨dX4_copyFrom_8, rfl⟩ rfl rfl ?_
  refine Ev.aload_n (q := 1) ⟨dX4_copyFrom_9, rfl⟩ rfl rfl ?_
  refine Ev.getL fX4_26 ⟨dX4_copyFrom_10, rfl⟩ ?_
  obtain ⟨x2, ex, h⟩ := bnd_s h
  refine Ev.putL fX4_26 ⟨dX4_copyFrom_13, rfl⟩ ?_
  refine Ev.cast ?_ rfl rfl (hqL ex)
  clear ex
  refine Ev.aload_n (q := 1) ⟨dX4_copyFrom_16, rfl⟩ rfl rfl ?_
  refine Ev.getRk (C2 := 21) (r := v1) fX4_9 rfl (by decide) (by decide) ⟨dX4_copyFrom_17, rfl⟩ ?_
  refine Ev.iconst ⟨dX4_copyFrom_20, rfl⟩ (inRd rfl) ?_
  refine Ev.aload_n (q := 0) ⟨dX4_copyFrom_21, rfl⟩ rfl rfl ?_
  refine Ev.getRk (C2 := 21) (r := v0) fX4_9 rfl (by decide) (by decide) ⟨dX4_copyFrom_22, rfl⟩ ?_
  refine Ev.iconst ⟨dX4_copyFrom_25, rfl⟩ (inRd rfl) ?_
  refine Ev.bipush ⟨dX4_copyFrom_26, rfl⟩ (inRd rfl) (by decide) ?_
  obtain ⟨c3, h⟩ := ckC_s h
  obtain ⟨x4, ex, h⟩ := bnd_s h
  refine Ev.copyI (by decide) (by decide) aX4_34 c3.1 c3.2.1 c3.2.2.1 c3.2.2.2.1 c3.2.2.2.2 (by decide) (Nat.le_of_ble_eq_true rfl) ⟨dX4_copyFrom_28, rfl⟩ ?_
  refine Ev.cast ?_ rfl rfl (hqC ex)
  clear ex
  refine Ev.aload_n (q := 1) ⟨dX4_copyFrom_31, rfl⟩ rfl rfl ?_
  refine Ev.getRk (C2 := 22) (r := v1) fX4_15 rfl (by decide) (by decide) ⟨dX4_copyFrom_32, rfl⟩ ?_
  refine Ev.iconst ⟨dX4_copyFrom_35, rfl⟩ (inRd rfl) ?_
  refine Ev.aload_n (q := 0) ⟨dX4_copyFrom_36, rfl⟩ rfl rfl ?_
  refine Ev.getRk (C2 := 22) (r := v0) fX4_15 rfl (by decide) (by decide) ⟨dX4_copyFrom_37, rfl⟩ ?_
  refine Ev.iconst ⟨dX4_copyFrom_40, rfl⟩ (inRd rfl) ?_
  refine Ev.bipush ⟨dX4_copyFrom_41, rfl⟩ (inRd rfl) (by decide) ?_
  obtain ⟨c5, h⟩ := ckC_s h
  obtain ⟨x6, ex, h⟩ := bnd_s h
  refine Ev.copyI (by decide) (by decide) aX4_34 c5.1 c5.2.1 c5.2.2.1 c5.2.2.2.1 c5.2.2.2.2 (by decide) (Nat.le_of_ble_eq_true rfl) ⟨dX4_copyFrom_43, rfl⟩ ?_
  refine Ev.cast ?_ rfl rfl (hqC ex)
  clear ex
  refine Ev.aload_n (q := 1) ⟨dX4_copyFrom_46, rfl⟩ rfl rfl ?_
  refine Ev.getRk (C2 := 30) (r := v1) fX4_18 rfl (by decide) (by decide) ⟨dX4_copyFrom_47, rfl⟩ ?_
  refine Ev.iconst ⟨dX4_copyFrom_50, rfl⟩ (inRd rfl) ?_
  refine Ev.aload_n (q := 0) ⟨dX4_copyFrom_51, rfl⟩ rfl rfl ?_
  refine Ev.getRk (C2 := 30) (r := v0) fX4_18 rfl (by decide) (by decide) ⟨dX4_copyFrom_52, rfl⟩ ?_
  refine Ev.iconst ⟨dX4_copyFrom_55, rfl⟩ (inRd rfl) ?_
  refine Ev.bipush ⟨dX4_copyFrom_56, rfl⟩ (inRd rfl) (by decide) ?_
  obtain ⟨c7, h⟩ := ckC_s h
  obtain ⟨x8, ex, h⟩ := bnd_s h
  refine Ev.copyL (by decide) (by decide) aX4_34 c7.1 c7.2.1 c7.2.2.1 c7.2.2.2.1 c7.2.2.2.2 (by decide) (Nat.le_of_ble_eq_true rfl) ⟨dX4_copyFrom_58, rfl⟩ ?_
  refine Ev.cast ?_ rfl rfl (hqCL ex)
  clear ex
  obtain rfl := Option.some.inj h
  exact Ev.ret ⟨dX4_copyFrom_61, rfl⟩ rfl ⟨rfl, rfl⟩

def F_X3_copyFrom (z : Nat) (v0 : Nat) (v1 : Nat) (x : Mm) : Option (Mm) := ckZ ((x.1 3 v1 0)) <| (some (wI x 3 v0 0 ((x.1 3 v1 0)))).bind fun x2 => if (x2.1 3 v0 0) = 0 then (some (x2)) else ((some (wI x2 3 v0 1 ((x2.1 3 v1 1)))).bind fun x3 => (some (wI x3 3 v0 2 ((x3.1 3 v1 2)))).bind fun x4 => ckZ ((x4.1 3 v1 3)) <| (some (wI x4 3 v0 3 ((x4.1 3 v1 3)))).bind fun x6 => (some (wL x6 3 v0 4 ((x6.2 3 v1 4)))).bind fun x7 => (F_X0_copyFrom z ((3 * v0 + 1)) ((3 * v1 + 1)) x7).bind fun r9 => (F_X0_copyFrom z ((3 * v0 + 2)) ((3 * v1 + 2)) r9).bind fun r11 => some (r11))
set_option maxHeartbeats 4000000 in
set_option maxRecDepth 20000 in
theorem c_X3_copyFrom (Θ : GC) (D : Nat → Nat → Prop) (z : Nat) (v0 : Nat) (v1 : Nat) (x : Mm) (y) (h : F_X3_copyFrom z v0 v1 x = some y) : Cal Θ mX3_copyFrom 2 47 0 0 [vr 3 (v0 + 1), vr 3 (v1 + 1)] (hq D x) (RetN (hq D y)) := by
  refine Cal.of (by decide +kernel) rfl rfl (Nat.le_of_ble_eq_true rfl) ?_
  show Ev Θ mX3_copyFrom 2 47 0 0 0 [(0, vr 3 (v0 + 1)), (1, vr 3 (v1 + 1))] [] (hq D x) (RetN (hq D y))
  unfold F_X3_copyFrom at h
  refine Ev.aload_n (q := 0) ⟨dX3_copyFrom_0, rfl⟩ rfl rfl ?_
  refine Ev.aload_n (q := 1) ⟨dX3_copyFrom_1, rfl⟩ rfl rfl ?_
  refine Ev.getI fX3_19 (Or.inr rfl) ⟨dX3_copyFrom_2, rfl⟩ ?_
  obtain ⟨c1, h⟩ := ckZ_s h
  obtain ⟨x2, ex, h⟩ := bnd_s h
  refine Ev.putZ fX3_19 c1 ⟨dX3_copyFrom_5, rfl⟩ ?_
  refine Ev.cast ?_ rfl rfl (hqI ex)
  clear ex
  refine Ev.aload_n (q := 0) ⟨dX3_copyFrom_8, rfl⟩ rfl rfl ?_
  refine Ev.getI fX3_19 (Or.inr rfl) ⟨dX3_copyFrom_9, rfl⟩ ?_
  refine Ev.if_ne jX3_copyFrom_12 (fun hc => ?_) (fun hc => ?_)
  · replace h := (if_neg hc).symm.trans h; clear hc
    refine Ev.aload_n (q := 0) ⟨dX3_copyFrom_16, rfl⟩ rfl rfl ?_
    refine Ev.aload_n (q := 1) ⟨dX3_copyFrom_17, rfl⟩ rfl rfl ?_
    refine Ev.getI fX3_23 (Or.inl rfl) ⟨dX3_copyFrom_18, rfl⟩ ?_
    obtain ⟨x3, ex, h⟩ := bnd_s h
    refine Ev.putI fX3_23 ⟨dX3_copyFrom_21, rfl⟩ ?_
    refine Ev.cast ?_ rfl rfl (hqI ex)
    clear ex
    refine Ev.aload_n (q := 0) ⟨dX3_copyFrom_24, rfl⟩ rfl rfl ?_
    refine Ev.aload_n (q := 1) ⟨dX3_copyFrom_25, rfl⟩ rfl rfl ?_
    refine Ev.getI fX3_27 (Or.inl rfl) ⟨dX3_copyFrom_26, rfl⟩ ?_
    obtain ⟨x4, ex, h⟩ := bnd_s h
    refine Ev.putI fX3_27 ⟨dX3_copyFrom_29, rfl⟩ ?_
    refine Ev.cast ?_ rfl rfl (hqI ex)
    clear ex
    refine Ev.aload_n (q := 0) ⟨dX3_copyFrom_32, rfl⟩ rfl rfl ?_
    refine Ev.aload_n (q := 1) ⟨dX3_copyFrom_33, rfl⟩ rfl rfl ?_
    refine Ev.getI fX3_30 (Or.inr rfl) ⟨dX3_copyFrom_34, rfl⟩ ?_
    obtain ⟨c5, h⟩ := ckZ_s h
    obtain ⟨x6, ex, h⟩ := bnd_s h
    refine Ev.putZ fX3_30 c5 ⟨dX3_copyFrom_37, rfl⟩ ?_
    refine Ev.cast ?_ rfl rfl (hqI ex)
    clear ex
    refine Ev.aload_n (q := 0) ⟨dX3_copyFrom_40, rfl⟩ rfl rfl ?_
    refine Ev.aload_n (q := 1) ⟨dX3_copyFrom_41, rfl⟩ rfl rfl ?_
    refine Ev.getL fX3_33 ⟨dX3_copyFrom_42, rfl⟩ ?_
    obtain ⟨x7, ex, h⟩ := bnd_s h
    refine Ev.putL fX3_33 ⟨dX3_copyFrom_45, rfl⟩ ?_
    refine Ev.cast ?_ rfl rfl (hqL ex)
    clear ex
    refine Ev.aload_n (q := 0) ⟨dX3_copyFrom_48, rfl⟩ rfl rfl ?_
    refine Ev.getRk (C2 := 0) (r := (3 * v0 + 1)) fX3_10 rfl (by decide) (by decide) ⟨dX3_copyFrom_49, rfl⟩ ?_
    refine Ev.aload_n (q := 1) ⟨dX3_copyFrom_52, rfl⟩ rfl rfl ?_
    refine Ev.getRk (C2 := 0) (r := (3 * v1 + 1)) fX3_10 rfl (by decide) (by decide) ⟨dX3_copyFrom_53, rfl⟩ ?_
    obtain ⟨r9, hv8, h⟩ := bnd_s h
    refine Ev.callVN (mc1 := 0) (ms1 := 0) (h1 := hq D r9) vX3_37 (c_X0_copyFrom Θ D z _ _ _ _ hv8) rfl rfl (by decide) rfl ⟨by decide, by decide, Nat.le_of_eq (Nat.zero_add _), Nat.le_of_eq (Nat.zero_add _), Nat.le_of_ble_eq_true rfl⟩ ⟨dX3_copyFrom_56, rfl⟩ ?_
    clear hv8
    refine Ev.aload_n (q := 0) ⟨dX3_copyFrom_59, rfl⟩ rfl rfl ?_
    refine Ev.getRk (C2 := 0) (r := (3 * v0 + 2)) fX3_16 rfl (by decide) (by decide) ⟨dX3_copyFrom_60, rfl⟩ ?_
    refine Ev.aload_n (q := 1) ⟨dX3_copyFrom_63, rfl⟩ rfl rfl ?_
    refine Ev.getRk (C2 := 0) (r := (3 * v1 + 2)) fX3_16 rfl (by decide) (by decide) ⟨dX3_copyFrom_64, rfl⟩ ?_
    obtain ⟨r11, hv10, h⟩ := bnd_s h
    refine Ev.callVN (mc1 := 0) (ms1 := 0) (h1 := hq D r11) vX3_37 (c_X0_copyFrom Θ D z _ _ _ _ hv10) rfl rfl (by decide) rfl ⟨by decide, by decide, Nat.le_of_eq (Nat.zero_add _), Nat.le_of_eq (Nat.zero_add _), Nat.le_of_ble_eq_true rfl⟩ ⟨dX3_copyFrom_67, rfl⟩ ?_
    clear hv10
    obtain rfl := Option.some.inj h
    exact Ev.ret ⟨dX3_copyFrom_70, rfl⟩ rfl ⟨rfl, rfl⟩
  · replace h := (if_pos hc).symm.trans h; clear hc
    obtain rfl := Option.some.inj h
    exact Ev.ret ⟨dX3_copyFrom_15, rfl⟩ rfl ⟨rfl, rfl⟩

def F_X6_copyFrom_63 (z : Nat) (v0 : Nat) (v1 : Nat) : Nat → Int → Mm → Option (Mm)
  | 0, _, _ => none
  | k + 1, v2, x => if (5 : Int) ≤ v2 then (some (x)) else (ckI v2 5 <| ckI v2 5 <| (F_X3_copyFrom z ((5 * v0 + (v2).toNat)) ((5 * v1 + (v2).toNat)) x).bind fun r13 => ckR ((v2 + 1)) <| F_X6_copyFrom_63 z v0 v1 k ((v2 + 1)) r13)
set_option maxHeartbeats 4000000 in
set_option maxRecDepth 20000 in
theorem e_X6_copyFrom_63 (Θ : GC) (D : Nat → Nat → Prop) (z : Nat) (v0 : Nat) (v1 : Nat) (Q : Ro → Hp → Prop) (mc ms : Nat) : ∀ (k : Nat) (v2 : Int) (x : Mm) (y), F_X6_copyFrom_63 z v0 v1 k v2 x = some y → (Ev Θ mX6_copyFrom 3 68 mc ms 89 [(0, vr 6 (v0 + 1)), (1, vr 6 (v1 + 1))] [] (hq D y) Q) → Ev Θ mX6_copyFrom 3 68 mc ms 63 [(0, vr 6 (v0 + 1)), (1, vr 6 (v1 + 1)), (2, vi (v2))] [] (hq D x) Q := by
  intro k
  induction k with
  | zero => intro v2 x y h; exact absurd h (by unfold F_X6_copyFrom_63; exact nofun)
  | succ k ih =>
    intro v2 x y h k1
    unfold F_X6_copyFrom_63 at h
    refine Ev.iload_n (q := 2) ⟨dX6_copyFrom_63, rfl⟩ rfl rfl ?_
    refine Ev.iconst ⟨dX6_copyFrom_64, rfl⟩ (inRd rfl) ?_
    refine Ev.icmp_ge jX6_copyFrom_65 (fun hc => ?_) (fun hc => ?_)
    · replace h := (if_pos hc).symm.trans h; clear hc
      refine Ev.keep [0, 1] rfl ?_
      obtain rfl := Option.some.inj h
      exact k1
    · replace h := (if_neg hc).symm.trans h; clear hc
      refine Ev.aload_n (q := 0) ⟨dX6_copyFrom_68, rfl⟩ rfl rfl ?_
      refine Ev.getRk (C2 := 11) (r := v0) fX6_31 rfl (by decide) (by decide) ⟨dX6_copyFrom_69, rfl⟩ ?_
      refine Ev.iload_n (q := 2) ⟨dX6_copyFrom_72, rfl⟩ rfl rfl ?_
      obtain ⟨c10, h⟩ := ckI_s h
      refine Ev.aaloadk (C := 3) (r := (5 * v0 + (v2).toNat)) (by decide) c10.1 c10.2 (sr11 c10) ⟨dX6_copyFrom_73, rfl⟩ ?_
      refine Ev.aload_n (q := 1) ⟨dX6_copyFrom_74, rfl⟩ rfl rfl ?_
      refine Ev.getRk (C2 := 11) (r := v1) fX6_31 rfl (by decide) (by decide) ⟨dX6_copyFrom_75, rfl⟩ ?_
      refine Ev.iload_n (q := 2) ⟨dX6_copyFrom_78, rfl⟩ rfl rfl ?_
      obtain ⟨c11, h⟩ := ckI_s h
      refine Ev.aaloadk (C := 3) (r := (5 * v1 + (v2).toNat)) (by decide) c11.1 c11.2 (sr11 c11) ⟨dX6_copyFrom_79, rfl⟩ ?_
      obtain ⟨r13, hv12, h⟩ := bnd_s h
      refine Ev.callVN (mc1 := mc) (ms1 := ms) (h1 := hq D r13) vX6_77 (c_X3_copyFrom Θ D z _ _ _ _ hv12) rfl rfl (by decide) rfl ⟨by decide, by decide, Nat.le_of_eq (Nat.zero_add _), Nat.le_of_eq (Nat.zero_add _), Nat.le_of_ble_eq_true rfl⟩ ⟨dX6_copyFrom_80, rfl⟩ ?_
      clear hv12
      obtain ⟨c14, h⟩ := ckR_s h
      refine Ev.iinc (q := 2) (ls' := [(0, _), (1, _), (2, _)]) ⟨dX6_copyFrom_83, rfl⟩ rfl (by decide) c14 rfl ?_
      refine Ev.goto jX6_copyFrom_86 ?_
      exact ih _ _ _ h k1
def F_X6_copyFrom (z : Nat) (v0 : Nat) (v1 : Nat) (x : Mm) : Option (Mm) := (some (wI x 6 v0 0 ((x.1 6 v1 0)))).bind fun x1 => (some (wI x1 6 v0 1 ((x1.1 6 v1 1)))).bind fun x2 => (some (wI x2 6 v0 2 ((x2.1 6 v1 2)))).bind fun x3 => ckC (0 : Int) (0 : Int) (6 : Int) 6 <| (some (wC x3 20 v1 ((0 : Int)).toNat v0 ((0 : Int)).toNat ((6 : Int)).toNat)).bind fun x5 => (F_X4_copyFrom z (v0) (v1) x5).bind fun r7 => (F_X0_copyFrom z ((3 * v0)) ((3 * v1)) r7).bind fun r9 => (F_X6_copyFrom_63 z (v0) (v1) z ((0 : Int)) r9).bind fun s15 => (F_X1_copyFrom z (v0) (v1) s15).bind fun r17 => some (r17)
set_option maxHeartbeats 4000000 in
set_option maxRecDepth 20000 in
theorem c_X6_copyFrom (Θ : GC) (D : Nat → Nat → Prop) (z : Nat) (v0 : Nat) (v1 : Nat) (x : Mm) (y) (h : F_X6_copyFrom z v0 v1 x = some y) : Cal Θ mX6_copyFrom 3 68 0 0 [vr 6 (v0 + 1), vr 6 (v1 + 1)] (hq D x) (RetN (hq D y)) := by
  refine Cal.of (by decide +kernel) rfl rfl (Nat.le_of_ble_eq_true rfl) ?_
  show Ev Θ mX6_copyFrom 3 68 0 0 0 [(0, vr 6 (v0 + 1)), (1, vr 6 (v1 + 1))] [] (hq D x) (RetN (hq D y))
  unfold F_X6_copyFrom at h
  refine Ev.aload_n (q := 0) ⟨dX6_copyFrom_0, rfl⟩ rfl rfl ?_
  refine Ev.aload_n (q := 1) ⟨dX6_copyFrom_1, rfl⟩ rfl rfl ?_
  refine Ev.getI fX6_43 (Or.inl rfl) ⟨dX6_copyFrom_2, rfl⟩ ?_
  obtain ⟨x1, ex, h⟩ := bnd_s h
  refine Ev.putI fX6_43 ⟨dX6_copyFrom_5, rfl⟩ ?_
  refine Ev.cast ?_ rfl rfl (hqI ex)
  clear ex
  refine Ev.aload_n (q := 0) ⟨dX6_copyFrom_8, rfl⟩ rfl rfl ?_
  refine Ev.aload_n (q := 1) ⟨dX6_copyFrom_9, rfl⟩ rfl rfl ?_
  refine Ev.getI fX6_47 (Or.inl rfl) ⟨dX6_copyFrom_10, rfl⟩ ?_
  obtain ⟨x2, ex, h⟩ := bnd_s h
  refine Ev.putI fX6_47 ⟨dX6_copyFrom_13, rfl⟩ ?_
  refine Ev.cast ?_ rfl rfl (hqI ex)
  clear ex
  refine Ev.aload_n (q := 0) ⟨dX6_copyFrom_16, rfl⟩ rfl rfl ?_
  refine Ev.aload_n (q := 1) ⟨dX6_copyFrom_17, rfl⟩ rfl rfl ?_
  refine Ev.getI fX6_50 (Or.inl rfl) ⟨dX6_copyFrom_18, rfl⟩ ?_
  obtain ⟨x3, ex, h⟩ := bnd_s h
  refine Ev.putI fX6_50 ⟨dX6_copyFrom_21, rfl⟩ ?_
  refine Ev.cast ?_ rfl rfl (hqI ex)
  clear ex
  refine Ev.aload_n (q := 1) ⟨dX6_copyFrom_24, rfl⟩ rfl rfl ?_
  refine Ev.getRk (C2 := 20) (r := v1) fX6_9 rfl (by decide) (by decide) ⟨dX6_copyFrom_25, rfl⟩ ?_
  refine Ev.iconst ⟨dX6_copyFrom_28, rfl⟩ (inRd rfl) ?_
  refine Ev.aload_n (q := 0) ⟨dX6_copyFrom_29, rfl⟩ rfl rfl ?_
  refine Ev.getRk (C2 := 20) (r := v0) fX6_9 rfl (by decide) (by decide) ⟨dX6_copyFrom_30, rfl⟩ ?_
  refine Ev.iconst ⟨dX6_copyFrom_33, rfl⟩ (inRd rfl) ?_
  refine Ev.bipush ⟨dX6_copyFrom_34, rfl⟩ (inRd rfl) (by decide) ?_
  obtain ⟨c4, h⟩ := ckC_s h
  obtain ⟨x5, ex, h⟩ := bnd_s h
  refine Ev.copyI (by decide) (by decide) aX6_64 c4.1 c4.2.1 c4.2.2.1 c4.2.2.2.1 c4.2.2.2.2 (by decide) (Nat.le_of_ble_eq_true rfl) ⟨dX6_copyFrom_36, rfl⟩ ?_
  refine Ev.cast ?_ rfl rfl (hqC ex)
  clear ex
  refine Ev.aload_n (q := 0) ⟨dX6_copyFrom_39, rfl⟩ rfl rfl ?_
  refine Ev.getRk (C2 := 4) (r := v0) fX6_18 rfl (by decide) (by decide) ⟨dX6_copyFrom_40, rfl⟩ ?_
  refine Ev.aload_n (q := 1) ⟨dX6_copyFrom_43, rfl⟩ rfl rfl ?_
  refine Ev.getRk (C2 := 4) (r := v1) fX6_18 rfl (by decide) (by decide) ⟨dX6_copyFrom_44, rfl⟩ ?_
  obtain ⟨r7, hv6, h⟩ := bnd_s h
  refine Ev.callVN (mc1 := 0) (ms1 := 0) (h1 := hq D r7) vX6_70 (c_X4_copyFrom Θ D z _ _ _ _ hv6) rfl rfl (by decide) rfl ⟨by decide, by decide, Nat.le_of_eq (Nat.zero_add _), Nat.le_of_eq (Nat.zero_add _), Nat.le_of_ble_eq_true rfl⟩ ⟨dX6_copyFrom_47, rfl⟩ ?_
  clear hv6
  refine Ev.aload_n (q := 0) ⟨dX6_copyFrom_50, rfl⟩ rfl rfl ?_
  refine Ev.getRk (C2 := 0) (r := (3 * v0)) fX6_25 rfl (by decide) (by decide) ⟨dX6_copyFrom_51, rfl⟩ ?_
  refine Ev.aload_n (q := 1) ⟨dX6_copyFrom_54, rfl⟩ rfl rfl ?_
  refine Ev.getRk (C2 := 0) (r := (3 * v1)) fX6_25 rfl (by decide) (by decide) ⟨dX6_copyFrom_55, rfl⟩ ?_
  obtain ⟨r9, hv8, h⟩ := bnd_s h
  refine Ev.callVN (mc1 := 0) (ms1 := 0) (h1 := hq D r9) vX6_74 (c_X0_copyFrom Θ D z _ _ _ _ hv8) rfl rfl (by decide) rfl ⟨by decide, by decide, Nat.le_of_eq (Nat.zero_add _), Nat.le_of_eq (Nat.zero_add _), Nat.le_of_ble_eq_true rfl⟩ ⟨dX6_copyFrom_58, rfl⟩ ?_
  clear hv8
  refine Ev.iconst ⟨dX6_copyFrom_61, rfl⟩ (inRd rfl) ?_
  refine Ev.istore_n (i := 2) (ls' := [(0, _), (1, _), (2, _)]) ⟨dX6_copyFrom_62, rfl⟩ rfl (by decide) rfl ?_
  obtain ⟨s15, hl, h⟩ := bnd_s h
  refine e_X6_copyFrom_63 Θ D z _ _ _ _ _ _ _ _ _ hl ?_
  clear hl
  refine Ev.aload_n (q := 0) ⟨dX6_copyFrom_89, rfl⟩ rfl rfl ?_
  refine Ev.getRk (C2 := 1) (r := v0) fX6_38 rfl (by decide) (by decide) ⟨dX6_copyFrom_90, rfl⟩ ?_
  refine Ev.aload_n (q := 1) ⟨dX6_copyFrom_93, rfl⟩ rfl rfl ?_
  refine Ev.getRk (C2 := 1) (r := v1) fX6_38 rfl (by decide) (by decide) ⟨dX6_copyFrom_94, rfl⟩ ?_
  obtain ⟨r17, hv16, h⟩ := bnd_s h
  refine Ev.callVN (mc1 := 0) (ms1 := 0) (h1 := hq D r17) vX6_80 (c_X1_copyFrom Θ D z _ _ _ _ hv16) rfl rfl (by decide) rfl ⟨by decide, by decide, Nat.le_of_eq (Nat.zero_add _), Nat.le_of_eq (Nat.zero_add _), Nat.le_of_ble_eq_true rfl⟩ ⟨dX6_copyFrom_97, rfl⟩ ?_
  clear hv16
  obtain rfl := Option.some.inj h
  exact Ev.ret ⟨dX6_copyFrom_100, rfl⟩ rfl ⟨rfl, rfl⟩

def F_X2_push (z : Nat) (v0 : Nat) (v1 : Nat) (x : Mm) : Option (Mm) := ckI (x.1 2 v0 1) 8 <| (F_X6_copyFrom z ((2 + ((x.1 2 v0 1)).toNat)) (v1) x).bind fun r3 => ckR (((r3.1 2 v0 1) + (1 : Int))) <| ckM ((r3.1 2 v0 1) + (1 : Int)) (8 : Int) <| (some (wI r3 2 v0 1 ((((r3.1 2 v0 1) + (1 : Int)) % (8 : Int))))).bind fun x6 => ckR (((x6.1 2 v0 0) + (1 : Int))) <| (some (wI x6 2 v0 0 ((min ((x6.1 2 v0 0) + (1 : Int)) (8 : Int))))).bind fun x8 => some (x8)
set_option maxHeartbeats 4000000 in
set_option maxRecDepth 20000 in
theorem c_X2_push (Θ : GC) (D : Nat → Nat → Prop) (z : Nat) (v0 : Nat) (v1 : Nat) (x : Mm) (y) (h : F_X2_push z v0 v1 x = some y) : Cal Θ mX2_push 4 90 0 0 [vr 2 (v0 + 1), vr 6 (v1 + 1)] (hq D x) (RetN (hq D y)) := by
  refine Cal.of (by decide +kernel) rfl rfl (Nat.le_of_ble_eq_true rfl) ?_
  show Ev Θ mX2_push 4 90 0 0 0 [(0, vr 2 (v0 + 1)), (1, vr 6 (v1 + 1))] [] (hq D x) (RetN (hq D y))
  unfold F_X2_push at h
  refine Ev.aload_n (q := 0) ⟨dX2_push_0, rfl⟩ rfl rfl ?_
  refine Ev.getRk (C2 := 12) (r := 0) fX2_11 rfl (by decide) (by decide) ⟨dX2_push_1, rfl⟩ ?_
  refine Ev.aload_n (q := 0) ⟨dX2_push_4, rfl⟩ rfl rfl ?_
  refine Ev.getI fX2_22 (Or.inl rfl) ⟨dX2_push_5, rfl⟩ ?_
  obtain ⟨c1, h⟩ := ckI_s h
  refine Ev.aaloadk (C := 6) (r := (2 + ((x.1 2 v0 1)).toNat)) (by decide) c1.1 c1.2 (sr12 c1) ⟨dX2_push_8, rfl⟩ ?_
  refine Ev.aload_n (q := 1) ⟨dX2_push_9, rfl⟩ rfl rfl ?_
  obtain ⟨r3, hv2, h⟩ := bnd_s h
  refine Ev.callVN (mc1 := 0) (ms1 := 0) (h1 := hq D r3) vX2_25 (c_X6_copyFrom Θ D z _ _ _ _ hv2) rfl rfl (by decide) rfl ⟨by decide, by decide, Nat.le_of_eq (Nat.zero_add _), Nat.le_of_eq (Nat.zero_add _), Nat.le_of_ble_eq_true rfl⟩ ⟨dX2_push_10, rfl⟩ ?_
  clear hv2
  refine Ev.aload_n (q := 0) ⟨dX2_push_13, rfl⟩ rfl rfl ?_
  refine Ev.aload_n (q := 0) ⟨dX2_push_14, rfl⟩ rfl rfl ?_
  refine Ev.getI fX2_22 (Or.inl rfl) ⟨dX2_push_15, rfl⟩ ?_
  refine Ev.iconst ⟨dX2_push_18, rfl⟩ (inRd rfl) ?_
  obtain ⟨c4, h⟩ := ckR_s h
  refine Ev.iadd ⟨dX2_push_19, rfl⟩ c4 ?_
  refine Ev.bipush ⟨dX2_push_20, rfl⟩ (inRd rfl) (by decide) ?_
  obtain ⟨c5, h⟩ := ckM_s h
  refine Ev.irem ⟨dX2_push_22, rfl⟩ c5.1 c5.2 ?_
  obtain ⟨x6, ex, h⟩ := bnd_s h
  refine Ev.putI fX2_22 ⟨dX2_push_23, rfl⟩ ?_
  refine Ev.cast ?_ rfl rfl (hqI ex)
  clear ex
  refine Ev.aload_n (q := 0) ⟨dX2_push_26, rfl⟩ rfl rfl ?_
  refine Ev.aload_n (q := 0) ⟨dX2_push_27, rfl⟩ rfl rfl ?_
  refine Ev.getI fX2_18 (Or.inl rfl) ⟨dX2_push_28, rfl⟩ ?_
  refine Ev.iconst ⟨dX2_push_31, rfl⟩ (inRd rfl) ?_
  obtain ⟨c7, h⟩ := ckR_s h
  refine Ev.iadd ⟨dX2_push_32, rfl⟩ c7 ?_
  refine Ev.bipush ⟨dX2_push_33, rfl⟩ (inRd rfl) (by decide) ?_
  refine Ev.mmin qX2_29 (by decide) (Nat.le_of_ble_eq_true rfl) ⟨dX2_push_35, rfl⟩ ?_
  obtain ⟨x8, ex, h⟩ := bnd_s h
  refine Ev.putI fX2_18 ⟨dX2_push_38, rfl⟩ ?_
  refine Ev.cast ?_ rfl rfl (hqI ex)
  clear ex
  obtain rfl := Option.some.inj h
  exact Ev.ret ⟨dX2_push_41, rfl⟩ rfl ⟨rfl, rfl⟩

def F_X2_popInto (z : Nat) (v0 : Nat) (v1 : Nat) (x : Mm) : Option (Mm) := ckR (((x.1 2 v0 1) + (8 : Int))) <| ckR ((((x.1 2 v0 1) + (8 : Int)) - (1 : Int))) <| ckM (((x.1 2 v0 1) + (8 : Int)) - (1 : Int)) (8 : Int) <| (some (wI x 2 v0 1 (((((x.1 2 v0 1) + (8 : Int)) - (1 : Int)) % (8 : Int))))).bind fun x4 => ckR (((x4.1 2 v0 0) - (1 : Int))) <| (some (wI x4 2 v0 0 (((x4.1 2 v0 0) - (1 : Int))))).bind fun x6 => ckI (x6.1 2 v0 1) 8 <| (F_X6_copyFrom z (v1) ((2 + ((x6.1 2 v0 1)).toNat)) x6).bind fun r9 => some (r9)
set_option maxHeartbeats 4000000 in
set_option maxRecDepth 20000 in
theorem c_X2_popInto (Θ : GC) (D : Nat → Nat → Prop) (z : Nat) (v0 : Nat) (v1 : Nat) (x : Mm) (y) (h : F_X2_popInto z v0 v1 x = some y) : Cal Θ mX2_popInto 4 90 0 0 [vr 2 (v0 + 1), vr 6 (v1 + 1)] (hq D x) (RetN (hq D y)) := by
  refine Cal.of (by decide +kernel) rfl rfl (Nat.le_of_ble_eq_true rfl) ?_
  show Ev Θ mX2_popInto 4 90 0 0 0 [(0, vr 2 (v0 + 1)), (1, vr 6 (v1 + 1))] [] (hq D x) (RetN (hq D y))
  unfold F_X2_popInto at h
  refine Ev.aload_n (q := 0) ⟨dX2_popInto_0, rfl⟩ rfl rfl ?_
  refine Ev.aload_n (q := 0) ⟨dX2_popInto_1, rfl⟩ rfl rfl ?_
  refine Ev.getI fX2_22 (Or.inl rfl) ⟨dX2_popInto_2, rfl⟩ ?_
  refine Ev.bipush ⟨dX2_popInto_5, rfl⟩ (inRd rfl) (by decide) ?_
  obtain ⟨c1, h⟩ := ckR_s h
  refine Ev.iadd ⟨dX2_popInto_7, rfl⟩ c1 ?_
  refine Ev.iconst ⟨dX2_popInto_8, rfl⟩ (inRd rfl) ?_
  obtain ⟨c2, h⟩ := ckR_s h
  refine Ev.isub ⟨dX2_popInto_9, rfl⟩ c2 ?_
  refine Ev.bipush ⟨dX2_popInto_10, rfl⟩ (inRd rfl) (by decide) ?_
  obtain ⟨c3, h⟩ := ckM_s h
  refine Ev.irem ⟨dX2_popInto_12, rfl⟩ c3.1 c3.2 ?_
  obtain ⟨x4, ex, h⟩ := bnd_s h
  refine Ev.putI fX2_22 ⟨dX2_popInto_13, rfl⟩ ?_
  refine Ev.cast ?_ rfl rfl (hqI ex)
  clear ex
  refine Ev.aload_n (q := 0) ⟨dX2_popInto_16, rfl⟩ rfl rfl ?_
  refine Ev.dup ⟨dX2_popInto_17, rfl⟩ rfl ?_
  refine Ev.getI fX2_18 (Or.inl rfl) ⟨dX2_popInto_18, rfl⟩ ?_
  refine Ev.iconst ⟨dX2_popInto_21, rfl⟩ (inRd rfl) ?_
  obtain ⟨c5, h⟩ := ckR_s h
  refine Ev.isub ⟨dX2_popInto_22, rfl⟩ c5 ?_
  obtain ⟨x6, ex, h⟩ := bnd_s h
  refine Ev.putI fX2_18 ⟨dX2_popInto_23, rfl⟩ ?_
  refine Ev.cast ?_ rfl rfl (hqI ex)
  clear ex
  refine Ev.aload_n (q := 1) ⟨dX2_popInto_26, rfl⟩ rfl rfl ?_
  refine Ev.aload_n (q := 0) ⟨dX2_popInto_27, rfl⟩ rfl rfl ?_
  refine Ev.getRk (C2 := 12) (r := 0) fX2_11 rfl (by decide) (by decide) ⟨dX2_popInto_28, rfl⟩ ?_
  refine Ev.aload_n (q := 0) ⟨dX2_popInto_31, rfl⟩ rfl rfl ?_
  refine Ev.getI fX2_22 (Or.inl rfl) ⟨dX2_popInto_32, rfl⟩ ?_
  obtain ⟨c7, h⟩ := ckI_s h
  refine Ev.aaloadk (C := 6) (r := (2 + ((x6.1 2 v0 1)).toNat)) (by decide) c7.1 c7.2 (sr12 c7) ⟨dX2_popInto_35, rfl⟩ ?_
  obtain ⟨r9, hv8, h⟩ := bnd_s h
  refine Ev.callVN (mc1 := 0) (ms1 := 0) (h1 := hq D r9) vX2_25 (c_X6_copyFrom Θ D z _ _ _ _ hv8) rfl rfl (by decide) rfl ⟨by decide, by decide, Nat.le_of_eq (Nat.zero_add _), Nat.le_of_eq (Nat.zero_add _), Nat.le_of_ble_eq_true rfl⟩ ⟨dX2_popInto_36, rfl⟩ ?_
  clear hv8
  obtain rfl := Option.some.inj h
  exact Ev.ret ⟨dX2_popInto_39, rfl⟩ rfl ⟨rfl, rfl⟩

def F_X3_changedFields (z : Nat) (v0 : Nat) (v1 : Int) (x : Mm) : Option (Int) := (F_X0_has z ((3 * v0 + 1)) (v1) x).bind fun r2 => if r2 = 0 then (some ((0 : Int))) else ((F_X0_has z ((3 * v0 + 2)) (v1) x).bind fun r4 => if r4 = 0 then (some ((0 : Int))) else ((F_X0_countDifferent z ((3 * v0 + 2)) ((3 * v0 + 1)) (v1) x).bind fun r6 => some (r6)))
set_option maxHeartbeats 4000000 in
set_option maxRecDepth 20000 in
theorem c_X3_changedFields (Θ : GC) (D : Nat → Nat → Prop) (z : Nat) (v0 : Nat) (v1 : Int) (x : Mm) (y) (h : F_X3_changedFields z v0 v1 x = some y) : Cal Θ mX3_changedFields 2 46 0 0 [vr 3 (v0 + 1), vi (v1)] (hq D x) (Ret (vi y) (hq D x)) := by
  refine Cal.of (by decide +kernel) rfl rfl (Nat.le_of_ble_eq_true rfl) ?_
  show Ev Θ mX3_changedFields 2 46 0 0 0 [(0, vr 3 (v0 + 1)), (1, vi (v1))] [] (hq D x) (Ret (vi y) (hq D x))
  unfold F_X3_changedFields at h
  refine Ev.aload_n (q := 0) ⟨dX3_changedFields_0, rfl⟩ rfl rfl ?_
  refine Ev.getRk (C2 := 0) (r := (3 * v0 + 1)) fX3_10 rfl (by decide) (by decide) ⟨dX3_changedFields_1, rfl⟩ ?_
  refine Ev.iload_n (q := 1) ⟨dX3_changedFields_4, rfl⟩ rfl rfl ?_
  obtain ⟨r2, hv1, h⟩ := bnd_s h
  refine Ev.callV1 (mc1 := 0) (ms1 := 0) (v := vi r2) (h1 := hq D x) vX3_41 (c_X0_has Θ D z _ _ _ _ hv1) rfl rfl (by decide) rfl ⟨by decide, by decide, Nat.le_of_eq (Nat.zero_add _), Nat.le_of_eq (Nat.zero_add _), Nat.le_of_ble_eq_true rfl⟩ ⟨dX3_changedFields_5, rfl⟩ ?_
  clear hv1
  refine Ev.if_eq jX3_changedFields_8 (fun hc => ?_) (fun hc => ?_)
  · replace h := (if_pos hc).symm.trans h; clear hc
    refine Ev.iconst ⟨dX3_changedFields_37, rfl⟩ (inRd rfl) ?_
    obtain rfl := Option.some.inj h
    exact Ev.ireturn (ty := .int) ⟨dX3_changedFields_38, rfl⟩ rfl rfl ⟨rfl, rfl⟩
  · replace h := (if_neg hc).symm.trans h; clear hc
    refine Ev.aload_n (q := 0) ⟨dX3_changedFields_11, rfl⟩ rfl rfl ?_
    refine Ev.getRk (C2 := 0) (r := (3 * v0 + 2)) fX3_16 rfl (by decide) (by decide) ⟨dX3_changedFields_12, rfl⟩ ?_
    refine Ev.iload_n (q := 1) ⟨dX3_changedFields_15, rfl⟩ rfl rfl ?_
    obtain ⟨r4, hv3, h⟩ := bnd_s h
    refine Ev.callV1 (mc1 := 0) (ms1 := 0) (v := vi r4) (h1 := hq D x) vX3_41 (c_X0_has Θ D z _ _ _ _ hv3) rfl rfl (by decide) rfl ⟨by decide, by decide, Nat.le_of_eq (Nat.zero_add _), Nat.le_of_eq (Nat.zero_add _), Nat.le_of_ble_eq_true rfl⟩ ⟨dX3_changedFields_16, rfl⟩ ?_
    clear hv3
    refine Ev.if_eq jX3_changedFields_19 (fun hc => ?_) (fun hc => ?_)
    · replace h := (if_pos hc).symm.trans h; clear hc
      refine Ev.iconst ⟨dX3_changedFields_37, rfl⟩ (inRd rfl) ?_
      obtain rfl := Option.some.inj h
      exact Ev.ireturn (ty := .int) ⟨dX3_changedFields_38, rfl⟩ rfl rfl ⟨rfl, rfl⟩
    · replace h := (if_neg hc).symm.trans h; clear hc
      refine Ev.aload_n (q := 0) ⟨dX3_changedFields_22, rfl⟩ rfl rfl ?_
      refine Ev.getRk (C2 := 0) (r := (3 * v0 + 2)) fX3_16 rfl (by decide) (by decide) ⟨dX3_changedFields_23, rfl⟩ ?_
      refine Ev.aload_n (q := 0) ⟨dX3_changedFields_26, rfl⟩ rfl rfl ?_
      refine Ev.getRk (C2 := 0) (r := (3 * v0 + 1)) fX3_10 rfl (by decide) (by decide) ⟨dX3_changedFields_27, rfl⟩ ?_
      refine Ev.iload_n (q := 1) ⟨dX3_changedFields_30, rfl⟩ rfl rfl ?_
      obtain ⟨r6, hv5, h⟩ := bnd_s h
      refine Ev.callV1 (mc1 := 0) (ms1 := 0) (v := vi r6) (h1 := hq D x) vX3_45 (c_X0_countDifferent Θ D z _ _ _ _ _ hv5) rfl rfl (by decide) rfl ⟨by decide, by decide, Nat.le_of_eq (Nat.zero_add _), Nat.le_of_eq (Nat.zero_add _), Nat.le_of_ble_eq_true rfl⟩ ⟨dX3_changedFields_31, rfl⟩ ?_
      clear hv5
      refine Ev.goto jX3_changedFields_34 ?_
      obtain rfl := Option.some.inj h
      exact Ev.ireturn (ty := .int) ⟨dX3_changedFields_38, rfl⟩ rfl rfl ⟨rfl, rfl⟩

def F_X4_reset (z : Nat) (v0 : Nat) (x : Mm) : Option (Mm) := (some (wI x 4 v0 0 ((1 : Int)))).bind fun x1 => (some (wL x1 4 v0 1 ((0#64)))).bind fun x2 => ckI (0 : Int) 60 <| (some (wI x2 21 v0 ((0 : Int)).toNat ((-1 : Int)))).bind fun x4 => ckI (0 : Int) 60 <| (some (wI x4 22 v0 ((0 : Int)).toNat ((-1 : Int)))).bind fun x6 => (F_X7_bit z ((0 : Int)) x6).bind fun r8 => ckI (0 : Int) 60 <| (some (wL x6 30 v0 ((0 : Int)).toNat (r8))).bind fun x10 => some (x10)
set_option maxHeartbeats 4000000 in
set_option maxRecDepth 20000 in
theorem c_X4_reset (Θ : GC) (D : Nat → Nat → Prop) (z : Nat) (v0 : Nat) (x : Mm) (y) (h : F_X4_reset z v0 x = some y) : Cal Θ mX4_reset 1 20 0 0 [vr 4 (v0 + 1)] (hq D x) (RetN (hq D y)) := by
  refine Cal.of (by decide +kernel) rfl rfl (Nat.le_of_ble_eq_true rfl) ?_
  show Ev Θ mX4_reset 1 20 0 0 0 [(0, vr 4 (v0 + 1))] [] (hq D x) (RetN (hq D y))
  unfold F_X4_reset at h
  refine Ev.aload_n (q := 0) ⟨dX4_reset_0, rfl⟩ rfl rfl ?_
  refine Ev.iconst ⟨dX4_reset_1, rfl⟩ (inRd rfl) ?_
  obtain ⟨x1, ex, h⟩ := bnd_s h
  refine Ev.putI fX4_22 ⟨dX4_reset_2, rfl⟩ ?_
  refine Ev.cast ?_ rfl rfl (hqI ex)
  clear ex
  refine Ev.aload_n (q := 0) ⟨dX4_reset_5, rfl⟩ rfl rfl ?_
  refine Ev.lconst (b := BitVec.ofInt 64 0) ⟨dX4_reset_6, rfl⟩ (by decide) ?_
  obtain ⟨x2, ex, h⟩ := bnd_s h
  refine Ev.putL fX4_26 ⟨dX4_reset_7, rfl⟩ ?_
  refine Ev.cast ?_ rfl rfl (hqL ex)
  clear ex
  refine Ev.aload_n (q := 0) ⟨dX4_reset_10, rfl⟩ rfl rfl ?_
  refine Ev.getRk (C2 := 21) (r := v0) fX4_9 rfl (by decide) (by decide) ⟨dX4_reset_11, rfl⟩ ?_
  refine Ev.iconst ⟨dX4_reset_14, rfl⟩ (inRd rfl) ?_
  refine Ev.iconst ⟨dX4_reset_15, rfl⟩ (inRd rfl) ?_
  obtain ⟨c3, h⟩ := ckI_s h
  obtain ⟨x4, ex, h⟩ := bnd_s h
  refine Ev.iastore (by decide) c3.1 c3.2 ⟨dX4_reset_16, rfl⟩ ?_
  refine Ev.cast ?_ rfl rfl (hqI ex)
  clear ex
  refine Ev.aload_n (q := 0) ⟨dX4_reset_17, rfl⟩ rfl rfl ?_
  refine Ev.getRk (C2 := 22) (r := v0) fX4_15 rfl (by decide) (by decide) ⟨dX4_reset_18, rfl⟩ ?_
  refine Ev.iconst ⟨dX4_reset_21, rfl⟩ (inRd rfl) ?_
  refine Ev.iconst ⟨dX4_reset_22, rfl⟩ (inRd rfl) ?_
  obtain ⟨c5, h⟩ := ckI_s h
  obtain ⟨x6, ex, h⟩ := bnd_s h
  refine Ev.iastore (by decide) c5.1 c5.2 ⟨dX4_reset_23, rfl⟩ ?_
  refine Ev.cast ?_ rfl rfl (hqI ex)
  clear ex
  refine Ev.aload_n (q := 0) ⟨dX4_reset_24, rfl⟩ rfl rfl ?_
  refine Ev.getRk (C2 := 30) (r := v0) fX4_18 rfl (by decide) (by decide) ⟨dX4_reset_25, rfl⟩ ?_
  refine Ev.iconst ⟨dX4_reset_28, rfl⟩ (inRd rfl) ?_
  refine Ev.iconst ⟨dX4_reset_29, rfl⟩ (inRd rfl) ?_
  obtain ⟨r8, hv7, h⟩ := bnd_s h
  refine Ev.callN1 (mc1 := 0) (ms1 := 0) (v := vl r8) (h1 := hq D x6) nX4_30 (c_X7_bit Θ D z _ _ _ hv7) rfl rfl ⟨by decide, by decide, Nat.le_of_eq (Nat.zero_add _), Nat.le_of_eq (Nat.zero_add _), Nat.le_of_ble_eq_true rfl⟩ ⟨dX4_reset_30, rfl⟩ ?_
  clear hv7
  obtain ⟨c9, h⟩ := ckI_s h
  obtain ⟨x10, ex, h⟩ := bnd_s h
  refine Ev.lastore (by decide) c9.1 c9.2 ⟨dX4_reset_33, rfl⟩ ?_
  refine Ev.cast ?_ rfl rfl (hqL ex)
  clear ex
  obtain rfl := Option.some.inj h
  exact Ev.ret ⟨dX4_reset_34, rfl⟩ rfl ⟨rfl, rfl⟩

def F_X4_addNext (z : Nat) (v0 : Nat) (v1 : Int) (v2 : Int) (v3 : Int) (x : Mm) : Option (Int × Mm) := ckI (x.1 4 v0 0) 60 <| (some (wI x 21 v0 ((x.1 4 v0 0)).toNat (v1))).bind fun x2 => ckI (x.1 4 v0 0) 60 <| (some (wI x2 22 v0 ((x.1 4 v0 0)).toNat (v2))).bind fun x4 => ckI v1 60 <| (F_X7_bit z ((x.1 4 v0 0)) x4).bind fun r7 => ckI (x.1 4 v0 0) 60 <| (some (wL x4 30 v0 ((x.1 4 v0 0)).toNat (((x4.2 30 v0 (v1).toNat) ||| r7)))).bind fun x9 => if v3 = 0 then (ckR (((x9.1 4 v0 0) + (1 : Int))) <| (some (wI x9 4 v0 0 (((x9.1 4 v0 0) + (1 : Int))))).bind fun x11 => some (((x.1 4 v0 0), x11))) else ((F_X7_bit z ((x.1 4 v0 0)) x9).bind fun r13 => (some (wL x9 4 v0 1 (((x9.2 4 v0 1) ||| r13)))).bind fun x14 => ckR (((x14.1 4 v0 0) + (1 : Int))) <| (some (wI x14 4 v0 0 (((x14.1 4 v0 0) + (1 : Int))))).bind fun x16 => some (((x.1 4 v0 0), x16)))
set_option maxHeartbeats 4000000 in
set_option maxRecDepth 20000 in
theorem c_X4_addNext (Θ : GC) (D : Nat → Nat → Prop) (z : Nat) (v0 : Nat) (v1 : Int) (v2 : Int) (v3 : Int) (x : Mm) (y) (h : F_X4_addNext z v0 v1 v2 v3 x = some y) : Cal Θ mX4_addNext 1 20 0 0 [vr 4 (v0 + 1), vi (v1), vi (v2), vi (v3)] (hq D x) (Ret (vi y.1) (hq D y.2)) := by
  refine Cal.of (by decide +kernel) rfl rfl (Nat.le_of_ble_eq_true rfl) ?_
  show Ev Θ mX4_addNext 1 20 0 0 0 [(0, vr 4 (v0 + 1)), (1, vi (v1)), (2, vi (v2)), (3, vi (v3))] [] (hq D x) (Ret (vi y.1) (hq D y.2))
  unfold F_X4_addNext at h
  refine Ev.aload_n (q := 0) ⟨dX4_addNext_0, rfl⟩ rfl rfl ?_
  refine Ev.getI fX4_22 (Or.inl rfl) ⟨dX4_addNext_1, rfl⟩ ?_
  refine Ev.istore (i := 4) (ls' := [(0, _), (1, _), (2, _), (3, _), (4, _)]) ⟨dX4_addNext_4, rfl⟩ (by decide) rfl ?_
  refine Ev.aload_n (q := 0) ⟨dX4_addNext_6, rfl⟩ rfl rfl ?_
  refine Ev.getRk (C2 := 21) (r := v0) fX4_9 rfl (by decide) (by decide) ⟨dX4_addNext_7, rfl⟩ ?_
  refine Ev.iload (q := 4) ⟨dX4_addNext_10, rfl⟩ rfl ?_
  refine Ev.iload_n (q := 1) ⟨dX4_addNext_12, rfl⟩ rfl rfl ?_
  obtain ⟨c1, h⟩ := ckI_s h
  obtain ⟨x2, ex, h⟩ := bnd_s h
  refine Ev.iastore (by decide) c1.1 c1.2 ⟨dX4_addNext_13, rfl⟩ ?_
  refine Ev.cast ?_ rfl rfl (hqI ex)
  clear ex
  refine Ev.aload_n (q := 0) ⟨dX4_addNext_14, rfl⟩ rfl rfl ?_
  refine Ev.getRk (C2 := 22) (r := v0) fX4_15 rfl (by decide) (by decide) ⟨dX4_addNext_15, rfl⟩ ?_
  refine Ev.iload (q := 4) ⟨dX4_addNext_18, rfl⟩ rfl ?_
  refine Ev.iload_n (q := 2) ⟨dX4_addNext_20, rfl⟩ rfl rfl ?_
  obtain ⟨c3, h⟩ := ckI_s h
  obtain ⟨x4, ex, h⟩ := bnd_s h
  refine Ev.iastore (by decide) c3.1 c3.2 ⟨dX4_addNext_21, rfl⟩ ?_
  refine Ev.cast ?_ rfl rfl (hqI ex)
  clear ex
  refine Ev.aload_n (q := 0) ⟨dX4_addNext_22, rfl⟩ rfl rfl ?_
  refine Ev.getRk (C2 := 30) (r := v0) fX4_18 rfl (by decide) (by decide) ⟨dX4_addNext_23, rfl⟩ ?_
  refine Ev.iload (q := 4) ⟨dX4_addNext_26, rfl⟩ rfl ?_
  refine Ev.aload_n (q := 0) ⟨dX4_addNext_28, rfl⟩ rfl rfl ?_
  refine Ev.getRk (C2 := 30) (r := v0) fX4_18 rfl (by decide) (by decide) ⟨dX4_addNext_29, rfl⟩ ?_
  refine Ev.iload_n (q := 1) ⟨dX4_addNext_32, rfl⟩ rfl rfl ?_
  obtain ⟨c5, h⟩ := ckI_s h
  refine Ev.laload (by decide) c5.1 c5.2 ⟨dX4_addNext_33, rfl⟩ ?_
  refine Ev.iload (q := 4) ⟨dX4_addNext_34, rfl⟩ rfl ?_
  obtain ⟨r7, hv6, h⟩ := bnd_s h
  refine Ev.callN1 (mc1 := 0) (ms1 := 0) (v := vl r7) (h1 := hq D x4) nX4_30 (c_X7_bit Θ D z _ _ _ hv6) rfl rfl ⟨by decide, by decide, Nat.le_of_eq (Nat.zero_add _), Nat.le_of_eq (Nat.zero_add _), Nat.le_of_ble_eq_true rfl⟩ ⟨dX4_addNext_36, rfl⟩ ?_
  clear hv6
  refine Ev.lor ⟨dX4_addNext_39, rfl⟩ ?_
  obtain ⟨c8, h⟩ := ckI_s h
  obtain ⟨x9, ex, h⟩ := bnd_s h
  refine Ev.lastore (by decide) c8.1 c8.2 ⟨dX4_addNext_40, rfl⟩ ?_
  refine Ev.cast ?_ rfl rfl (hqL ex)
  clear ex
  refine Ev.iload_n (q := 3) ⟨dX4_addNext_41, rfl⟩ rfl rfl ?_
  refine Ev.if_eq jX4_addNext_42 (fun hc => ?_) (fun hc => ?_)
  · replace h := (if_pos hc).symm.trans h; clear hc
    refine Ev.aload_n (q := 0) ⟨dX4_addNext_59, rfl⟩ rfl rfl ?_
    refine Ev.dup ⟨dX4_addNext_60, rfl⟩ rfl ?_
    refine Ev.getI fX4_22 (Or.inl rfl) ⟨dX4_addNext_61, rfl⟩ ?_
    refine Ev.iconst ⟨dX4_addNext_64, rfl⟩ (inRd rfl) ?_
    obtain ⟨c10, h⟩ := ckR_s h
    refine Ev.iadd ⟨dX4_addNext_65, rfl⟩ c10 ?_
    obtain ⟨x11, ex, h⟩ := bnd_s h
    refine Ev.putI fX4_22 ⟨dX4_addNext_66, rfl⟩ ?_
    refine Ev.cast ?_ rfl rfl (hqI ex)
    clear ex
    refine Ev.iload (q := 4) ⟨dX4_addNext_69, rfl⟩ rfl ?_
    obtain rfl := Option.some.inj h
    exact Ev.ireturn (ty := .int) ⟨dX4_addNext_71, rfl⟩ rfl rfl ⟨rfl, rfl⟩
  · replace h := (if_neg hc).symm.trans h; clear hc
    refine Ev.aload_n (q := 0) ⟨dX4_addNext_45, rfl⟩ rfl rfl ?_
    refine Ev.dup ⟨dX4_addNext_46, rfl⟩ rfl ?_
    refine Ev.getL fX4_26 ⟨dX4_addNext_47, rfl⟩ ?_
    refine Ev.iload (q := 4) ⟨dX4_addNext_50, rfl⟩ rfl ?_
    obtain ⟨r13, hv12, h⟩ := bnd_s h
    refine Ev.callN1 (mc1 := 0) (ms1 := 0) (v := vl r13) (h1 := hq D x9) nX4_30 (c_X7_bit Θ D z _ _ _ hv12) rfl rfl ⟨by decide, by decide, Nat.le_of_eq (Nat.zero_add _), Nat.le_of_eq (Nat.zero_add _), Nat.le_of_ble_eq_true rfl⟩ ⟨dX4_addNext_52, rfl⟩ ?_
    clear hv12
    refine Ev.lor ⟨dX4_addNext_55, rfl⟩ ?_
    obtain ⟨x14, ex, h⟩ := bnd_s h
    refine Ev.putL fX4_26 ⟨dX4_addNext_56, rfl⟩ ?_
    refine Ev.cast ?_ rfl rfl (hqL ex)
    clear ex
    refine Ev.aload_n (q := 0) ⟨dX4_addNext_59, rfl⟩ rfl rfl ?_
    refine Ev.dup ⟨dX4_addNext_60, rfl⟩ rfl ?_
    refine Ev.getI fX4_22 (Or.inl rfl) ⟨dX4_addNext_61, rfl⟩ ?_
    refine Ev.iconst ⟨dX4_addNext_64, rfl⟩ (inRd rfl) ?_
    obtain ⟨c15, h⟩ := ckR_s h
    refine Ev.iadd ⟨dX4_addNext_65, rfl⟩ c15 ?_
    obtain ⟨x16, ex, h⟩ := bnd_s h
    refine Ev.putI fX4_22 ⟨dX4_addNext_66, rfl⟩ ?_
    refine Ev.cast ?_ rfl rfl (hqI ex)
    clear ex
    refine Ev.iload (q := 4) ⟨dX4_addNext_69, rfl⟩ rfl ?_
    obtain rfl := Option.some.inj h
    exact Ev.ireturn (ty := .int) ⟨dX4_addNext_71, rfl⟩ rfl rfl ⟨rfl, rfl⟩

def F_X4_touch (z : Nat) (v0 : Nat) (v1 : Int) (v2 : Int) (x : Mm) : Option (Int) := ckI v1 60 <| (F_X7_contains z ((x.2 30 v0 (v1).toNat)) (v2) x).bind fun r3 => if r3 = 0 then (ckI v2 60 <| (F_X7_contains z ((x.2 30 v0 (v2).toNat)) (v1) x).bind fun r6 => if r6 = 0 then (some ((0 : Int))) else (some ((1 : Int)))) else (some ((1 : Int)))
set_option maxHeartbeats 4000000 in
set_option maxRecDepth 20000 in
theorem c_X4_touch (Θ : GC) (D : Nat → Nat → Prop) (z : Nat) (v0 : Nat) (v1 : Int) (v2 : Int) (x : Mm) (y) (h : F_X4_touch z v0 v1 v2 x = some y) : Cal Θ mX4_touch 1 22 0 0 [vr 4 (v0 + 1), vi (v1), vi (v2)] (hq D x) (Ret (vi y) (hq D x)) := by
  refine Cal.of (by decide +kernel) rfl rfl (Nat.le_of_ble_eq_true rfl) ?_
  show Ev Θ mX4_touch 1 22 0 0 0 [(0, vr 4 (v0 + 1)), (1, vi (v1)), (2, vi (v2))] [] (hq D x) (Ret (vi y) (hq D x))
  unfold F_X4_touch at h
  refine Ev.aload_n (q := 0) ⟨dX4_touch_0, rfl⟩ rfl rfl ?_
  refine Ev.getRk (C2 := 30) (r := v0) fX4_18 rfl (by decide) (by decide) ⟨dX4_touch_1, rfl⟩ ?_
  refine Ev.iload_n (q := 1) ⟨dX4_touch_4, rfl⟩ rfl rfl ?_
  obtain ⟨c1, h⟩ := ckI_s h
  refine Ev.laload (by decide) c1.1 c1.2 ⟨dX4_touch_5, rfl⟩ ?_
  refine Ev.iload_n (q := 2) ⟨dX4_touch_6, rfl⟩ rfl rfl ?_
  obtain ⟨r3, hv2, h⟩ := bnd_s h
  refine Ev.callN1 (mc1 := 0) (ms1 := 0) (v := vi r3) (h1 := hq D x) nX4_40 (c_X7_contains Θ D z _ _ _ _ hv2) rfl rfl ⟨by decide, by decide, Nat.le_of_eq (Nat.zero_add _), Nat.le_of_eq (Nat.zero_add _), Nat.le_of_ble_eq_true rfl⟩ ⟨dX4_touch_7, rfl⟩ ?_
  clear hv2
  refine Ev.if_ne jX4_touch_10 (fun hc => ?_) (fun hc => ?_)
  · replace h := (if_neg hc).symm.trans h; clear hc
    refine Ev.iconst ⟨dX4_touch_26, rfl⟩ (inRd rfl) ?_
    refine Ev.goto jX4_touch_27 ?_
    obtain rfl := Option.some.inj h
    exact Ev.ireturn (ty := .boolean) ⟨dX4_touch_31, rfl⟩ rfl rfl ⟨rfl, rfl⟩
  · replace h := (if_pos hc).symm.trans h; clear hc
    refine Ev.aload_n (q := 0) ⟨dX4_touch_13, rfl⟩ rfl rfl ?_
    refine Ev.getRk (C2 := 30) (r := v0) fX4_18 rfl (by decide) (by decide) ⟨dX4_touch_14, rfl⟩ ?_
    refine Ev.iload_n (q := 2) ⟨dX4_touch_17, rfl⟩ rfl rfl ?_
    obtain ⟨c4, h⟩ := ckI_s h
    refine Ev.laload (by decide) c4.1 c4.2 ⟨dX4_touch_18, rfl⟩ ?_
    refine Ev.iload_n (q := 1) ⟨dX4_touch_19, rfl⟩ rfl rfl ?_
    obtain ⟨r6, hv5, h⟩ := bnd_s h
    refine Ev.callN1 (mc1 := 0) (ms1 := 0) (v := vi r6) (h1 := hq D x) nX4_40 (c_X7_contains Θ D z _ _ _ _ hv5) rfl rfl ⟨by decide, by decide, Nat.le_of_eq (Nat.zero_add _), Nat.le_of_eq (Nat.zero_add _), Nat.le_of_ble_eq_true rfl⟩ ⟨dX4_touch_20, rfl⟩ ?_
    clear hv5
    refine Ev.if_eq jX4_touch_23 (fun hc => ?_) (fun hc => ?_)
    · replace h := (if_pos hc).symm.trans h; clear hc
      refine Ev.iconst ⟨dX4_touch_30, rfl⟩ (inRd rfl) ?_
      obtain rfl := Option.some.inj h
      exact Ev.ireturn (ty := .boolean) ⟨dX4_touch_31, rfl⟩ rfl rfl ⟨rfl, rfl⟩
    · replace h := (if_neg hc).symm.trans h; clear hc
      refine Ev.iconst ⟨dX4_touch_26, rfl⟩ (inRd rfl) ?_
      refine Ev.goto jX4_touch_27 ?_
      obtain rfl := Option.some.inj h
      exact Ev.ireturn (ty := .boolean) ⟨dX4_touch_31, rfl⟩ rfl rfl ⟨rfl, rfl⟩

def F_X4_atOrBelow_5 (z : Nat) (v0 : Nat) (v1 : Int) (x : Mm) : Nat → BitVec 64 → Int → Option (BitVec 64)
  | 0, _, _ => none
  | k + 1, v2, v4 => if (x.1 4 v0 0) ≤ v4 then (some (v2)) else (ckI v4 60 <| (F_X7_contains z ((x.2 30 v0 (v4).toNat)) (v1) x).bind fun r3 => if r3 = 0 then (ckR ((v4 + 1)) <| F_X4_atOrBelow_5 z v0 v1 x k (v2) ((v4 + 1))) else ((F_X7_bit z (v4) x).bind fun r6 => ckR ((v4 + 1)) <| F_X4_atOrBelow_5 z v0 v1 x k ((v2 ||| r6)) ((v4 + 1))))
set_option maxHeartbeats 4000000 in
set_option maxRecDepth 20000 in
theorem e_X4_atOrBelow_5 (Θ : GC) (D : Nat → Nat → Prop) (z : Nat) (v0 : Nat) (v1 : Int) (x : Mm) (Q : Ro → Hp → Prop) (mc ms : Nat) : ∀ (k : Nat) (v2 : BitVec 64) (v4 : Int) (y), F_X4_atOrBelow_5 z v0 v1 x k v2 v4 = some y → (Ev Θ mX4_atOrBelow 1 22 mc ms 42 [(0, vr 4 (v0 + 1)), (1, vi (v1)), (2, vl (y))] [] (hq D x) Q) → Ev Θ mX4_atOrBelow 1 22 mc ms 5 [(0, vr 4 (v0 + 1)), (1, vi (v1)), (2, vl (v2)), (4, vi (v4))] [] (hq D x) Q := by
  intro k
  induction k with
  | zero => intro v2 v4 y h; exact absurd h (by unfold F_X4_atOrBelow_5; exact nofun)
  | succ k ih =>
    intro v2 v4 y h k1
    unfold F_X4_atOrBelow_5 at h
    refine Ev.iload (q := 3) ⟨dX4_atOrBelow_5, rfl⟩ rfl ?_
    refine Ev.aload_n (q := 0) ⟨dX4_atOrBelow_7, rfl⟩ rfl rfl ?_
    refine Ev.getI fX4_22 (Or.inl rfl) ⟨dX4_atOrBelow_8, rfl⟩ ?_
    refine Ev.icmp_ge jX4_atOrBelow_11 (fun hc => ?_) (fun hc => ?_)
    · replace h := (if_pos hc).symm.trans h; clear hc
      refine Ev.keep [0, 1, 2] rfl ?_
      obtain rfl := Option.some.inj h
      exact k1
    · replace h := (if_neg hc).symm.trans h; clear hc
      refine Ev.aload_n (q := 0) ⟨dX4_atOrBelow_14, rfl⟩ rfl rfl ?_
      refine Ev.getRk (C2 := 30) (r := v0) fX4_18 rfl (by decide) (by decide) ⟨dX4_atOrBelow_15, rfl⟩ ?_
      refine Ev.iload (q := 3) ⟨dX4_atOrBelow_18, rfl⟩ rfl ?_
      obtain ⟨c1, h⟩ := ckI_s h
      refine Ev.laload (by decide) c1.1 c1.2 ⟨dX4_atOrBelow_20, rfl⟩ ?_
      refine Ev.iload_n (q := 1) ⟨dX4_atOrBelow_21, rfl⟩ rfl rfl ?_
      obtain ⟨r3, hv2, h⟩ := bnd_s h
      refine Ev.callN1 (mc1 := mc) (ms1 := ms) (v := vi r3) (h1 := hq D x) nX4_40 (c_X7_contains Θ D z _ _ _ _ hv2) rfl rfl ⟨by decide, by decide, Nat.le_of_eq (Nat.zero_add _), Nat.le_of_eq (Nat.zero_add _), Nat.le_of_ble_eq_true rfl⟩ ⟨dX4_atOrBelow_22, rfl⟩ ?_
      clear hv2
      refine Ev.if_eq jX4_atOrBelow_25 (fun hc => ?_) (fun hc => ?_)
      · replace h := (if_pos hc).symm.trans h; clear hc
        obtain ⟨c4, h⟩ := ckR_s h
        refine Ev.iinc (q := 3) (ls' := [(0, _), (1, _), (2, _), (4, _)]) ⟨dX4_atOrBelow_36, rfl⟩ rfl (by decide) c4 rfl ?_
        refine Ev.goto jX4_atOrBelow_39 ?_
        exact ih _ _ _ h k1
      · replace h := (if_neg hc).symm.trans h; clear hc
        refine Ev.lload_n (q := 2) ⟨dX4_atOrBelow_28, rfl⟩ rfl rfl ?_
        refine Ev.iload (q := 3) ⟨dX4_atOrBelow_29, rfl⟩ rfl ?_
        obtain ⟨r6, hv5, h⟩ := bnd_s h
        refine Ev.callN1 (mc1 := mc) (ms1 := ms) (v := vl r6) (h1 := hq D x) nX4_30 (c_X7_bit Θ D z _ _ _ hv5) rfl rfl ⟨by decide, by decide, Nat.le_of_eq (Nat.zero_add _), Nat.le_of_eq (Nat.zero_add _), Nat.le_of_ble_eq_true rfl⟩ ⟨dX4_atOrBelow_31, rfl⟩ ?_
        clear hv5
        refine Ev.lor ⟨dX4_atOrBelow_34, rfl⟩ ?_
        refine Ev.lstore_n (i := 2) (ls' := [(0, _), (1, _), (2, _), (4, _)]) ⟨dX4_atOrBelow_35, rfl⟩ rfl (by decide) rfl ?_
        obtain ⟨c7, h⟩ := ckR_s h
        refine Ev.iinc (q := 3) (ls' := [(0, _), (1, _), (2, _), (4, _)]) ⟨dX4_atOrBelow_36, rfl⟩ rfl (by decide) c7 rfl ?_
        refine Ev.goto jX4_atOrBelow_39 ?_
        exact ih _ _ _ h k1
def F_X4_atOrBelow (z : Nat) (v0 : Nat) (v1 : Int) (x : Mm) : Option (BitVec 64) := (F_X4_atOrBelow_5 z (v0) (v1) x z ((0#64)) ((0 : Int))).bind fun s8 => some (s8)
set_option maxHeartbeats 4000000 in
set_option maxRecDepth 20000 in
theorem c_X4_atOrBelow (Θ : GC) (D : Nat → Nat → Prop) (z : Nat) (v0 : Nat) (v1 : Int) (x : Mm) (y) (h : F_X4_atOrBelow z v0 v1 x = some y) : Cal Θ mX4_atOrBelow 1 22 0 0 [vr 4 (v0 + 1), vi (v1)] (hq D x) (Ret (vl y) (hq D x)) := by
  refine Cal.of (by decide +kernel) rfl rfl (Nat.le_of_ble_eq_true rfl) ?_
  show Ev Θ mX4_atOrBelow 1 22 0 0 0 [(0, vr 4 (v0 + 1)), (1, vi (v1))] [] (hq D x) (Ret (vl y) (hq D x))
  unfold F_X4_atOrBelow at h
  refine Ev.lconst (b := BitVec.ofInt 64 0) ⟨dX4_atOrBelow_0, rfl⟩ (by decide) ?_
  refine Ev.lstore_n (i := 2) (ls' := [(0, _), (1, _), (2, _)]) ⟨dX4_atOrBelow_1, rfl⟩ rfl (by decide) rfl ?_
  refine Ev.iconst ⟨dX4_atOrBelow_2, rfl⟩ (inRd rfl) ?_
  refine Ev.istore (i := 4) (ls' := [(0, _), (1, _), (2, _), (4, _)]) ⟨dX4_atOrBelow_3, rfl⟩ (by decide) rfl ?_
  obtain ⟨s8, hl, h⟩ := bnd_s h
  refine e_X4_atOrBelow_5 Θ D z _ _ _ _ _ _ _ _ _ _ hl ?_
  clear hl
  refine Ev.lload_n (q := 2) ⟨dX4_atOrBelow_42, rfl⟩ rfl rfl ?_
  obtain rfl := Option.some.inj h
  exact Ev.lreturn ⟨dX4_atOrBelow_43, rfl⟩ rfl ⟨rfl, rfl⟩

def F_X4_countBelow (z : Nat) (v0 : Nat) (v1 : BitVec 64) (v3 : Int) (x : Mm) : Option (Int) := (F_X4_atOrBelow z (v0) (v3) x).bind fun r2 => some ((pcnt (v1 &&& r2)))
set_option maxHeartbeats 4000000 in
set_option maxRecDepth 20000 in
theorem c_X4_countBelow (Θ : GC) (D : Nat → Nat → Prop) (z : Nat) (v0 : Nat) (v1 : BitVec 64) (v3 : Int) (x : Mm) (y) (h : F_X4_countBelow z v0 v1 v3 x = some y) : Cal Θ mX4_countBelow 2 46 0 0 [vr 4 (v0 + 1), vl (v1), vi (v3)] (hq D x) (Ret (vi y) (hq D x)) := by
  refine Cal.of (by decide +kernel) rfl rfl (Nat.le_of_ble_eq_true rfl) ?_
  show Ev Θ mX4_countBelow 2 46 0 0 0 [(0, vr 4 (v0 + 1)), (1, vl (v1)), (3, vi (v3))] [] (hq D x) (Ret (vi y) (hq D x))
  unfold F_X4_countBelow at h
  refine Ev.lload_n (q := 1) ⟨dX4_countBelow_0, rfl⟩ rfl rfl ?_
  refine Ev.aload_n (q := 0) ⟨dX4_countBelow_1, rfl⟩ rfl rfl ?_
  refine Ev.iload_n (q := 2) ⟨dX4_countBelow_2, rfl⟩ rfl rfl ?_
  obtain ⟨r2, hv1, h⟩ := bnd_s h
  refine Ev.callV1 (mc1 := 0) (ms1 := 0) (v := vl r2) (h1 := hq D x) vX4_44 (c_X4_atOrBelow Θ D z _ _ _ _ hv1) rfl rfl (by decide) rfl ⟨by decide, by decide, Nat.le_of_eq (Nat.zero_add _), Nat.le_of_eq (Nat.zero_add _), Nat.le_of_ble_eq_true rfl⟩ ⟨dX4_countBelow_3, rfl⟩ ?_
  clear hv1
  refine Ev.land ⟨dX4_countBelow_6, rfl⟩ ?_
  refine Ev.callS1 (mc1 := 0) (ms1 := 0) (v := vi (pcnt (v1 &&& r2))) (h1 := hq D x) sX4_47 (c_J13_bitCount_95d88 Θ _ _) rfl rfl ⟨by decide, by decide, Nat.le_of_eq (Nat.zero_add _), Nat.le_of_eq (Nat.zero_add _), Nat.le_of_ble_eq_true rfl⟩ ⟨dX4_countBelow_7, rfl⟩ ?_
  obtain rfl := Option.some.inj h
  exact Ev.ireturn (ty := .int) ⟨dX4_countBelow_10, rfl⟩ rfl rfl ⟨rfl, rfl⟩

def F_X4_countChildren_6 (z : Nat) (v0 : Nat) (v1 : BitVec 64) (v3 : Int) (x : Mm) : Nat → Int → Int → Option (Int)
  | 0, _, _ => none
  | k + 1, v4, v5 => if (x.1 4 v0 0) ≤ v5 then (some (v4)) else (ckI v5 60 <| if (x.1 21 v0 (v5).toNat) = v3 then ((F_X7_contains z (v1) (v5) x).bind fun r4 => if r4 = 0 then (ckR ((v5 + 1)) <| F_X4_countChildren_6 z v0 v1 v3 x k (v4) ((v5 + 1))) else (ckR ((v4 + 1)) <| ckR ((v5 + 1)) <| F_X4_countChildren_6 z v0 v1 v3 x k ((v4 + 1)) ((v5 + 1)))) else (ckR ((v5 + 1)) <| F_X4_countChildren_6 z v0 v1 v3 x k (v4) ((v5 + 1))))
set_option maxHeartbeats 4000000 in
set_option maxRecDepth 20000 in
theorem e_X4_countChildren_6 (Θ : GC) (D : Nat → Nat → Prop) (z : Nat) (v0 : Nat) (v1 : BitVec 64) (v3 : Int) (x : Mm) (Q : Ro → Hp → Prop) (mc ms : Nat) : ∀ (k : Nat) (v4 : Int) (v5 : Int) (y), F_X4_countChildren_6 z v0 v1 v3 x k v4 v5 = some y → (Ev Θ mX4_countChildren 1 22 mc ms 44 [(0, vr 4 (v0 + 1)), (1, vl (v1)), (3, vi (v3)), (4, vi (y))] [] (hq D x) Q) → Ev Θ mX4_countChildren 1 22 mc ms 6 [(0, vr 4 (v0 + 1)), (1, vl (v1)), (3, vi (v3)), (4, vi (v4)), (5, vi (v5))] [] (hq D x) Q := by
  intro k
  induction k with
  | zero => intro v4 v5 y h; exact absurd h (by unfold F_X4_countChildren_6; exact nofun)
  | succ k ih =>
    intro v4 v5 y h k1
    unfold F_X4_countChildren_6 at h
    refine Ev.iload (q := 4) ⟨dX4_countChildren_6, rfl⟩ rfl ?_
    refine Ev.aload_n (q := 0) ⟨dX4_countChildren_8, rfl⟩ rfl rfl ?_
    refine Ev.getI fX4_22 (Or.inl rfl) ⟨dX4_countChildren_9, rfl⟩ ?_
    refine Ev.icmp_ge jX4_countChildren_12 (fun hc => ?_) (fun hc => ?_)
    · replace h := (if_pos hc).symm.trans h; clear hc
      refine Ev.keep [0, 1, 2, 3] rfl ?_
      obtain rfl := Option.some.inj h
      exact k1
    · replace h := (if_neg hc).symm.trans h; clear hc
      refine Ev.aload_n (q := 0) ⟨dX4_countChildren_15, rfl⟩ rfl rfl ?_
      refine Ev.getRk (C2 := 21) (r := v0) fX4_9 rfl (by decide) (by decide) ⟨dX4_countChildren_16, rfl⟩ ?_
      refine Ev.iload (q := 4) ⟨dX4_countChildren_19, rfl⟩ rfl ?_
      obtain ⟨c1, h⟩ := ckI_s h
      refine Ev.iaload (by decide) c1.1 c1.2 ⟨dX4_countChildren_21, rfl⟩ ?_
      refine Ev.iload_n (q := 2) ⟨dX4_countChildren_22, rfl⟩ rfl rfl ?_
      refine Ev.icmp_ne jX4_countChildren_23 (fun hc => ?_) (fun hc => ?_)
      · replace h := (if_neg hc).symm.trans h; clear hc
        obtain ⟨c2, h⟩ := ckR_s h
        refine Ev.iinc (q := 4) (ls' := [(0, _), (1, _), (3, _), (4, _), (5, _)]) ⟨dX4_countChildren_38, rfl⟩ rfl (by decide) c2 rfl ?_
        refine Ev.goto jX4_countChildren_41 ?_
        exact ih _ _ _ h k1
      · replace h := (if_pos hc).symm.trans h; clear hc
        refine Ev.lload_n (q := 1) ⟨dX4_countChildren_26, rfl⟩ rfl rfl ?_
        refine Ev.iload (q := 4) ⟨dX4_countChildren_27, rfl⟩ rfl ?_
        obtain ⟨r4, hv3, h⟩ := bnd_s h
        refine Ev.callN1 (mc1 := mc) (ms1 := ms) (v := vi r4) (h1 := hq D x) nX4_40 (c_X7_contains Θ D z _ _ _ _ hv3) rfl rfl ⟨by decide, by decide, Nat.le_of_eq (Nat.zero_add _), Nat.le_of_eq (Nat.zero_add _), Nat.le_of_ble_eq_true rfl⟩ ⟨dX4_countChildren_29, rfl⟩ ?_
        clear hv3
        refine Ev.if_eq jX4_countChildren_32 (fun hc => ?_) (fun hc => ?_)
        · replace h := (if_pos hc).symm.trans h; clear hc
          obtain ⟨c5, h⟩ := ckR_s h
          refine Ev.iinc (q := 4) (ls' := [(0, _), (1, _), (3, _), (4, _), (5, _)]) ⟨dX4_countChildren_38, rfl⟩ rfl (by decide) c5 rfl ?_
          refine Ev.goto jX4_countChildren_41 ?_
          exact ih _ _ _ h k1
        · replace h := (if_neg hc).symm.trans h; clear hc
          obtain ⟨c6, h⟩ := ckR_s h
          refine Ev.iinc (q := 3) (ls' := [(0, _), (1, _), (3, _), (4, _), (5, _)]) ⟨dX4_countChildren_35, rfl⟩ rfl (by decide) c6 rfl ?_
          obtain ⟨c7, h⟩ := ckR_s h
          refine Ev.iinc (q := 4) (ls' := [(0, _), (1, _), (3, _), (4, _), (5, _)]) ⟨dX4_countChildren_38, rfl⟩ rfl (by decide) c7 rfl ?_
          refine Ev.goto jX4_countChildren_41 ?_
          exact ih _ _ _ h k1
def F_X4_countChildren (z : Nat) (v0 : Nat) (v1 : BitVec 64) (v3 : Int) (x : Mm) : Option (Int) := (F_X4_countChildren_6 z (v0) (v1) (v3) x z ((0 : Int)) ((0 : Int))).bind fun s8 => some (s8)
set_option maxHeartbeats 4000000 in
set_option maxRecDepth 20000 in
theorem c_X4_countChildren (Θ : GC) (D : Nat → Nat → Prop) (z : Nat) (v0 : Nat) (v1 : BitVec 64) (v3 : Int) (x : Mm) (y) (h : F_X4_countChildren z v0 v1 v3 x = some y) : Cal Θ mX4_countChildren 1 22 0 0 [vr 4 (v0 + 1), vl (v1), vi (v3)] (hq D x) (Ret (vi y) (hq D x)) := by
  refine Cal.of (by decide +kernel) rfl rfl (Nat.le_of_ble_eq_true rfl) ?_
  show Ev Θ mX4_countChildren 1 22 0 0 0 [(0, vr 4 (v0 + 1)), (1, vl (v1)), (3, vi (v3))] [] (hq D x) (Ret (vi y) (hq D x))
  unfold F_X4_countChildren at h
  refine Ev.iconst ⟨dX4_countChildren_0, rfl⟩ (inRd rfl) ?_
  refine Ev.istore (i := 4) (ls' := [(0, _), (1, _), (3, _), (4, _)]) ⟨dX4_countChildren_1, rfl⟩ (by decide) rfl ?_
  refine Ev.iconst ⟨dX4_countChildren_3, rfl⟩ (inRd rfl) ?_
  refine Ev.istore (i := 5) (ls' := [(0, _), (1, _), (3, _), (4, _), (5, _)]) ⟨dX4_countChildren_4, rfl⟩ (by decide) rfl ?_
  obtain ⟨s8, hl, h⟩ := bnd_s h
  refine e_X4_countChildren_6 Θ D z _ _ _ _ _ _ _ _ _ _ _ hl ?_
  clear hl
  refine Ev.iload (q := 3) ⟨dX4_countChildren_44, rfl⟩ rfl ?_
  obtain rfl := Option.some.inj h
  exact Ev.ireturn (ty := .int) ⟨dX4_countChildren_46, rfl⟩ rfl rfl ⟨rfl, rfl⟩

def F_X4_childWith_3 (z : Nat) (v0 : Nat) (v1 : BitVec 64) (v3 : Int) (v4 : Int) (x : Mm) : Nat → Int → Option ((Unit) ⊕ (Int))
  | 0, _ => none
  | k + 1, v5 => if (x.1 4 v0 0) ≤ v5 then (some (.inl ())) else (ckI v5 60 <| if (x.1 21 v0 (v5).toNat) = v3 then (ckI v5 60 <| if (x.1 22 v0 (v5).toNat) = v4 then ((F_X7_contains z (v1) (v5) x).bind fun r6 => if r6 = 0 then (ckR ((v5 + 1)) <| F_X4_childWith_3 z v0 v1 v3 v4 x k ((v5 + 1))) else (some (.inr v5))) else (ckR ((v5 + 1)) <| F_X4_childWith_3 z v0 v1 v3 v4 x k ((v5 + 1)))) else (ckR ((v5 + 1)) <| F_X4_childWith_3 z v0 v1 v3 v4 x k ((v5 + 1))))
set_option maxHeartbeats 4000000 in
set_option maxRecDepth 20000 in
theorem e_X4_childWith_3 (Θ : GC) (D : Nat → Nat → Prop) (z : Nat) (v0 : Nat) (v1 : BitVec 64) (v3 : Int) (v4 : Int) (x : Mm) (Q : Ro → Hp → Prop) (mc ms : Nat) : ∀ (k : Nat) (v5 : Int) (y), F_X4_childWith_3 z v0 v1 v3 v4 x k v5 = some y → (∀ s, y = .inl s → Ev Θ mX4_childWith 1 22 mc ms 53 [(0, vr 4 (v0 + 1)), (1, vl (v1)), (3, vi (v3)), (4, vi (v4))] [] (hq D x) Q) → (∀ r, y = .inr r → Q (.inl (some (vi r))) (hq D x)) → Ev Θ mX4_childWith 1 22 mc ms 3 [(0, vr 4 (v0 + 1)), (1, vl (v1)), (3, vi (v3)), (4, vi (v4)), (5, vi (v5))] [] (hq D x) Q := by
  intro k
  induction k with
  | zero => intro v5 y h; exact absurd h (by unfold F_X4_childWith_3; exact nofun)
  | succ k ih =>
    intro v5 y h k1 k2
    unfold F_X4_childWith_3 at h
    refine Ev.iload (q := 4) ⟨dX4_childWith_3, rfl⟩ rfl ?_
    refine Ev.aload_n (q := 0) ⟨dX4_childWith_5, rfl⟩ rfl rfl ?_
    refine Ev.getI fX4_22 (Or.inl rfl) ⟨dX4_childWith_6, rfl⟩ ?_
    refine Ev.icmp_ge jX4_childWith_9 (fun hc => ?_) (fun hc => ?_)
    · replace h := (if_pos hc).symm.trans h; clear hc
      refine Ev.keep [0, 1, 2, 3] rfl ?_
      obtain rfl := Option.some.inj h
      exact k1 _ rfl
    · replace h := (if_neg hc).symm.trans h; clear hc
      refine Ev.aload_n (q := 0) ⟨dX4_childWith_12, rfl⟩ rfl rfl ?_
      refine Ev.getRk (C2 := 21) (r := v0) fX4_9 rfl (by decide) (by decide) ⟨dX4_childWith_13, rfl⟩ ?_
      refine Ev.iload (q := 4) ⟨dX4_childWith_16, rfl⟩ rfl ?_
      obtain ⟨c1, h⟩ := ckI_s h
      refine Ev.iaload (by decide) c1.1 c1.2 ⟨dX4_childWith_18, rfl⟩ ?_
      refine Ev.iload_n (q := 2) ⟨dX4_childWith_19, rfl⟩ rfl rfl ?_
      refine Ev.icmp_ne jX4_childWith_20 (fun hc => ?_) (fun hc => ?_)
      · replace h := (if_neg hc).symm.trans h; clear hc
        obtain ⟨c2, h⟩ := ckR_s h
        refine Ev.iinc (q := 4) (ls' := [(0, _), (1, _), (3, _), (4, _), (5, _)]) ⟨dX4_childWith_47, rfl⟩ rfl (by decide) c2 rfl ?_
        refine Ev.goto jX4_childWith_50 ?_
        exact ih _ _ h k1 k2
      · replace h := (if_pos hc).symm.trans h; clear hc
        refine Ev.aload_n (q := 0) ⟨dX4_childWith_23, rfl⟩ rfl rfl ?_
        refine Ev.getRk (C2 := 22) (r := v0) fX4_15 rfl (by decide) (by decide) ⟨dX4_childWith_24, rfl⟩ ?_
        refine Ev.iload (q := 4) ⟨dX4_childWith_27, rfl⟩ rfl ?_
        obtain ⟨c3, h⟩ := ckI_s h
        refine Ev.iaload (by decide) c3.1 c3.2 ⟨dX4_childWith_29, rfl⟩ ?_
        refine Ev.iload (q := 3) ⟨dX4_childWith_30, rfl⟩ rfl ?_
        refine Ev.icmp_ne jX4_childWith_32 (fun hc => ?_) (fun hc => ?_)
        · replace h := (if_neg hc).symm.trans h; clear hc
          obtain ⟨c4, h⟩ := ckR_s h
          refine Ev.iinc (q := 4) (ls' := [(0, _), (1, _), (3, _), (4, _), (5, _)]) ⟨dX4_childWith_47, rfl⟩ rfl (by decide) c4 rfl ?_
          refine Ev.goto jX4_childWith_50 ?_
          exact ih _ _ h k1 k2
        · replace h := (if_pos hc).symm.trans h; clear hc
          refine Ev.lload_n (q := 1) ⟨dX4_childWith_35, rfl⟩ rfl rfl ?_
          refine Ev.iload (q := 4) ⟨dX4_childWith_36, rfl⟩ rfl ?_
          obtain ⟨r6, hv5, h⟩ := bnd_s h
          refine Ev.callN1 (mc1 := mc) (ms1 := ms) (v := vi r6) (h1 := hq D x) nX4_40 (c_X7_contains Θ D z _ _ _ _ hv5) rfl rfl ⟨by decide, by decide, Nat.le_of_eq (Nat.zero_add _), Nat.le_of_eq (Nat.zero_add _), Nat.le_of_ble_eq_true rfl⟩ ⟨dX4_childWith_38, rfl⟩ ?_
          clear hv5
          refine Ev.if_eq jX4_childWith_41 (fun hc => ?_) (fun hc => ?_)
          · replace h := (if_pos hc).symm.trans h; clear hc
            obtain ⟨c7, h⟩ := ckR_s h
            refine Ev.iinc (q := 4) (ls' := [(0, _), (1, _), (3, _), (4, _), (5, _)]) ⟨dX4_childWith_47, rfl⟩ rfl (by decide) c7 rfl ?_
            refine Ev.goto jX4_childWith_50 ?_
            exact ih _ _ h k1 k2
          · replace h := (if_neg hc).symm.trans h; clear hc
            refine Ev.iload (q := 4) ⟨dX4_childWith_44, rfl⟩ rfl ?_
            obtain rfl := Option.some.inj h
            exact Ev.ireturn (ty := .int) ⟨dX4_childWith_46, rfl⟩ rfl rfl (k2 _ rfl)
def F_X4_childWith (z : Nat) (v0 : Nat) (v1 : BitVec 64) (v3 : Int) (v4 : Int) (x : Mm) : Option (Int) := bndE (fun r => r) (F_X4_childWith_3 z (v0) (v1) (v3) (v4) x z ((0 : Int))) fun s8 => some ((-1 : Int))
set_option maxHeartbeats 4000000 in
set_option maxRecDepth 20000 in
theorem c_X4_childWith (Θ : GC) (D : Nat → Nat → Prop) (z : Nat) (v0 : Nat) (v1 : BitVec 64) (v3 : Int) (v4 : Int) (x : Mm) (y) (h : F_X4_childWith z v0 v1 v3 v4 x = some y) : Cal Θ mX4_childWith 1 22 0 0 [vr 4 (v0 + 1), vl (v1), vi (v3), vi (v4)] (hq D x) (Ret (vi y) (hq D x)) := by
  refine Cal.of (by decide +kernel) rfl rfl (Nat.le_of_ble_eq_true rfl) ?_
  show Ev Θ mX4_childWith 1 22 0 0 0 [(0, vr 4 (v0 + 1)), (1, vl (v1)), (3, vi (v3)), (4, vi (v4))] [] (hq D x) (Ret (vi y) (hq D x))
  unfold F_X4_childWith at h
  refine Ev.iconst ⟨dX4_childWith_0, rfl⟩ (inRd rfl) ?_
  refine Ev.istore (i := 5) (ls' := [(0, _), (1, _), (3, _), (4, _), (5, _)]) ⟨dX4_childWith_1, rfl⟩ (by decide) rfl ?_
  rcases bndE_s h with ⟨s8, hl, h⟩ | ⟨r1, hl, rfl⟩
  rotate_left
  · exact e_X4_childWith_3 Θ D z _ _ _ _ _ _ _ _ _ _ _ hl (fun s2 e2 => by cases e2) (fun r2 e2 => by cases e2; exact ⟨rfl, rfl⟩)
  refine e_X4_childWith_3 Θ D z _ _ _ _ _ _ _ _ _ _ _ hl (fun s2 e2 => ?_) (fun r2 e2 => by cases e2)
  cases e2
  clear hl
  refine Ev.iconst ⟨dX4_childWith_53, rfl⟩ (inRd rfl) ?_
  obtain rfl := Option.some.inj h
  exact Ev.ireturn (ty := .int) ⟨dX4_childWith_54, rfl⟩ rfl rfl ⟨rfl, rfl⟩

def F_X4_nextChild_6 (z : Nat) (v0 : Nat) (v1 : BitVec 64) (v3 : Int) (v4 : Int) (x : Mm) : Nat → Int → Int → Option (Int)
  | 0, _, _ => none
  | k + 1, v5, v6 => if (x.1 4 v0 0) ≤ v6 then (some (v5)) else (ckI v6 60 <| if (x.1 21 v0 (v6).toNat) = v3 then ((F_X7_contains z (v1) (v6) x).bind fun r4 => if r4 = 0 then (ckR ((v6 + 1)) <| F_X4_nextChild_6 z v0 v1 v3 v4 x k (v5) ((v6 + 1))) else (ckI v6 60 <| if (x.1 22 v0 (v6).toNat) ≤ v4 then (ckR ((v6 + 1)) <| F_X4_nextChild_6 z v0 v1 v3 v4 x k (v5) ((v6 + 1))) else (if v5 = (-1 : Int) then (ckR ((v6 + 1)) <| F_X4_nextChild_6 z v0 v1 v3 v4 x k (v6) ((v6 + 1))) else (ckI v6 60 <| ckI v5 60 <| if (x.1 22 v0 (v5).toNat) ≤ (x.1 22 v0 (v6).toNat) then (ckR ((v6 + 1)) <| F_X4_nextChild_6 z v0 v1 v3 v4 x k (v5) ((v6 + 1))) else (ckR ((v6 + 1)) <| F_X4_nextChild_6 z v0 v1 v3 v4 x k (v6) ((v6 + 1))))))) else (ckR ((v6 + 1)) <| F_X4_nextChild_6 z v0 v1 v3 v4 x k (v5) ((v6 + 1))))
set_option maxHeartbeats 4000000 in
set_option maxRecDepth 20000 in
theorem e_X4_nextChild_6 (Θ : GC) (D : Nat → Nat → Prop) (z : Nat) (v0 : Nat) (v1 : BitVec 64) (v3 : Int) (v4 : Int) (x : Mm) (Q : Ro → Hp → Prop) (mc ms : Nat) : ∀ (k : Nat) (v5 : Int) (v6 : Int) (y), F_X4_nextChild_6 z v0 v1 v3 v4 x k v5 v6 = some y → (Ev Θ mX4_nextChild 1 22 mc ms 80 [(0, vr 4 (v0 + 1)), (1, vl (v1)), (3, vi (v3)), (4, vi (v4)), (5, vi (y))] [] (hq D x) Q) → Ev Θ mX4_nextChild 1 22 mc ms 6 [(0, vr 4 (v0 + 1)), (1, vl (v1)), (3, vi (v3)), (4, vi (v4)), (5, vi (v5)), (6, vi (v6))] [] (hq D x) Q := by
  intro k
  induction k with
  | zero => intro v5 v6 y h; exact absurd h (by unfold F_X4_nextChild_6; exact nofun)
  | succ k ih =>
    intro v5 v6 y h k1
    unfold F_X4_nextChild_6 at h
    refine Ev.iload (q := 5) ⟨dX4_nextChild_6, rfl⟩ rfl ?_
    refine Ev.aload_n (q := 0) ⟨dX4_nextChild_8, rfl⟩ rfl rfl ?_
    refine Ev.getI fX4_22 (Or.inl rfl) ⟨dX4_nextChild_9, rfl⟩ ?_
    refine Ev.icmp_ge jX4_nextChild_12 (fun hc => ?_) (fun hc => ?_)
    · replace h := (if_pos hc).symm.trans h; clear hc
      refine Ev.keep [0, 1, 2, 3, 4] rfl ?_
      obtain rfl := Option.some.inj h
      exact k1
    · replace h := (if_neg hc).symm.trans h; clear hc
      refine Ev.aload_n (q := 0) ⟨dX4_nextChild_15, rfl⟩ rfl rfl ?_
      refine Ev.getRk (C2 := 21) (r := v0) fX4_9 rfl (by decide) (by decide) ⟨dX4_nextChild_16, rfl⟩ ?_
      refine Ev.iload (q := 5) ⟨dX4_nextChild_19, rfl⟩ rfl ?_
      obtain ⟨c1, h⟩ := ckI_s h
      refine Ev.iaload (by decide) c1.1 c1.2 ⟨dX4_nextChild_21, rfl⟩ ?_
      refine Ev.iload_n (q := 2) ⟨dX4_nextChild_22, rfl⟩ rfl rfl ?_
      refine Ev.icmp_ne jX4_nextChild_23 (fun hc => ?_) (fun hc => ?_)
      · replace h := (if_neg hc).symm.trans h; clear hc
        obtain ⟨c2, h⟩ := ckR_s h
        refine Ev.iinc (q := 5) (ls' := [(0, _), (1, _), (3, _), (4, _), (5, _), (6, _)]) ⟨dX4_nextChild_74, rfl⟩ rfl (by decide) c2 rfl ?_
        refine Ev.goto jX4_nextChild_77 ?_
        exact ih _ _ _ h k1
      · replace h := (if_pos hc).symm.trans h; clear hc
        refine Ev.lload_n (q := 1) ⟨dX4_nextChild_26, rfl⟩ rfl rfl ?_
        refine Ev.iload (q := 5) ⟨dX4_nextChild_27, rfl⟩ rfl ?_
        obtain ⟨r4, hv3, h⟩ := bnd_s h
        refine Ev.callN1 (mc1 := mc) (ms1 := ms) (v := vi r4) (h1 := hq D x) nX4_40 (c_X7_contains Θ D z _ _ _ _ hv3) rfl rfl ⟨by decide, by decide, Nat.le_of_eq (Nat.zero_add _), Nat.le_of_eq (Nat.zero_add _), Nat.le_of_ble_eq_true rfl⟩ ⟨dX4_nextChild_29, rfl⟩ ?_
        clear hv3
        refine Ev.if_eq jX4_nextChild_32 (fun hc => ?_) (fun hc => ?_)
        · replace h := (if_pos hc).symm.trans h; clear hc
          obtain ⟨c5, h⟩ := ckR_s h
          refine Ev.iinc (q := 5) (ls' := [(0, _), (1, _), (3, _), (4, _), (5, _), (6, _)]) ⟨dX4_nextChild_74, rfl⟩ rfl (by decide) c5 rfl ?_
          refine Ev.goto jX4_nextChild_77 ?_
          exact ih _ _ _ h k1
        · replace h := (if_neg hc).symm.trans h; clear hc
          refine Ev.aload_n (q := 0) ⟨dX4_nextChild_35, rfl⟩ rfl rfl ?_
          refine Ev.getRk (C2 := 22) (r := v0) fX4_15 rfl (by decide) (by decide) ⟨dX4_nextChild_36, rfl⟩ ?_
          refine Ev.iload (q := 5) ⟨dX4_nextChild_39, rfl⟩ rfl ?_
          obtain ⟨c6, h⟩ := ckI_s h
          refine Ev.iaload (by decide) c6.1 c6.2 ⟨dX4_nextChild_41, rfl⟩ ?_
          refine Ev.iload (q := 3) ⟨dX4_nextChild_42, rfl⟩ rfl ?_
          refine Ev.icmp_le jX4_nextChild_44 (fun hc => ?_) (fun hc => ?_)
          · replace h := (if_pos hc).symm.trans h; clear hc
            obtain ⟨c7, h⟩ := ckR_s h
            refine Ev.iinc (q := 5) (ls' := [(0, _), (1, _), (3, _), (4, _), (5, _), (6, _)]) ⟨dX4_nextChild_74, rfl⟩ rfl (by decide) c7 rfl ?_
            refine Ev.goto jX4_nextChild_77 ?_
            exact ih _ _ _ h k1
          · replace h := (if_neg hc).symm.trans h; clear hc
            refine Ev.iload (q := 4) ⟨dX4_nextChild_47, rfl⟩ rfl ?_
            refine Ev.iconst ⟨dX4_nextChild_49, rfl⟩ (inRd rfl) ?_
            refine Ev.icmp_eq jX4_nextChild_50 (fun hc => ?_) (fun hc => ?_)
            · replace h := (if_pos hc).symm.trans h; clear hc
              refine Ev.iload (q := 5) ⟨dX4_nextChild_70, rfl⟩ rfl ?_
              refine Ev.istore (i := 5) (ls' := [(0, _), (1, _), (3, _), (4, _), (5, _), (6, _)]) ⟨dX4_nextChild_72, rfl⟩ (by decide) rfl ?_
              obtain ⟨c8, h⟩ := ckR_s h
              refine Ev.iinc (q := 5) (ls' := [(0, _), (1, _), (3, _), (4, _), (5, _), (6, _)]) ⟨dX4_nextChild_74, rfl⟩ rfl (by decide) c8 rfl ?_
              refine Ev.goto jX4_nextChild_77 ?_
              exact ih _ _ _ h k1
            · replace h := (if_neg hc).symm.trans h; clear hc
              refine Ev.aload_n (q := 0) ⟨dX4_nextChild_53, rfl⟩ rfl rfl ?_
              refine Ev.getRk (C2 := 22) (r := v0) fX4_15 rfl (by decide) (by decide) ⟨dX4_nextChild_54, rfl⟩ ?_
              refine Ev.iload (q := 5) ⟨dX4_nextChild_57, rfl⟩ rfl ?_
              obtain ⟨c9, h⟩ := ckI_s h
              refine Ev.iaload (by decide) c9.1 c9.2 ⟨dX4_nextChild_59, rfl⟩ ?_
              refine Ev.aload_n (q := 0) ⟨dX4_nextChild_60, rfl⟩ rfl rfl ?_
              refine Ev.getRk (C2 := 22) (r := v0) fX4_15 rfl (by decide) (by decide) ⟨dX4_nextChild_61, rfl⟩ ?_
              refine Ev.iload (q := 4) ⟨dX4_nextChild_64, rfl⟩ rfl ?_
              obtain ⟨c10, h⟩ := ckI_s h
              refine Ev.iaload (by decide) c10.1 c10.2 ⟨dX4_nextChild_66, rfl⟩ ?_
              refine Ev.icmp_ge jX4_nextChild_67 (fun hc => ?_) (fun hc => ?_)
              · replace h := (if_pos hc).symm.trans h; clear hc
                obtain ⟨c11, h⟩ := ckR_s h
                refine Ev.iinc (q := 5) (ls' := [(0, _), (1, _), (3, _), (4, _), (5, _), (6, _)]) ⟨dX4_nextChild_74, rfl⟩ rfl (by decide) c11 rfl ?_
                refine Ev.goto jX4_nextChild_77 ?_
                exact ih _ _ _ h k1
              · replace h := (if_neg hc).symm.trans h; clear hc
                refine Ev.iload (q := 5) ⟨dX4_nextChild_70, rfl⟩ rfl ?_
                refine Ev.istore (i := 5) (ls' := [(0, _), (1, _), (3, _), (4, _), (5, _), (6, _)]) ⟨dX4_nextChild_72, rfl⟩ (by decide) rfl ?_
                obtain ⟨c12, h⟩ := ckR_s h
                refine Ev.iinc (q := 5) (ls' := [(0, _), (1, _), (3, _), (4, _), (5, _), (6, _)]) ⟨dX4_nextChild_74, rfl⟩ rfl (by decide) c12 rfl ?_
                refine Ev.goto jX4_nextChild_77 ?_
                exact ih _ _ _ h k1
def F_X4_nextChild (z : Nat) (v0 : Nat) (v1 : BitVec 64) (v3 : Int) (v4 : Int) (x : Mm) : Option (Int) := (F_X4_nextChild_6 z (v0) (v1) (v3) (v4) x z ((-1 : Int)) ((0 : Int))).bind fun s13 => some (s13)
set_option maxHeartbeats 4000000 in
set_option maxRecDepth 20000 in
theorem c_X4_nextChild (Θ : GC) (D : Nat → Nat → Prop) (z : Nat) (v0 : Nat) (v1 : BitVec 64) (v3 : Int) (v4 : Int) (x : Mm) (y) (h : F_X4_nextChild z v0 v1 v3 v4 x = some y) : Cal Θ mX4_nextChild 1 22 0 0 [vr 4 (v0 + 1), vl (v1), vi (v3), vi (v4)] (hq D x) (Ret (vi y) (hq D x)) := by
  refine Cal.of (by decide +kernel) rfl rfl (Nat.le_of_ble_eq_true rfl) ?_
  show Ev Θ mX4_nextChild 1 22 0 0 0 [(0, vr 4 (v0 + 1)), (1, vl (v1)), (3, vi (v3)), (4, vi (v4))] [] (hq D x) (Ret (vi y) (hq D x))
  unfold F_X4_nextChild at h
  refine Ev.iconst ⟨dX4_nextChild_0, rfl⟩ (inRd rfl) ?_
  refine Ev.istore (i := 5) (ls' := [(0, _), (1, _), (3, _), (4, _), (5, _)]) ⟨dX4_nextChild_1, rfl⟩ (by decide) rfl ?_
  refine Ev.iconst ⟨dX4_nextChild_3, rfl⟩ (inRd rfl) ?_
  refine Ev.istore (i := 6) (ls' := [(0, _), (1, _), (3, _), (4, _), (5, _), (6, _)]) ⟨dX4_nextChild_4, rfl⟩ (by decide) rfl ?_
  obtain ⟨s13, hl, h⟩ := bnd_s h
  refine e_X4_nextChild_6 Θ D z _ _ _ _ _ _ _ _ _ _ _ _ hl ?_
  clear hl
  refine Ev.iload (q := 4) ⟨dX4_nextChild_80, rfl⟩ rfl ?_
  obtain rfl := Option.some.inj h
  exact Ev.ireturn (ty := .int) ⟨dX4_nextChild_82, rfl⟩ rfl rfl ⟨rfl, rfl⟩

def F_X4_walked_44 (z : Nat) (v0 : Nat) (v1 : BitVec 64) (v3 : Int) (v4 : Int) (v5 : Int) (v7 : Int) (x : Mm) : Nat → Int → Int → Int → Option (Int × Int)
  | 0, _, _, _ => none
  | k + 1, v6, v8, v9 => if (60 : Int) ≤ v9 then (some ((v6, v8))) else (if v8 = (-1 : Int) then (some ((v6, v8))) else ((F_X4_countBelow z (v0) (v1) (v8) x).bind fun r5 => if v6 < r5 then (some ((v6, v8))) else ((F_X4_countBelow z (v0) (v1) (v8) x).bind fun r7 => ckR ((v6 - r7)) <| ckI v8 60 <| (F_X4_nextChild z (v0) (v1) (v5) ((x.1 22 v0 (v8).toNat)) x).bind fun r11 => ckR ((v9 + 1)) <| F_X4_walked_44 z v0 v1 v3 v4 v5 v7 x k ((v6 - r7)) (r11) ((v9 + 1)))))
set_option maxHeartbeats 4000000 in
set_option maxRecDepth 20000 in
theorem e_X4_walked_44 (Θ : GC) (D : Nat → Nat → Prop) (z : Nat) (v0 : Nat) (v1 : BitVec 64) (v3 : Int) (v4 : Int) (v5 : Int) (v7 : Int) (x : Mm) (Q : Ro → Hp → Prop) (mc ms : Nat) : ∀ (k : Nat) (v6 : Int) (v8 : Int) (v9 : Int) (y), F_X4_walked_44 z v0 v1 v3 v4 v5 v7 x k v6 v8 v9 = some y → (Ev Θ mX4_walked 3 69 mc ms 103 [(0, vr 4 (v0 + 1)), (1, vl (v1)), (3, vi (v3)), (4, vi (v4)), (5, vi (v5)), (6, vi (y.1)), (7, vi (v7)), (8, vi (y.2))] [] (hq D x) Q) → Ev Θ mX4_walked 3 69 mc ms 44 [(0, vr 4 (v0 + 1)), (1, vl (v1)), (3, vi (v3)), (4, vi (v4)), (5, vi (v5)), (6, vi (v6)), (7, vi (v7)), (8, vi (v8)), (9, vi (v9))] [] (hq D x) Q := by
  intro k
  induction k with
  | zero => intro v6 v8 v9 y h; exact absurd h (by unfold F_X4_walked_44; exact nofun)
  | succ k ih =>
    intro v6 v8 v9 y h k1
    unfold F_X4_walked_44 at h
    refine Ev.iload (q := 8) ⟨dX4_walked_44, rfl⟩ rfl ?_
    refine Ev.bipush ⟨dX4_walked_46, rfl⟩ (inRd rfl) (by decide) ?_
    refine Ev.icmp_ge jX4_walked_48 (fun hc => ?_) (fun hc => ?_)
    · replace h := (if_pos hc).symm.trans h; clear hc
      refine Ev.keep [0, 1, 2, 3, 4, 5, 6, 7] rfl ?_
      obtain rfl := Option.some.inj h
      exact k1
    · replace h := (if_neg hc).symm.trans h; clear hc
      refine Ev.iload (q := 7) ⟨dX4_walked_51, rfl⟩ rfl ?_
      refine Ev.iconst ⟨dX4_walked_53, rfl⟩ (inRd rfl) ?_
      refine Ev.icmp_eq jX4_walked_54 (fun hc => ?_) (fun hc => ?_)
      · replace h := (if_pos hc).symm.trans h; clear hc
        refine Ev.keep [0, 1, 2, 3, 4, 5, 6, 7] rfl ?_
        obtain rfl := Option.some.inj h
        exact k1
      · replace h := (if_neg hc).symm.trans h; clear hc
        refine Ev.iload (q := 5) ⟨dX4_walked_57, rfl⟩ rfl ?_
        refine Ev.aload_n (q := 0) ⟨dX4_walked_59, rfl⟩ rfl rfl ?_
        refine Ev.lload_n (q := 1) ⟨dX4_walked_60, rfl⟩ rfl rfl ?_
        refine Ev.iload (q := 7) ⟨dX4_walked_61, rfl⟩ rfl ?_
        obtain ⟨r5, hv4, h⟩ := bnd_s h
        refine Ev.callV1 (mc1 := mc) (ms1 := ms) (v := vi r5) (h1 := hq D x) vX4_57 (c_X4_countBelow Θ D z _ _ _ _ _ hv4) rfl rfl (by decide) rfl ⟨by decide, by decide, Nat.le_of_eq (Nat.zero_add _), Nat.le_of_eq (Nat.zero_add _), Nat.le_of_ble_eq_true rfl⟩ ⟨dX4_walked_63, rfl⟩ ?_
        clear hv4
        refine Ev.icmp_lt jX4_walked_66 (fun hc => ?_) (fun hc => ?_)
        · replace h := (if_pos hc).symm.trans h; clear hc
          refine Ev.keep [0, 1, 2, 3, 4, 5, 6, 7] rfl ?_
          obtain rfl := Option.some.inj h
          exact k1
        · replace h := (if_neg hc).symm.trans h; clear hc
          refine Ev.iload (q := 5) ⟨dX4_walked_69, rfl⟩ rfl ?_
          refine Ev.aload_n (q := 0) ⟨dX4_walked_71, rfl⟩ rfl rfl ?_
          refine Ev.lload_n (q := 1) ⟨dX4_walked_72, rfl⟩ rfl rfl ?_
          refine Ev.iload (q := 7) ⟨dX4_walked_73, rfl⟩ rfl ?_
          obtain ⟨r7, hv6, h⟩ := bnd_s h
          refine Ev.callV1 (mc1 := mc) (ms1 := ms) (v := vi r7) (h1 := hq D x) vX4_57 (c_X4_countBelow Θ D z _ _ _ _ _ hv6) rfl rfl (by decide) rfl ⟨by decide, by decide, Nat.le_of_eq (Nat.zero_add _), Nat.le_of_eq (Nat.zero_add _), Nat.le_of_ble_eq_true rfl⟩ ⟨dX4_walked_75, rfl⟩ ?_
          clear hv6
          obtain ⟨c8, h⟩ := ckR_s h
          refine Ev.isub ⟨dX4_walked_78, rfl⟩ c8 ?_
          refine Ev.istore (i := 6) (ls' := [(0, _), (1, _), (3, _), (4, _), (5, _), (6, _), (7, _), (8, _), (9, _)]) ⟨dX4_walked_79, rfl⟩ (by decide) rfl ?_
          refine Ev.aload_n (q := 0) ⟨dX4_walked_81, rfl⟩ rfl rfl ?_
          refine Ev.lload_n (q := 1) ⟨dX4_walked_82, rfl⟩ rfl rfl ?_
          refine Ev.iload (q := 4) ⟨dX4_walked_83, rfl⟩ rfl ?_
          refine Ev.aload_n (q := 0) ⟨dX4_walked_85, rfl⟩ rfl rfl ?_
          refine Ev.getRk (C2 := 22) (r := v0) fX4_15 rfl (by decide) (by decide) ⟨dX4_walked_86, rfl⟩ ?_
          refine Ev.iload (q := 7) ⟨dX4_walked_89, rfl⟩ rfl ?_
          obtain ⟨c9, h⟩ := ckI_s h
          refine Ev.iaload (by decide) c9.1 c9.2 ⟨dX4_walked_91, rfl⟩ ?_
          obtain ⟨r11, hv10, h⟩ := bnd_s h
          refine Ev.callV1 (mc1 := mc) (ms1 := ms) (v := vi r11) (h1 := hq D x) vX4_53 (c_X4_nextChild Θ D z _ _ _ _ _ _ hv10) rfl rfl (by decide) rfl ⟨by decide, by decide, Nat.le_of_eq (Nat.zero_add _), Nat.le_of_eq (Nat.zero_add _), Nat.le_of_ble_eq_true rfl⟩ ⟨dX4_walked_92, rfl⟩ ?_
          clear hv10
          refine Ev.istore (i := 8) (ls' := [(0, _), (1, _), (3, _), (4, _), (5, _), (6, _), (7, _), (8, _), (9, _)]) ⟨dX4_walked_95, rfl⟩ (by decide) rfl ?_
          obtain ⟨c12, h⟩ := ckR_s h
          refine Ev.iinc (q := 8) (ls' := [(0, _), (1, _), (3, _), (4, _), (5, _), (6, _), (7, _), (8, _), (9, _)]) ⟨dX4_walked_97, rfl⟩ rfl (by decide) c12 rfl ?_
          refine Ev.goto jX4_walked_100 ?_
          exact ih _ _ _ _ h k1

def F_X4_walked_10 (z : Nat) (v0 : Nat) (v1 : BitVec 64) (v3 : Int) (v4 : Int) (x : Mm) : Nat → Int → Int → Int → Option (Int)
  | 0, _, _, _ => none
  | k + 1, v5, v6, v7 => if (60 : Int) ≤ v7 then (some (v5)) else (if v6 ≤ 0 then (some (v5)) else (if v5 = (-1 : Int) then (some (v5)) else (ckR ((v6 + (-1))) <| (F_X4_nextChild z (v0) (v1) (v5) ((-1 : Int)) x).bind fun r3 => (F_X4_walked_44 z (v0) (v1) (v3) (v4) (v5) (v7) x z ((v6 + (-1))) (r3) ((0 : Int))).bind fun s13 => ckR ((v7 + 1)) <| F_X4_walked_10 z v0 v1 v3 v4 x k (s13.2) (s13.1) ((v7 + 1)))))
set_option maxHeartbeats 4000000 in
set_option maxRecDepth 20000 in
theorem e_X4_walked_10 (Θ : GC) (D : Nat → Nat → Prop) (z : Nat) (v0 : Nat) (v1 : BitVec 64) (v3 : Int) (v4 : Int) (x : Mm) (Q : Ro → Hp → Prop) (mc ms : Nat) : ∀ (k : Nat) (v5 : Int) (v6 : Int) (v7 : Int) (y), F_X4_walked_10 z v0 v1 v3 v4 x k v5 v6 v7 = some y → (Ev Θ mX4_walked 3 69 mc ms 113 [(0, vr 4 (v0 + 1)), (1, vl (v1)), (3, vi (v3)), (4, vi (v4)), (5, vi (y))] [] (hq D x) Q) → Ev Θ mX4_walked 3 69 mc ms 10 [(0, vr 4 (v0 + 1)), (1, vl (v1)), (3, vi (v3)), (4, vi (v4)), (5, vi (v5)), (6, vi (v6)), (7, vi (v7))] [] (hq D x) Q := by
  intro k
  induction k with
  | zero => intro v5 v6 v7 y h; exact absurd h (by unfold F_X4_walked_10; exact nofun)
  | succ k ih =>
    intro v5 v6 v7 y h k1
    unfold F_X4_walked_10 at h
    refine Ev.iload (q := 6) ⟨dX4_walked_10, rfl⟩ rfl ?_
    refine Ev.bipush ⟨dX4_walked_12, rfl⟩ (inRd rfl) (by decide) ?_
    refine Ev.icmp_ge jX4_walked_14 (fun hc => ?_) (fun hc => ?_)
    · replace h := (if_pos hc).symm.trans h; clear hc
      refine Ev.keep [0, 1, 2, 3, 4] rfl ?_
      obtain rfl := Option.some.inj h
      exact k1
    · replace h := (if_neg hc).symm.trans h; clear hc
      refine Ev.iload (q := 5) ⟨dX4_walked_17, rfl⟩ rfl ?_
      refine Ev.if_le jX4_walked_19 (fun hc => ?_) (fun hc => ?_)
      · replace h := (if_pos hc).symm.trans h; clear hc
        refine Ev.keep [0, 1, 2, 3, 4] rfl ?_
        obtain rfl := Option.some.inj h
        exact k1
      · replace h := (if_neg hc).symm.trans h; clear hc
        refine Ev.iload (q := 4) ⟨dX4_walked_22, rfl⟩ rfl ?_
        refine Ev.iconst ⟨dX4_walked_24, rfl⟩ (inRd rfl) ?_
        refine Ev.icmp_eq jX4_walked_25 (fun hc => ?_) (fun hc => ?_)
        · replace h := (if_pos hc).symm.trans h; clear hc
          refine Ev.keep [0, 1, 2, 3, 4] rfl ?_
          obtain rfl := Option.some.inj h
          exact k1
        · replace h := (if_neg hc).symm.trans h; clear hc
          obtain ⟨c1, h⟩ := ckR_s h
          refine Ev.iinc (q := 5) (ls' := [(0, _), (1, _), (3, _), (4, _), (5, _), (6, _), (7, _)]) ⟨dX4_walked_28, rfl⟩ rfl (by decide) c1 rfl ?_
          refine Ev.aload_n (q := 0) ⟨dX4_walked_31, rfl⟩ rfl rfl ?_
          refine Ev.lload_n (q := 1) ⟨dX4_walked_32, rfl⟩ rfl rfl ?_
          refine Ev.iload (q := 4) ⟨dX4_walked_33, rfl⟩ rfl ?_
          refine Ev.iconst ⟨dX4_walked_35, rfl⟩ (inRd rfl) ?_
          obtain ⟨r3, hv2, h⟩ := bnd_s h
          refine Ev.callV1 (mc1 := mc) (ms1 := ms) (v := vi r3) (h1 := hq D x) vX4_53 (c_X4_nextChild Θ D z _ _ _ _ _ _ hv2) rfl rfl (by decide) rfl ⟨by decide, by decide, Nat.le_of_eq (Nat.zero_add _), Nat.le_of_eq (Nat.zero_add _), Nat.le_of_ble_eq_true rfl⟩ ⟨dX4_walked_36, rfl⟩ ?_
          clear hv2
          refine Ev.istore (i := 8) (ls' := [(0, _), (1, _), (3, _), (4, _), (5, _), (6, _), (7, _), (8, _)]) ⟨dX4_walked_39, rfl⟩ (by decide) rfl ?_
          refine Ev.iconst ⟨dX4_walked_41, rfl⟩ (inRd rfl) ?_
          refine Ev.istore (i := 9) (ls' := [(0, _), (1, _), (3, _), (4, _), (5, _), (6, _), (7, _), (8, _), (9, _)]) ⟨dX4_walked_42, rfl⟩ (by decide) rfl ?_
          obtain ⟨s13, hl, h⟩ := bnd_s h
          refine e_X4_walked_44 Θ D z _ _ _ _ _ _ _ _ _ _ _ _ _ _ _ hl ?_
          clear hl
          refine Ev.iload (q := 7) ⟨dX4_walked_103, rfl⟩ rfl ?_
          refine Ev.istore (i := 5) (ls' := [(0, _), (1, _), (3, _), (4, _), (5, _), (6, _), (7, _), (8, _)]) ⟨dX4_walked_105, rfl⟩ (by decide) rfl ?_
          obtain ⟨c14, h⟩ := ckR_s h
          refine Ev.iinc (q := 6) (ls' := [(0, _), (1, _), (3, _), (4, _), (5, _), (6, _), (7, _), (8, _)]) ⟨dX4_walked_107, rfl⟩ rfl (by decide) c14 rfl ?_
          refine Ev.goto jX4_walked_110 ?_
          refine Ev.keep [0, 1, 2, 3, 4, 5, 6] rfl ?_
          exact ih _ _ _ _ h k1
def F_X4_walked (z : Nat) (v0 : Nat) (v1 : BitVec 64) (v3 : Int) (v4 : Int) (x : Mm) : Option (Int) := (F_X4_walked_10 z (v0) (v1) (v3) (v4) x z (v3) (v4) ((0 : Int))).bind fun s15 => some (s15)
set_option maxHeartbeats 4000000 in
set_option maxRecDepth 20000 in
theorem c_X4_walked (Θ : GC) (D : Nat → Nat → Prop) (z : Nat) (v0 : Nat) (v1 : BitVec 64) (v3 : Int) (v4 : Int) (x : Mm) (y) (h : F_X4_walked z v0 v1 v3 v4 x = some y) : Cal Θ mX4_walked 3 69 0 0 [vr 4 (v0 + 1), vl (v1), vi (v3), vi (v4)] (hq D x) (Ret (vi y) (hq D x)) := by
  refine Cal.of (by decide +kernel) rfl rfl (Nat.le_of_ble_eq_true rfl) ?_
  show Ev Θ mX4_walked 3 69 0 0 0 [(0, vr 4 (v0 + 1)), (1, vl (v1)), (3, vi (v3)), (4, vi (v4))] [] (hq D x) (Ret (vi y) (hq D x))
  unfold F_X4_walked at h
  refine Ev.iload_n (q := 2) ⟨dX4_walked_0, rfl⟩ rfl rfl ?_
  refine Ev.istore (i := 5) (ls' := [(0, _), (1, _), (3, _), (4, _), (5, _)]) ⟨dX4_walked_1, rfl⟩ (by decide) rfl ?_
  refine Ev.iload (q := 3) ⟨dX4_walked_3, rfl⟩ rfl ?_
  refine Ev.istore (i := 6) (ls' := [(0, _), (1, _), (3, _), (4, _), (5, _), (6, _)]) ⟨dX4_walked_5, rfl⟩ (by decide) rfl ?_
  refine Ev.iconst ⟨dX4_walked_7, rfl⟩ (inRd rfl) ?_
  refine Ev.istore (i := 7) (ls' := [(0, _), (1, _), (3, _), (4, _), (5, _), (6, _), (7, _)]) ⟨dX4_walked_8, rfl⟩ (by decide) rfl ?_
  obtain ⟨s15, hl, h⟩ := bnd_s h
  refine e_X4_walked_10 Θ D z _ _ _ _ _ _ _ _ _ _ _ _ _ hl ?_
  clear hl
  refine Ev.iload (q := 4) ⟨dX4_walked_113, rfl⟩ rfl ?_
  obtain rfl := Option.some.inj h
  exact Ev.ireturn (ty := .int) ⟨dX4_walked_115, rfl⟩ rfl rfl ⟨rfl, rfl⟩

def F_X5_addBytes_3 (z : Nat) (v0 : Nat) (v1 : Int) : Nat → Int → Mm → Option (Mm)
  | 0, _, _ => none
  | k + 1, v2, x => if v2 < 0 then (some (x)) else (ckI v2 32 <| if (biand (w32 (v1 % 4294967296 / 2 ^ (v2).toNat)) (255 : Int)) = 0 then (ckR ((v2 + (-8))) <| F_X5_addBytes_3 z v0 v1 k ((v2 + (-8))) x) else (if (600 : Int) ≤ (x.1 5 v0 0) then (ckR ((v2 + (-8))) <| F_X5_addBytes_3 z v0 v1 k ((v2 + (-8))) x) else (ckI (x.1 5 v0 0) 600 <| (some (wI x 25 0 ((x.1 5 v0 0)).toNat ((biand (w32 (v1 % 4294967296 / 2 ^ (v2).toNat)) (255 : Int))))).bind fun x5 => ckR (((x5.1 5 v0 0) + (1 : Int))) <| (some (wI x5 5 v0 0 (((x5.1 5 v0 0) + (1 : Int))))).bind fun x7 => ckR ((v2 + (-8))) <| F_X5_addBytes_3 z v0 v1 k ((v2 + (-8))) x7)))
set_option maxHeartbeats 4000000 in
set_option maxRecDepth 20000 in
theorem e_X5_addBytes_3 (Θ : GC) (D : Nat → Nat → Prop) (z : Nat) (v0 : Nat) (v1 : Int) (Q : Ro → Hp → Prop) (mc ms : Nat) : ∀ (k : Nat) (v2 : Int) (x : Mm) (y), F_X5_addBytes_3 z v0 v1 k v2 x = some y → (Ev Θ mX5_addBytes 0 0 mc ms 55 [(0, vr 5 (v0 + 1)), (1, vi (v1))] [] (hq D y) Q) → Ev Θ mX5_addBytes 0 0 mc ms 3 [(0, vr 5 (v0 + 1)), (1, vi (v1)), (2, vi (v2))] [] (hq D x) Q := by
  intro k
  induction k with
  | zero => intro v2 x y h; exact absurd h (by unfold F_X5_addBytes_3; exact nofun)
  | succ k ih =>
    intro v2 x y h k1
    unfold F_X5_addBytes_3 at h
    refine Ev.iload_n (q := 2) ⟨dX5_addBytes_3, rfl⟩ rfl rfl ?_
    refine Ev.if_lt jX5_addBytes_4 (fun hc => ?_) (fun hc => ?_)
    · replace h := (if_pos hc).symm.trans h; clear hc
      refine Ev.keep [0, 1] rfl ?_
      obtain rfl := Option.some.inj h
      exact k1
    · replace h := (if_neg hc).symm.trans h; clear hc
      refine Ev.iload_n (q := 1) ⟨dX5_addBytes_7, rfl⟩ rfl rfl ?_
      refine Ev.iload_n (q := 2) ⟨dX5_addBytes_8, rfl⟩ rfl rfl ?_
      obtain ⟨c1, h⟩ := ckI_s h
      refine Ev.iushr ⟨dX5_addBytes_9, rfl⟩ c1.1 c1.2 ?_
      refine Ev.sipush ⟨dX5_addBytes_10, rfl⟩ (inRd rfl) (by decide) ?_
      refine Ev.iand ⟨dX5_addBytes_13, rfl⟩ ?_
      refine Ev.istore_n (i := 3) (ls' := [(0, _), (1, _), (2, _), (3, _)]) ⟨dX5_addBytes_14, rfl⟩ rfl (by decide) rfl ?_
      refine Ev.iload_n (q := 3) ⟨dX5_addBytes_15, rfl⟩ rfl rfl ?_
      refine Ev.if_eq jX5_addBytes_16 (fun hc => ?_) (fun hc => ?_)
      · replace h := (if_pos hc).symm.trans h; clear hc
        obtain ⟨c2, h⟩ := ckR_s h
        refine Ev.iinc (q := 2) (ls' := [(0, _), (1, _), (2, _), (3, _)]) ⟨dX5_addBytes_49, rfl⟩ rfl (by decide) c2 rfl ?_
        refine Ev.goto jX5_addBytes_52 ?_
        refine Ev.keep [0, 1, 2] rfl ?_
        exact ih _ _ _ h k1
      · replace h := (if_neg hc).symm.trans h; clear hc
        refine Ev.aload_n (q := 0) ⟨dX5_addBytes_19, rfl⟩ rfl rfl ?_
        refine Ev.getI fX5_22 (Or.inl rfl) ⟨dX5_addBytes_20, rfl⟩ ?_
        refine Ev.sipush ⟨dX5_addBytes_23, rfl⟩ (inRd rfl) (by decide) ?_
        refine Ev.icmp_ge jX5_addBytes_26 (fun hc => ?_) (fun hc => ?_)
        · replace h := (if_pos hc).symm.trans h; clear hc
          obtain ⟨c3, h⟩ := ckR_s h
          refine Ev.iinc (q := 2) (ls' := [(0, _), (1, _), (2, _), (3, _)]) ⟨dX5_addBytes_49, rfl⟩ rfl (by decide) c3 rfl ?_
          refine Ev.goto jX5_addBytes_52 ?_
          refine Ev.keep [0, 1, 2] rfl ?_
          exact ih _ _ _ h k1
        · replace h := (if_neg hc).symm.trans h; clear hc
          refine Ev.aload_n (q := 0) ⟨dX5_addBytes_29, rfl⟩ rfl rfl ?_
          refine Ev.getRk (C2 := 25) (r := 0) fX5_18 rfl (by decide) (by decide) ⟨dX5_addBytes_30, rfl⟩ ?_
          refine Ev.aload_n (q := 0) ⟨dX5_addBytes_33, rfl⟩ rfl rfl ?_
          refine Ev.getI fX5_22 (Or.inl rfl) ⟨dX5_addBytes_34, rfl⟩ ?_
          refine Ev.iload_n (q := 3) ⟨dX5_addBytes_37, rfl⟩ rfl rfl ?_
          obtain ⟨c4, h⟩ := ckI_s h
          obtain ⟨x5, ex, h⟩ := bnd_s h
          refine Ev.iastore (by decide) c4.1 c4.2 ⟨dX5_addBytes_38, rfl⟩ ?_
          refine Ev.cast ?_ rfl rfl (hqI ex)
          clear ex
          refine Ev.aload_n (q := 0) ⟨dX5_addBytes_39, rfl⟩ rfl rfl ?_
          refine Ev.dup ⟨dX5_addBytes_40, rfl⟩ rfl ?_
          refine Ev.getI fX5_22 (Or.inl rfl) ⟨dX5_addBytes_41, rfl⟩ ?_
          refine Ev.iconst ⟨dX5_addBytes_44, rfl⟩ (inRd rfl) ?_
          obtain ⟨c6, h⟩ := ckR_s h
          refine Ev.iadd ⟨dX5_addBytes_45, rfl⟩ c6 ?_
          obtain ⟨x7, ex, h⟩ := bnd_s h
          refine Ev.putI fX5_22 ⟨dX5_addBytes_46, rfl⟩ ?_
          refine Ev.cast ?_ rfl rfl (hqI ex)
          clear ex
          obtain ⟨c8, h⟩ := ckR_s h
          refine Ev.iinc (q := 2) (ls' := [(0, _), (1, _), (2, _), (3, _)]) ⟨dX5_addBytes_49, rfl⟩ rfl (by decide) c8 rfl ?_
          refine Ev.goto jX5_addBytes_52 ?_
          refine Ev.keep [0, 1, 2] rfl ?_
          exact ih _ _ _ h k1
def F_X5_addBytes (z : Nat) (v0 : Nat) (v1 : Int) (x : Mm) : Option (Mm) := (F_X5_addBytes_3 z (v0) (v1) z ((24 : Int)) x).bind fun s9 => some (s9)
set_option maxHeartbeats 4000000 in
set_option maxRecDepth 20000 in
theorem c_X5_addBytes (Θ : GC) (D : Nat → Nat → Prop) (z : Nat) (v0 : Nat) (v1 : Int) (x : Mm) (y) (h : F_X5_addBytes z v0 v1 x = some y) : Cal Θ mX5_addBytes 0 0 0 0 [vr 5 (v0 + 1), vi (v1)] (hq D x) (RetN (hq D y)) := by
  refine Cal.of (by decide +kernel) rfl rfl (Nat.le_of_ble_eq_true rfl) ?_
  show Ev Θ mX5_addBytes 0 0 0 0 0 [(0, vr 5 (v0 + 1)), (1, vi (v1))] [] (hq D x) (RetN (hq D y))
  unfold F_X5_addBytes at h
  refine Ev.bipush ⟨dX5_addBytes_0, rfl⟩ (inRd rfl) (by decide) ?_
  refine Ev.istore_n (i := 2) (ls' := [(0, _), (1, _), (2, _)]) ⟨dX5_addBytes_2, rfl⟩ rfl (by decide) rfl ?_
  obtain ⟨s9, hl, h⟩ := bnd_s h
  refine e_X5_addBytes_3 Θ D z _ _ _ _ _ _ _ _ _ hl ?_
  clear hl
  obtain rfl := Option.some.inj h
  exact Ev.ret ⟨dX5_addBytes_55, rfl⟩ rfl ⟨rfl, rfl⟩

def F_X6_reset_31 (z : Nat) (v0 : Nat) : Nat → Int → Mm → Option (Mm)
  | 0, _, _ => none
  | k + 1, v1, x => if (5 : Int) ≤ v1 then (some (x)) else (ckI v1 5 <| (some (wI x 3 (5 * v0 + (v1).toNat) 0 ((0 : Int)))).bind fun x9 => ckR ((v1 + 1)) <| F_X6_reset_31 z v0 k ((v1 + 1)) x9)
set_option maxHeartbeats 4000000 in
set_option maxRecDepth 20000 in
theorem e_X6_reset_31 (Θ : GC) (D : Nat → Nat → Prop) (z : Nat) (v0 : Nat) (Q : Ro → Hp → Prop) (mc ms : Nat) : ∀ (k : Nat) (v1 : Int) (x : Mm) (y), F_X6_reset_31 z v0 k v1 x = some y → (Ev Θ mX6_reset 2 43 mc ms 52 [(0, vr 6 (v0 + 1))] [] (hq D y) Q) → Ev Θ mX6_reset 2 43 mc ms 31 [(0, vr 6 (v0 + 1)), (1, vi (v1))] [] (hq D x) Q := by
  intro k
  induction k with
  | zero => intro v1 x y h; exact absurd h (by unfold F_X6_reset_31; exact nofun)
  | succ k ih =>
    intro v1 x y h k1
    unfold F_X6_reset_31 at h
    refine Ev.iload_n (q := 1) ⟨dX6_reset_31, rfl⟩ rfl rfl ?_
    refine Ev.iconst ⟨dX6_reset_32, rfl⟩ (inRd rfl) ?_
    refine Ev.icmp_ge jX6_reset_33 (fun hc => ?_) (fun hc => ?_)
    · replace h := (if_pos hc).symm.trans h; clear hc
      refine Ev.keep [0] rfl ?_
      obtain rfl := Option.some.inj h
      exact k1
    · replace h := (if_neg hc).symm.trans h; clear hc
      refine Ev.aload_n (q := 0) ⟨dX6_reset_36, rfl⟩ rfl rfl ?_
      refine Ev.getRk (C2 := 11) (r := v0) fX6_31 rfl (by decide) (by decide) ⟨dX6_reset_37, rfl⟩ ?_
      refine Ev.iload_n (q := 1) ⟨dX6_reset_40, rfl⟩ rfl rfl ?_
      obtain ⟨c8, h⟩ := ckI_s h
      refine Ev.aaloadk (C := 3) (r := (5 * v0 + (v1).toNat)) (by decide) c8.1 c8.2 (sr11 c8) ⟨dX6_reset_41, rfl⟩ ?_
      refine Ev.iconst ⟨dX6_reset_42, rfl⟩ (inRd rfl) ?_
      obtain ⟨x9, ex, h⟩ := bnd_s h
      refine Ev.putZ fX6_57 (by decide) ⟨dX6_reset_43, rfl⟩ ?_
      refine Ev.cast ?_ rfl rfl (hqI ex)
      clear ex
      obtain ⟨c10, h⟩ := ckR_s h
      refine Ev.iinc (q := 1) (ls' := [(0, _), (1, _)]) ⟨dX6_reset_46, rfl⟩ rfl (by decide) c10 rfl ?_
      refine Ev.goto jX6_reset_49 ?_
      exact ih _ _ _ h k1
def F_X6_reset (z : Nat) (v0 : Nat) (x : Mm) : Option (Mm) := (some (wI x 6 v0 0 ((0 : Int)))).bind fun x1 => (some (wI x1 6 v0 1 ((0 : Int)))).bind fun x2 => (some (wI x2 6 v0 2 ((0 : Int)))).bind fun x3 => (F_X4_reset z (v0) x3).bind fun r5 => (F_X0_reset z ((3 * v0)) r5).bind fun r7 => (F_X6_reset_31 z (v0) z ((0 : Int)) r7).bind fun s11 => (some (wI s11 1 v0 0 ((0 : Int)))).bind fun x12 => some (x12)
set_option maxHeartbeats 4000000 in
set_option maxRecDepth 20000 in
theorem c_X6_reset (Θ : GC) (D : Nat → Nat → Prop) (z : Nat) (v0 : Nat) (x : Mm) (y) (h : F_X6_reset z v0 x = some y) : Cal Θ mX6_reset 2 43 0 0 [vr 6 (v0 + 1)] (hq D x) (RetN (hq D y)) := by
  refine Cal.of (by decide +kernel) rfl rfl (Nat.le_of_ble_eq_true rfl) ?_
  show Ev Θ mX6_reset 2 43 0 0 0 [(0, vr 6 (v0 + 1))] [] (hq D x) (RetN (hq D y))
  unfold F_X6_reset at h
  refine Ev.aload_n (q := 0) ⟨dX6_reset_0, rfl⟩ rfl rfl ?_
  refine Ev.iconst ⟨dX6_reset_1, rfl⟩ (inRd rfl) ?_
  obtain ⟨x1, ex, h⟩ := bnd_s h
  refine Ev.putI fX6_43 ⟨dX6_reset_2, rfl⟩ ?_
  refine Ev.cast ?_ rfl rfl (hqI ex)
  clear ex
  refine Ev.aload_n (q := 0) ⟨dX6_reset_5, rfl⟩ rfl rfl ?_
  refine Ev.iconst ⟨dX6_reset_6, rfl⟩ (inRd rfl) ?_
  obtain ⟨x2, ex, h⟩ := bnd_s h
  refine Ev.putI fX6_47 ⟨dX6_reset_7, rfl⟩ ?_
  refine Ev.cast ?_ rfl rfl (hqI ex)
  clear ex
  refine Ev.aload_n (q := 0) ⟨dX6_reset_10, rfl⟩ rfl rfl ?_
  refine Ev.iconst ⟨dX6_reset_11, rfl⟩ (inRd rfl) ?_
  obtain ⟨x3, ex, h⟩ := bnd_s h
  refine Ev.putI fX6_50 ⟨dX6_reset_12, rfl⟩ ?_
  refine Ev.cast ?_ rfl rfl (hqI ex)
  clear ex
  refine Ev.aload_n (q := 0) ⟨dX6_reset_15, rfl⟩ rfl rfl ?_
  refine Ev.getRk (C2 := 4) (r := v0) fX6_18 rfl (by decide) (by decide) ⟨dX6_reset_16, rfl⟩ ?_
  obtain ⟨r5, hv4, h⟩ := bnd_s h
  refine Ev.callVN (mc1 := 0) (ms1 := 0) (h1 := hq D r5) vX6_53 (c_X4_reset Θ D z _ _ _ hv4) rfl rfl (by decide) rfl ⟨by decide, by decide, Nat.le_of_eq (Nat.zero_add _), Nat.le_of_eq (Nat.zero_add _), Nat.le_of_ble_eq_true rfl⟩ ⟨dX6_reset_19, rfl⟩ ?_
  clear hv4
  refine Ev.aload_n (q := 0) ⟨dX6_reset_22, rfl⟩ rfl rfl ?_
  refine Ev.getRk (C2 := 0) (r := (3 * v0)) fX6_25 rfl (by decide) (by decide) ⟨dX6_reset_23, rfl⟩ ?_
  obtain ⟨r7, hv6, h⟩ := bnd_s h
  refine Ev.callVN (mc1 := 0) (ms1 := 0) (h1 := hq D r7) vX6_56 (c_X0_reset Θ D z _ _ _ hv6) rfl rfl (by decide) rfl ⟨by decide, by decide, Nat.le_of_eq (Nat.zero_add _), Nat.le_of_eq (Nat.zero_add _), Nat.le_of_ble_eq_true rfl⟩ ⟨dX6_reset_26, rfl⟩ ?_
  clear hv6
  refine Ev.iconst ⟨dX6_reset_29, rfl⟩ (inRd rfl) ?_
  refine Ev.istore_n (i := 1) (ls' := [(0, _), (1, _)]) ⟨dX6_reset_30, rfl⟩ rfl (by decide) rfl ?_
  obtain ⟨s11, hl, h⟩ := bnd_s h
  refine e_X6_reset_31 Θ D z _ _ _ _ _ _ _ _ hl ?_
  clear hl
  refine Ev.aload_n (q := 0) ⟨dX6_reset_52, rfl⟩ rfl rfl ?_
  refine Ev.getRk (C2 := 1) (r := v0) fX6_38 rfl (by decide) (by decide) ⟨dX6_reset_53, rfl⟩ ?_
  refine Ev.iconst ⟨dX6_reset_56, rfl⟩ (inRd rfl) ?_
  obtain ⟨x12, ex, h⟩ := bnd_s h
  refine Ev.putI fX6_61 ⟨dX6_reset_57, rfl⟩ ?_
  refine Ev.cast ?_ rfl rfl (hqI ex)
  clear ex
  obtain rfl := Option.some.inj h
  exact Ev.ret ⟨dX6_reset_60, rfl⟩ rfl ⟨rfl, rfl⟩

def F_X5_endOfRun_3 (z : Nat) (v0 : Nat) (v1 : Int) (v2 : Int) (v3 : Int) (x : Mm) : Nat → Int → Option (Int)
  | 0, _ => none
  | k + 1, v4 => if (x.1 5 v0 0) ≤ v4 then (some (v4)) else (ckI v4 600 <| if (x.1 25 0 (v4).toNat) < v2 then (some (v4)) else (ckI v4 600 <| if v3 < (x.1 25 0 (v4).toNat) then (some (v4)) else (ckR ((v4 + 1)) <| F_X5_endOfRun_3 z v0 v1 v2 v3 x k ((v4 + 1)))))
set_option maxHeartbeats 4000000 in
set_option maxRecDepth 20000 in
theorem e_X5_endOfRun_3 (Θ : GC) (D : Nat → Nat → Prop) (z : Nat) (v0 : Nat) (v1 : Int) (v2 : Int) (v3 : Int) (x : Mm) (Q : Ro → Hp → Prop) (mc ms : Nat) : ∀ (k : Nat) (v4 : Int) (y), F_X5_endOfRun_3 z v0 v1 v2 v3 x k v4 = some y → (Ev Θ mX5_endOfRun 0 0 mc ms 40 [(0, vr 5 (v0 + 1)), (1, vi (v1)), (2, vi (v2)), (3, vi (v3)), (4, vi (y))] [] (hq D x) Q) → Ev Θ mX5_endOfRun 0 0 mc ms 3 [(0, vr 5 (v0 + 1)), (1, vi (v1)), (2, vi (v2)), (3, vi (v3)), (4, vi (v4))] [] (hq D x) Q := by
  intro k
  induction k with
  | zero => intro v4 y h; exact absurd h (by unfold F_X5_endOfRun_3; exact nofun)
  | succ k ih =>
    intro v4 y h k1
    unfold F_X5_endOfRun_3 at h
    refine Ev.iload (q := 4) ⟨dX5_endOfRun_3, rfl⟩ rfl ?_
    refine Ev.aload_n (q := 0) ⟨dX5_endOfRun_5, rfl⟩ rfl rfl ?_
    refine Ev.getI fX5_22 (Or.inl rfl) ⟨dX5_endOfRun_6, rfl⟩ ?_
    refine Ev.icmp_ge jX5_endOfRun_9 (fun hc => ?_) (fun hc => ?_)
    · replace h := (if_pos hc).symm.trans h; clear hc
      obtain rfl := Option.some.inj h
      exact k1
    · replace h := (if_neg hc).symm.trans h; clear hc
      refine Ev.aload_n (q := 0) ⟨dX5_endOfRun_12, rfl⟩ rfl rfl ?_
      refine Ev.getRk (C2 := 25) (r := 0) fX5_18 rfl (by decide) (by decide) ⟨dX5_endOfRun_13, rfl⟩ ?_
      refine Ev.iload (q := 4) ⟨dX5_endOfRun_16, rfl⟩ rfl ?_
      obtain ⟨c1, h⟩ := ckI_s h
      refine Ev.iaload (by decide) c1.1 c1.2 ⟨dX5_endOfRun_18, rfl⟩ ?_
      refine Ev.iload_n (q := 2) ⟨dX5_endOfRun_19, rfl⟩ rfl rfl ?_
      refine Ev.icmp_lt jX5_endOfRun_20 (fun hc => ?_) (fun hc => ?_)
      · replace h := (if_pos hc).symm.trans h; clear hc
        obtain rfl := Option.some.inj h
        exact k1
      · replace h := (if_neg hc).symm.trans h; clear hc
        refine Ev.aload_n (q := 0) ⟨dX5_endOfRun_23, rfl⟩ rfl rfl ?_
        refine Ev.getRk (C2 := 25) (r := 0) fX5_18 rfl (by decide) (by decide) ⟨dX5_endOfRun_24, rfl⟩ ?_
        refine Ev.iload (q := 4) ⟨dX5_endOfRun_27, rfl⟩ rfl ?_
        obtain ⟨c2, h⟩ := ckI_s h
        refine Ev.iaload (by decide) c2.1 c2.2 ⟨dX5_endOfRun_29, rfl⟩ ?_
        refine Ev.iload_n (q := 3) ⟨dX5_endOfRun_30, rfl⟩ rfl rfl ?_
        refine Ev.icmp_gt jX5_endOfRun_31 (fun hc => ?_) (fun hc => ?_)
        · replace h := (if_pos hc).symm.trans h; clear hc
          obtain rfl := Option.some.inj h
          exact k1
        · replace h := (if_neg hc).symm.trans h; clear hc
          obtain ⟨c3, h⟩ := ckR_s h
          refine Ev.iinc (q := 4) (ls' := [(0, _), (1, _), (2, _), (3, _), (4, _)]) ⟨dX5_endOfRun_34, rfl⟩ rfl (by decide) c3 rfl ?_
          refine Ev.goto jX5_endOfRun_37 ?_
          exact ih _ _ h k1
def F_X5_endOfRun (z : Nat) (v0 : Nat) (v1 : Int) (v2 : Int) (v3 : Int) (x : Mm) : Option (Int) := (F_X5_endOfRun_3 z (v0) (v1) (v2) (v3) x z (v1)).bind fun s4 => some (s4)
set_option maxHeartbeats 4000000 in
set_option maxRecDepth 20000 in
theorem c_X5_endOfRun (Θ : GC) (D : Nat → Nat → Prop) (z : Nat) (v0 : Nat) (v1 : Int) (v2 : Int) (v3 : Int) (x : Mm) (y) (h : F_X5_endOfRun z v0 v1 v2 v3 x = some y) : Cal Θ mX5_endOfRun 0 0 0 0 [vr 5 (v0 + 1), vi (v1), vi (v2), vi (v3)] (hq D x) (Ret (vi y) (hq D x)) := by
  refine Cal.of (by decide +kernel) rfl rfl (Nat.le_of_ble_eq_true rfl) ?_
  show Ev Θ mX5_endOfRun 0 0 0 0 0 [(0, vr 5 (v0 + 1)), (1, vi (v1)), (2, vi (v2)), (3, vi (v3))] [] (hq D x) (Ret (vi y) (hq D x))
  unfold F_X5_endOfRun at h
  refine Ev.iload_n (q := 1) ⟨dX5_endOfRun_0, rfl⟩ rfl rfl ?_
  refine Ev.istore (i := 4) (ls' := [(0, _), (1, _), (2, _), (3, _), (4, _)]) ⟨dX5_endOfRun_1, rfl⟩ (by decide) rfl ?_
  obtain ⟨s4, hl, h⟩ := bnd_s h
  refine e_X5_endOfRun_3 Θ D z _ _ _ _ _ _ _ _ _ _ _ hl ?_
  clear hl
  refine Ev.iload (q := 4) ⟨dX5_endOfRun_40, rfl⟩ rfl ?_
  obtain rfl := Option.some.inj h
  exact Ev.ireturn (ty := .int) ⟨dX5_endOfRun_42, rfl⟩ rfl rfl ⟨rfl, rfl⟩

def F_X5_numberOfToken_23 (z : Nat) (v0 : Nat) (x : Mm) : Nat → Int → Int → Option (Int)
  | 0, _, _ => none
  | k + 1, v1, v2 => if (x.1 5 v0 5) ≤ v2 then (some (v1)) else (ckR ((v1 * (10 : Int))) <| ckI v2 600 <| ckR (((v1 * (10 : Int)) + (x.1 25 0 (v2).toNat))) <| ckR ((((v1 * (10 : Int)) + (x.1 25 0 (v2).toNat)) - (48 : Int))) <| ckR ((v2 + 1)) <| F_X5_numberOfToken_23 z v0 x k ((((v1 * (10 : Int)) + (x.1 25 0 (v2).toNat)) - (48 : Int))) ((v2 + 1)))
set_option maxHeartbeats 4000000 in
set_option maxRecDepth 20000 in
theorem e_X5_numberOfToken_23 (Θ : GC) (D : Nat → Nat → Prop) (z : Nat) (v0 : Nat) (x : Mm) (Q : Ro → Hp → Prop) (mc ms : Nat) : ∀ (k : Nat) (v1 : Int) (v2 : Int) (y), F_X5_numberOfToken_23 z v0 x k v1 v2 = some y → (Ev Θ mX5_numberOfToken 0 0 mc ms 52 [(0, vr 5 (v0 + 1)), (1, vi (y))] [] (hq D x) Q) → Ev Θ mX5_numberOfToken 0 0 mc ms 23 [(0, vr 5 (v0 + 1)), (1, vi (v1)), (2, vi (v2))] [] (hq D x) Q := by
  intro k
  induction k with
  | zero => intro v1 v2 y h; exact absurd h (by unfold F_X5_numberOfToken_23; exact nofun)
  | succ k ih =>
    intro v1 v2 y h k1
    unfold F_X5_numberOfToken_23 at h
    refine Ev.iload_n (q := 2) ⟨dX5_numberOfToken_23, rfl⟩ rfl rfl ?_
    refine Ev.aload_n (q := 0) ⟨dX5_numberOfToken_24, rfl⟩ rfl rfl ?_
    refine Ev.getI fX5_29 (Or.inl rfl) ⟨dX5_numberOfToken_25, rfl⟩ ?_
    refine Ev.icmp_ge jX5_numberOfToken_28 (fun hc => ?_) (fun hc => ?_)
    · replace h := (if_pos hc).symm.trans h; clear hc
      refine Ev.keep [0, 1] rfl ?_
      obtain rfl := Option.some.inj h
      exact k1
    · replace h := (if_neg hc).symm.trans h; clear hc
      refine Ev.iload_n (q := 1) ⟨dX5_numberOfToken_31, rfl⟩ rfl rfl ?_
      refine Ev.bipush ⟨dX5_numberOfToken_32, rfl⟩ (inRd rfl) (by decide) ?_
      obtain ⟨c2, h⟩ := ckR_s h
      refine Ev.imul ⟨dX5_numberOfToken_34, rfl⟩ c2 ?_
      refine Ev.aload_n (q := 0) ⟨dX5_numberOfToken_35, rfl⟩ rfl rfl ?_
      refine Ev.getRk (C2 := 25) (r := 0) fX5_18 rfl (by decide) (by decide) ⟨dX5_numberOfToken_36, rfl⟩ ?_
      refine Ev.iload_n (q := 2) ⟨dX5_numberOfToken_39, rfl⟩ rfl rfl ?_
      obtain ⟨c3, h⟩ := ckI_s h
      refine Ev.iaload (by decide) c3.1 c3.2 ⟨dX5_numberOfToken_40, rfl⟩ ?_
      obtain ⟨c4, h⟩ := ckR_s h
      refine Ev.iadd ⟨dX5_numberOfToken_41, rfl⟩ c4 ?_
      refine Ev.bipush ⟨dX5_numberOfToken_42, rfl⟩ (inRd rfl) (by decide) ?_
      obtain ⟨c5, h⟩ := ckR_s h
      refine Ev.isub ⟨dX5_numberOfToken_44, rfl⟩ c5 ?_
      refine Ev.istore_n (i := 1) (ls' := [(0, _), (1, _), (2, _)]) ⟨dX5_numberOfToken_45, rfl⟩ rfl (by decide) rfl ?_
      obtain ⟨c6, h⟩ := ckR_s h
      refine Ev.iinc (q := 2) (ls' := [(0, _), (1, _), (2, _)]) ⟨dX5_numberOfToken_46, rfl⟩ rfl (by decide) c6 rfl ?_
      refine Ev.goto jX5_numberOfToken_49 ?_
      exact ih _ _ _ h k1
def F_X5_numberOfToken (z : Nat) (v0 : Nat) (x : Mm) : Option (Int) := ckR (((x.1 5 v0 5) - (x.1 5 v0 4))) <| if ((x.1 5 v0 5) - (x.1 5 v0 4)) ≤ (7 : Int) then ((F_X5_numberOfToken_23 z (v0) x z ((0 : Int)) ((x.1 5 v0 4))).bind fun s7 => some (s7)) else (some ((-1 : Int)))
set_option maxHeartbeats 4000000 in
set_option maxRecDepth 20000 in
theorem c_X5_numberOfToken (Θ : GC) (D : Nat → Nat → Prop) (z : Nat) (v0 : Nat) (x : Mm) (y) (h : F_X5_numberOfToken z v0 x = some y) : Cal Θ mX5_numberOfToken 0 0 0 0 [vr 5 (v0 + 1)] (hq D x) (Ret (vi y) (hq D x)) := by
  refine Cal.of (by decide +kernel) rfl rfl (Nat.le_of_ble_eq_true rfl) ?_
  show Ev Θ mX5_numberOfToken 0 0 0 0 0 [(0, vr 5 (v0 + 1))] [] (hq D x) (Ret (vi y) (hq D x))
  unfold F_X5_numberOfToken at h
  refine Ev.aload_n (q := 0) ⟨dX5_numberOfToken_0, rfl⟩ rfl rfl ?_
  refine Ev.getI fX5_29 (Or.inl rfl) ⟨dX5_numberOfToken_1, rfl⟩ ?_
  refine Ev.aload_n (q := 0) ⟨dX5_numberOfToken_4, rfl⟩ rfl rfl ?_
  refine Ev.getI fX5_39 (Or.inl rfl) ⟨dX5_numberOfToken_5, rfl⟩ ?_
  obtain ⟨c1, h⟩ := ckR_s h
  refine Ev.isub ⟨dX5_numberOfToken_8, rfl⟩ c1 ?_
  refine Ev.bipush ⟨dX5_numberOfToken_9, rfl⟩ (inRd rfl) (by decide) ?_
  refine Ev.icmp_le jX5_numberOfToken_11 (fun hc => ?_) (fun hc => ?_)
  · replace h := (if_pos hc).symm.trans h; clear hc
    refine Ev.iconst ⟨dX5_numberOfToken_16, rfl⟩ (inRd rfl) ?_
    refine Ev.istore_n (i := 1) (ls' := [(0, _), (1, _)]) ⟨dX5_numberOfToken_17, rfl⟩ rfl (by decide) rfl ?_
    refine Ev.aload_n (q := 0) ⟨dX5_numberOfToken_18, rfl⟩ rfl rfl ?_
    refine Ev.getI fX5_39 (Or.inl rfl) ⟨dX5_numberOfToken_19, rfl⟩ ?_
    refine Ev.istore_n (i := 2) (ls' := [(0, _), (1, _), (2, _)]) ⟨dX5_numberOfToken_22, rfl⟩ rfl (by decide) rfl ?_
    obtain ⟨s7, hl, h⟩ := bnd_s h
    refine e_X5_numberOfToken_23 Θ D z _ _ _ _ _ _ _ _ _ hl ?_
    clear hl
    refine Ev.iload_n (q := 1) ⟨dX5_numberOfToken_52, rfl⟩ rfl rfl ?_
    obtain rfl := Option.some.inj h
    exact Ev.ireturn (ty := .int) ⟨dX5_numberOfToken_53, rfl⟩ rfl rfl ⟨rfl, rfl⟩
  · replace h := (if_neg hc).symm.trans h; clear hc
    refine Ev.iconst ⟨dX5_numberOfToken_14, rfl⟩ (inRd rfl) ?_
    obtain rfl := Option.some.inj h
    exact Ev.ireturn (ty := .int) ⟨dX5_numberOfToken_15, rfl⟩ rfl rfl ⟨rfl, rfl⟩

def F_X5_nextToken_128 (z : Nat) (v0 : Nat) (x : Mm) : Option (Mm) := (some (wI x 5 v0 3 ((3 : Int)))).bind fun x6 => ckR (((x6.1 5 v0 4) + (1 : Int))) <| (some (wI x6 5 v0 5 (((x6.1 5 v0 4) + (1 : Int))))).bind fun x8 => some (x8)
set_option maxHeartbeats 4000000 in
set_option maxRecDepth 20000 in
theorem e_X5_nextToken_128 (Θ : GC) (D : Nat → Nat → Prop) (z : Nat) (v0 : Nat) (x : Mm) (y) (h : F_X5_nextToken_128 z v0 x = some y) : Ev Θ mX5_nextToken 1 24 0 0 128 [(0, vr 5 (v0 + 1))] [] (hq D x) (RetN (hq D y)) := by
  unfold F_X5_nextToken_128 at h
  refine Ev.aload_n (q := 0) ⟨dX5_nextToken_128, rfl⟩ rfl rfl ?_
  refine Ev.iconst ⟨dX5_nextToken_129, rfl⟩ (inRd rfl) ?_
  obtain ⟨x6, ex, h⟩ := bnd_s h
  refine Ev.putI fX5_42 ⟨dX5_nextToken_130, rfl⟩ ?_
  refine Ev.cast ?_ rfl rfl (hqI ex)
  clear ex
  refine Ev.aload_n (q := 0) ⟨dX5_nextToken_133, rfl⟩ rfl rfl ?_
  refine Ev.aload_n (q := 0) ⟨dX5_nextToken_134, rfl⟩ rfl rfl ?_
  refine Ev.getI fX5_39 (Or.inl rfl) ⟨dX5_nextToken_135, rfl⟩ ?_
  refine Ev.iconst ⟨dX5_nextToken_138, rfl⟩ (inRd rfl) ?_
  obtain ⟨c7, h⟩ := ckR_s h
  refine Ev.iadd ⟨dX5_nextToken_139, rfl⟩ c7 ?_
  obtain ⟨x8, ex, h⟩ := bnd_s h
  refine Ev.putI fX5_29 ⟨dX5_nextToken_140, rfl⟩ ?_
  refine Ev.cast ?_ rfl rfl (hqI ex)
  clear ex
  obtain rfl := Option.some.inj h
  exact Ev.ret ⟨dX5_nextToken_143, rfl⟩ rfl ⟨rfl, rfl⟩

def F_X5_nextToken_84 (z : Nat) (v0 : Nat) (v1 : Int) (x : Mm) : Option (Mm) := if v1 < (48 : Int) then (F_X5_nextToken_128 z (v0) x) else (if (57 : Int) < v1 then (F_X5_nextToken_128 z (v0) x) else ((some (wI x 5 v0 3 ((2 : Int)))).bind fun x9 => (F_X5_endOfRun z (v0) ((x9.1 5 v0 4)) ((48 : Int)) ((57 : Int)) x9).bind fun r11 => (some (wI x9 5 v0 5 (r11))).bind fun x12 => (F_X5_numberOfToken z (v0) x12).bind fun r14 => (some (wI x12 5 v0 6 (r14))).bind fun x15 => some (x15)))
set_option maxHeartbeats 4000000 in
set_option maxRecDepth 20000 in
theorem e_X5_nextToken_84 (Θ : GC) (D : Nat → Nat → Prop) (z : Nat) (v0 : Nat) (v1 : Int) (x : Mm) (y) (h : F_X5_nextToken_84 z v0 v1 x = some y) : Ev Θ mX5_nextToken 1 24 0 0 84 [(0, vr 5 (v0 + 1)), (1, vi (v1))] [] (hq D x) (RetN (hq D y)) := by
  unfold F_X5_nextToken_84 at h
  refine Ev.iload_n (q := 1) ⟨dX5_nextToken_84, rfl⟩ rfl rfl ?_
  refine Ev.bipush ⟨dX5_nextToken_85, rfl⟩ (inRd rfl) (by decide) ?_
  refine Ev.icmp_lt jX5_nextToken_87 (fun hc => ?_) (fun hc => ?_)
  · replace h := (if_pos hc).symm.trans h; clear hc
    refine Ev.keep [0] rfl ?_
    exact e_X5_nextToken_128 Θ D z _ _ _ h
  · replace h := (if_neg hc).symm.trans h; clear hc
    refine Ev.iload_n (q := 1) ⟨dX5_nextToken_90, rfl⟩ rfl rfl ?_
    refine Ev.bipush ⟨dX5_nextToken_91, rfl⟩ (inRd rfl) (by decide) ?_
    refine Ev.icmp_gt jX5_nextToken_93 (fun hc => ?_) (fun hc => ?_)
    · replace h := (if_pos hc).symm.trans h; clear hc
      refine Ev.keep [0] rfl ?_
      exact e_X5_nextToken_128 Θ D z _ _ _ h
    · replace h := (if_neg hc).symm.trans h; clear hc
      refine Ev.aload_n (q := 0) ⟨dX5_nextToken_96, rfl⟩ rfl rfl ?_
      refine Ev.iconst ⟨dX5_nextToken_97, rfl⟩ (inRd rfl) ?_
      obtain ⟨x9, ex, h⟩ := bnd_s h
      refine Ev.putI fX5_42 ⟨dX5_nextToken_98, rfl⟩ ?_
      refine Ev.cast ?_ rfl rfl (hqI ex)
      clear ex
      refine Ev.aload_n (q := 0) ⟨dX5_nextToken_101, rfl⟩ rfl rfl ?_
      refine Ev.aload_n (q := 0) ⟨dX5_nextToken_102, rfl⟩ rfl rfl ?_
      refine Ev.aload_n (q := 0) ⟨dX5_nextToken_103, rfl⟩ rfl rfl ?_
      refine Ev.getI fX5_39 (Or.inl rfl) ⟨dX5_nextToken_104, rfl⟩ ?_
      refine Ev.bipush ⟨dX5_nextToken_107, rfl⟩ (inRd rfl) (by decide) ?_
      refine Ev.bipush ⟨dX5_nextToken_109, rfl⟩ (inRd rfl) (by decide) ?_
      obtain ⟨r11, hv10, h⟩ := bnd_s h
      refine Ev.callV1 (mc1 := 0) (ms1 := 0) (v := vi r11) (h1 := hq D x9) vX5_155 (c_X5_endOfRun Θ D z _ _ _ _ _ _ hv10) rfl rfl (by decide) rfl ⟨by decide, by decide, Nat.le_of_eq (Nat.zero_add _), Nat.le_of_eq (Nat.zero_add _), Nat.le_of_ble_eq_true rfl⟩ ⟨dX5_nextToken_111, rfl⟩ ?_
      clear hv10
      obtain ⟨x12, ex, h⟩ := bnd_s h
      refine Ev.putI fX5_29 ⟨dX5_nextToken_114, rfl⟩ ?_
      refine Ev.cast ?_ rfl rfl (hqI ex)
      clear ex
      refine Ev.aload_n (q := 0) ⟨dX5_nextToken_117, rfl⟩ rfl rfl ?_
      refine Ev.aload_n (q := 0) ⟨dX5_nextToken_118, rfl⟩ rfl rfl ?_
      obtain ⟨r14, hv13, h⟩ := bnd_s h
      refine Ev.callV1 (mc1 := 0) (ms1 := 0) (v := vi r14) (h1 := hq D x12) vX5_159 (c_X5_numberOfToken Θ D z _ _ _ hv13) rfl rfl (by decide) rfl ⟨by decide, by decide, Nat.le_of_eq (Nat.zero_add _), Nat.le_of_eq (Nat.zero_add _), Nat.le_of_ble_eq_true rfl⟩ ⟨dX5_nextToken_119, rfl⟩ ?_
      clear hv13
      obtain ⟨x15, ex, h⟩ := bnd_s h
      refine Ev.putI fX5_98 ⟨dX5_nextToken_122, rfl⟩ ?_
      refine Ev.cast ?_ rfl rfl (hqI ex)
      clear ex
      refine Ev.goto jX5_nextToken_125 ?_
      obtain rfl := Option.some.inj h
      exact Ev.ret ⟨dX5_nextToken_143, rfl⟩ rfl ⟨rfl, rfl⟩
def F_X5_nextToken (z : Nat) (v0 : Nat) (x : Mm) : Option (Mm) := (F_X5_endOfRun z (v0) ((x.1 5 v0 5)) ((32 : Int)) ((32 : Int)) x).bind fun r2 => (some (wI x 5 v0 4 (r2))).bind fun x3 => (some (wI x3 5 v0 6 ((-1 : Int)))).bind fun x4 => if (x4.1 5 v0 4) < (x4.1 5 v0 0) then (ckI (x4.1 5 v0 4) 600 <| if (x4.1 25 0 ((x4.1 5 v0 4)).toNat) < (97 : Int) then (F_X5_nextToken_84 z (v0) ((x4.1 25 0 ((x4.1 5 v0 4)).toNat)) x4) else (if (122 : Int) < (x4.1 25 0 ((x4.1 5 v0 4)).toNat) then (F_X5_nextToken_84 z (v0) ((x4.1 25 0 ((x4.1 5 v0 4)).toNat)) x4) else ((some (wI x4 5 v0 3 ((1 : Int)))).bind fun x16 => (F_X5_endOfRun z (v0) ((x16.1 5 v0 4)) ((97 : Int)) ((122 : Int)) x16).bind fun r18 => (some (wI x16 5 v0 5 (r18))).bind fun x19 => some (x19)))) else ((some (wI x4 5 v0 3 ((0 : Int)))).bind fun x20 => some (x20))
set_option maxHeartbeats 4000000 in
set_option maxRecDepth 20000 in
theorem c_X5_nextToken (Θ : GC) (D : Nat → Nat → Prop) (z : Nat) (v0 : Nat) (x : Mm) (y) (h : F_X5_nextToken z v0 x = some y) : Cal Θ mX5_nextToken 1 24 0 0 [vr 5 (v0 + 1)] (hq D x) (RetN (hq D y)) := by
  refine Cal.of (by decide +kernel) rfl rfl (Nat.le_of_ble_eq_true rfl) ?_
  show Ev Θ mX5_nextToken 1 24 0 0 0 [(0, vr 5 (v0 + 1))] [] (hq D x) (RetN (hq D y))
  unfold F_X5_nextToken at h
  refine Ev.aload_n (q := 0) ⟨dX5_nextToken_0, rfl⟩ rfl rfl ?_
  refine Ev.aload_n (q := 0) ⟨dX5_nextToken_1, rfl⟩ rfl rfl ?_
  refine Ev.aload_n (q := 0) ⟨dX5_nextToken_2, rfl⟩ rfl rfl ?_
  refine Ev.getI fX5_29 (Or.inl rfl) ⟨dX5_nextToken_3, rfl⟩ ?_
  refine Ev.bipush ⟨dX5_nextToken_6, rfl⟩ (inRd rfl) (by decide) ?_
  refine Ev.bipush ⟨dX5_nextToken_8, rfl⟩ (inRd rfl) (by decide) ?_
  obtain ⟨r2, hv1, h⟩ := bnd_s h
  refine Ev.callV1 (mc1 := 0) (ms1 := 0) (v := vi r2) (h1 := hq D x) vX5_155 (c_X5_endOfRun Θ D z _ _ _ _ _ _ hv1) rfl rfl (by decide) rfl ⟨by decide, by decide, Nat.le_of_eq (Nat.zero_add _), Nat.le_of_eq (Nat.zero_add _), Nat.le_of_ble_eq_true rfl⟩ ⟨dX5_nextToken_10, rfl⟩ ?_
  clear hv1
  obtain ⟨x3, ex, h⟩ := bnd_s h
  refine Ev.putI fX5_39 ⟨dX5_nextToken_13, rfl⟩ ?_
  refine Ev.cast ?_ rfl rfl (hqI ex)
  clear ex
  refine Ev.aload_n (q := 0) ⟨dX5_nextToken_16, rfl⟩ rfl rfl ?_
  refine Ev.iconst ⟨dX5_nextToken_17, rfl⟩ (inRd rfl) ?_
  obtain ⟨x4, ex, h⟩ := bnd_s h
  refine Ev.putI fX5_98 ⟨dX5_nextToken_18, rfl⟩ ?_
  refine Ev.cast ?_ rfl rfl (hqI ex)
  clear ex
  refine Ev.aload_n (q := 0) ⟨dX5_nextToken_21, rfl⟩ rfl rfl ?_
  refine Ev.getI fX5_39 (Or.inl rfl) ⟨dX5_nextToken_22, rfl⟩ ?_
  refine Ev.aload_n (q := 0) ⟨dX5_nextToken_25, rfl⟩ rfl rfl ?_
  refine Ev.getI fX5_22 (Or.inl rfl) ⟨dX5_nextToken_26, rfl⟩ ?_
  refine Ev.icmp_lt jX5_nextToken_29 (fun hc => ?_) (fun hc => ?_)
  · replace h := (if_pos hc).symm.trans h; clear hc
    refine Ev.aload_n (q := 0) ⟨dX5_nextToken_38, rfl⟩ rfl rfl ?_
    refine Ev.getRk (C2 := 25) (r := 0) fX5_18 rfl (by decide) (by decide) ⟨dX5_nextToken_39, rfl⟩ ?_
    refine Ev.aload_n (q := 0) ⟨dX5_nextToken_42, rfl⟩ rfl rfl ?_
    refine Ev.getI fX5_39 (Or.inl rfl) ⟨dX5_nextToken_43, rfl⟩ ?_
    obtain ⟨c5, h⟩ := ckI_s h
    refine Ev.iaload (by decide) c5.1 c5.2 ⟨dX5_nextToken_46, rfl⟩ ?_
    refine Ev.istore_n (i := 1) (ls' := [(0, _), (1, _)]) ⟨dX5_nextToken_47, rfl⟩ rfl (by decide) rfl ?_
    refine Ev.iload_n (q := 1) ⟨dX5_nextToken_48, rfl⟩ rfl rfl ?_
    refine Ev.bipush ⟨dX5_nextToken_49, rfl⟩ (inRd rfl) (by decide) ?_
    refine Ev.icmp_lt jX5_nextToken_51 (fun hc => ?_) (fun hc => ?_)
    · replace h := (if_pos hc).symm.trans h; clear hc
      exact e_X5_nextToken_84 Θ D z _ _ _ _ h
    · replace h := (if_neg hc).symm.trans h; clear hc
      refine Ev.iload_n (q := 1) ⟨dX5_nextToken_54, rfl⟩ rfl rfl ?_
      refine Ev.bipush ⟨dX5_nextToken_55, rfl⟩ (inRd rfl) (by decide) ?_
      refine Ev.icmp_gt jX5_nextToken_57 (fun hc => ?_) (fun hc => ?_)
      · replace h := (if_pos hc).symm.trans h; clear hc
        exact e_X5_nextToken_84 Θ D z _ _ _ _ h
      · replace h := (if_neg hc).symm.trans h; clear hc
        refine Ev.aload_n (q := 0) ⟨dX5_nextToken_60, rfl⟩ rfl rfl ?_
        refine Ev.iconst ⟨dX5_nextToken_61, rfl⟩ (inRd rfl) ?_
        obtain ⟨x16, ex, h⟩ := bnd_s h
        refine Ev.putI fX5_42 ⟨dX5_nextToken_62, rfl⟩ ?_
        refine Ev.cast ?_ rfl rfl (hqI ex)
        clear ex
        refine Ev.aload_n (q := 0) ⟨dX5_nextToken_65, rfl⟩ rfl rfl ?_
        refine Ev.aload_n (q := 0) ⟨dX5_nextToken_66, rfl⟩ rfl rfl ?_
        refine Ev.aload_n (q := 0) ⟨dX5_nextToken_67, rfl⟩ rfl rfl ?_
        refine Ev.getI fX5_39 (Or.inl rfl) ⟨dX5_nextToken_68, rfl⟩ ?_
        refine Ev.bipush ⟨dX5_nextToken_71, rfl⟩ (inRd rfl) (by decide) ?_
        refine Ev.bipush ⟨dX5_nextToken_73, rfl⟩ (inRd rfl) (by decide) ?_
        obtain ⟨r18, hv17, h⟩ := bnd_s h
        refine Ev.callV1 (mc1 := 0) (ms1 := 0) (v := vi r18) (h1 := hq D x16) vX5_155 (c_X5_endOfRun Θ D z _ _ _ _ _ _ hv17) rfl rfl (by decide) rfl ⟨by decide, by decide, Nat.le_of_eq (Nat.zero_add _), Nat.le_of_eq (Nat.zero_add _), Nat.le_of_ble_eq_true rfl⟩ ⟨dX5_nextToken_75, rfl⟩ ?_
        clear hv17
        obtain ⟨x19, ex, h⟩ := bnd_s h
        refine Ev.putI fX5_29 ⟨dX5_nextToken_78, rfl⟩ ?_
        refine Ev.cast ?_ rfl rfl (hqI ex)
        clear ex
        refine Ev.goto jX5_nextToken_81 ?_
        obtain rfl := Option.some.inj h
        exact Ev.ret ⟨dX5_nextToken_143, rfl⟩ rfl ⟨rfl, rfl⟩
  · replace h := (if_neg hc).symm.trans h; clear hc
    refine Ev.aload_n (q := 0) ⟨dX5_nextToken_32, rfl⟩ rfl rfl ?_
    refine Ev.iconst ⟨dX5_nextToken_33, rfl⟩ (inRd rfl) ?_
    obtain ⟨x20, ex, h⟩ := bnd_s h
    refine Ev.putI fX5_42 ⟨dX5_nextToken_34, rfl⟩ ?_
    refine Ev.cast ?_ rfl rfl (hqI ex)
    clear ex
    obtain rfl := Option.some.inj h
    exact Ev.ret ⟨dX5_nextToken_37, rfl⟩ rfl ⟨rfl, rfl⟩

def F_X5_isWord_28 (z : Nat) (v0 : Nat) (v1 : Nat) (x : Mm) : Nat → Int → Option ((Unit) ⊕ (Int))
  | 0, _ => none
  | k + 1, v2 => ckK v1 <| if ((wby v1).length : Int) ≤ v2 then (some (.inl ())) else (ckR (((x.1 5 v0 4) + v2)) <| ckI ((x.1 5 v0 4) + v2) 600 <| ckK v1 <| ckI v2 (wby v1).length <| if (x.1 25 0 (((x.1 5 v0 4) + v2)).toNat) = ((wby v1).getD (v2).toNat 0) then (ckR ((v2 + 1)) <| F_X5_isWord_28 z v0 v1 x k ((v2 + 1))) else (some (.inr (0 : Int))))
set_option maxHeartbeats 4000000 in
set_option maxRecDepth 20000 in
theorem e_X5_isWord_28 (Θ : GC) (D : Nat → Nat → Prop) (z : Nat) (v0 : Nat) (v1 : Nat) (x : Mm) (Q : Ro → Hp → Prop) (mc ms : Nat) : ∀ (k : Nat) (v2 : Int) (y), F_X5_isWord_28 z v0 v1 x k v2 = some y → (∀ s, y = .inl s → Ev Θ mX5_isWord 4 85 mc ms 63 [(0, vr 5 (v0 + 1)), (1, vt (v1))] [] (hq D x) Q) → (∀ r, y = .inr r → Q (.inl (some (vi r))) (hq D x)) → Ev Θ mX5_isWord 4 85 mc ms 28 [(0, vr 5 (v0 + 1)), (1, vt (v1)), (2, vi (v2))] [] (hq D x) Q := by
  intro k
  induction k with
  | zero => intro v2 y h; exact absurd h (by unfold F_X5_isWord_28; exact nofun)
  | succ k ih =>
    intro v2 y h k1 k2
    unfold F_X5_isWord_28 at h
    refine Ev.iload_n (q := 2) ⟨dX5_isWord_28, rfl⟩ rfl rfl ?_
    refine Ev.aloadt_n (q := 1) ⟨dX5_isWord_29, rfl⟩ rfl rfl ?_
    obtain ⟨c3, h⟩ := ckK_s h
    refine Ev.callT1 (mc1 := mc) (ms1 := ms) (v := vi ((wby v1).length : Int)) (h1 := hq D x) vX5_147 (c_J0_length_8abf5 Θ _ _ c3) rfl c3 rfl ⟨by decide, by decide, Nat.le_of_eq (Nat.zero_add _), Nat.le_of_eq (Nat.zero_add _), Nat.le_of_ble_eq_true rfl⟩ ⟨dX5_isWord_30, rfl⟩ ?_
    refine Ev.icmp_ge jX5_isWord_33 (fun hc => ?_) (fun hc => ?_)
    · replace h := (if_pos hc).symm.trans h; clear hc
      refine Ev.keep [0, 1] rfl ?_
      obtain rfl := Option.some.inj h
      exact k1 _ rfl
    · replace h := (if_neg hc).symm.trans h; clear hc
      refine Ev.aload_n (q := 0) ⟨dX5_isWord_36, rfl⟩ rfl rfl ?_
      refine Ev.getRk (C2 := 25) (r := 0) fX5_18 rfl (by decide) (by decide) ⟨dX5_isWord_37, rfl⟩ ?_
      refine Ev.aload_n (q := 0) ⟨dX5_isWord_40, rfl⟩ rfl rfl ?_
      refine Ev.getI fX5_39 (Or.inl rfl) ⟨dX5_isWord_41, rfl⟩ ?_
      refine Ev.iload_n (q := 2) ⟨dX5_isWord_44, rfl⟩ rfl rfl ?_
      obtain ⟨c4, h⟩ := ckR_s h
      refine Ev.iadd ⟨dX5_isWord_45, rfl⟩ c4 ?_
      obtain ⟨c5, h⟩ := ckI_s h
      refine Ev.iaload (by decide) c5.1 c5.2 ⟨dX5_isWord_46, rfl⟩ ?_
      refine Ev.aloadt_n (q := 1) ⟨dX5_isWord_47, rfl⟩ rfl rfl ?_
      refine Ev.iload_n (q := 2) ⟨dX5_isWord_48, rfl⟩ rfl rfl ?_
      obtain ⟨c6, h⟩ := ckK_s h
      obtain ⟨c7, h⟩ := ckI_s h
      refine Ev.callT1 (mc1 := mc) (ms1 := ms) (v := vi ((wby v1).getD (v2).toNat 0)) (h1 := hq D x) vX5_151 (c_J0_charAt_5068e Θ _ _ c6 _ c7.1 c7.2) rfl c6 rfl ⟨by decide, by decide, Nat.le_of_eq (Nat.zero_add _), Nat.le_of_eq (Nat.zero_add _), Nat.le_of_ble_eq_true rfl⟩ ⟨dX5_isWord_49, rfl⟩ ?_
      refine Ev.icmp_eq jX5_isWord_52 (fun hc => ?_) (fun hc => ?_)
      · replace h := (if_pos hc).symm.trans h; clear hc
        obtain ⟨c8, h⟩ := ckR_s h
        refine Ev.iinc (q := 2) (ls' := [(0, _), (1, _), (2, _)]) ⟨dX5_isWord_57, rfl⟩ rfl (by decide) c8 rfl ?_
        refine Ev.goto jX5_isWord_60 ?_
        exact ih _ _ h k1 k2
      · replace h := (if_neg hc).symm.trans h; clear hc
        refine Ev.iconst ⟨dX5_isWord_55, rfl⟩ (inRd rfl) ?_
        obtain rfl := Option.some.inj h
        exact Ev.ireturn (ty := .boolean) ⟨dX5_isWord_56, rfl⟩ rfl rfl (k2 _ rfl)
def F_X5_isWord (z : Nat) (v0 : Nat) (v1 : Nat) (x : Mm) : Option (Int) := if (x.1 5 v0 3) = (1 : Int) then (ckR (((x.1 5 v0 5) - (x.1 5 v0 4))) <| ckK v1 <| if ((x.1 5 v0 5) - (x.1 5 v0 4)) = ((wby v1).length : Int) then (bndE (fun r => r) (F_X5_isWord_28 z (v0) (v1) x z ((0 : Int))) fun s9 => some ((1 : Int))) else (some ((0 : Int)))) else (some ((0 : Int)))
set_option maxHeartbeats 4000000 in
set_option maxRecDepth 20000 in
theorem c_X5_isWord (Θ : GC) (D : Nat → Nat → Prop) (z : Nat) (v0 : Nat) (v1 : Nat) (x : Mm) (y) (h : F_X5_isWord z v0 v1 x = some y) : Cal Θ mX5_isWord 4 85 0 0 [vr 5 (v0 + 1), vt (v1)] (hq D x) (Ret (vi y) (hq D x)) := by
  refine Cal.of (by decide +kernel) rfl rfl (Nat.le_of_ble_eq_true rfl) ?_
  show Ev Θ mX5_isWord 4 85 0 0 0 [(0, vr 5 (v0 + 1)), (1, vt (v1))] [] (hq D x) (Ret (vi y) (hq D x))
  unfold F_X5_isWord at h
  refine Ev.aload_n (q := 0) ⟨dX5_isWord_0, rfl⟩ rfl rfl ?_
  refine Ev.getI fX5_42 (Or.inl rfl) ⟨dX5_isWord_1, rfl⟩ ?_
  refine Ev.iconst ⟨dX5_isWord_4, rfl⟩ (inRd rfl) ?_
  refine Ev.icmp_ne jX5_isWord_5 (fun hc => ?_) (fun hc => ?_)
  · replace h := (if_neg hc).symm.trans h; clear hc
    refine Ev.iconst ⟨dX5_isWord_24, rfl⟩ (inRd rfl) ?_
    obtain rfl := Option.some.inj h
    exact Ev.ireturn (ty := .boolean) ⟨dX5_isWord_25, rfl⟩ rfl rfl ⟨rfl, rfl⟩
  · replace h := (if_pos hc).symm.trans h; clear hc
    refine Ev.aload_n (q := 0) ⟨dX5_isWord_8, rfl⟩ rfl rfl ?_
    refine Ev.getI fX5_29 (Or.inl rfl) ⟨dX5_isWord_9, rfl⟩ ?_
    refine Ev.aload_n (q := 0) ⟨dX5_isWord_12, rfl⟩ rfl rfl ?_
    refine Ev.getI fX5_39 (Or.inl rfl) ⟨dX5_isWord_13, rfl⟩ ?_
    obtain ⟨c1, h⟩ := ckR_s h
    refine Ev.isub ⟨dX5_isWord_16, rfl⟩ c1 ?_
    refine Ev.aloadt_n (q := 1) ⟨dX5_isWord_17, rfl⟩ rfl rfl ?_
    obtain ⟨c2, h⟩ := ckK_s h
    refine Ev.callT1 (mc1 := 0) (ms1 := 0) (v := vi ((wby v1).length : Int)) (h1 := hq D x) vX5_147 (c_J0_length_8abf5 Θ _ _ c2) rfl c2 rfl ⟨by decide, by decide, Nat.le_of_eq (Nat.zero_add _), Nat.le_of_eq (Nat.zero_add _), Nat.le_of_ble_eq_true rfl⟩ ⟨dX5_isWord_18, rfl⟩ ?_
    refine Ev.icmp_eq jX5_isWord_21 (fun hc => ?_) (fun hc => ?_)
    · replace h := (if_pos hc).symm.trans h; clear hc
      refine Ev.iconst ⟨dX5_isWord_26, rfl⟩ (inRd rfl) ?_
      refine Ev.istore_n (i := 2) (ls' := [(0, _), (1, _), (2, _)]) ⟨dX5_isWord_27, rfl⟩ rfl (by decide) rfl ?_
      rcases bndE_s h with ⟨s9, hl, h⟩ | ⟨r1, hl, rfl⟩
      rotate_left
      · exact e_X5_isWord_28 Θ D z _ _ _ _ _ _ _ _ _ hl (fun s2 e2 => by cases e2) (fun r2 e2 => by cases e2; exact ⟨rfl, rfl⟩)
      refine e_X5_isWord_28 Θ D z _ _ _ _ _ _ _ _ _ hl (fun s2 e2 => ?_) (fun r2 e2 => by cases e2)
      cases e2
      clear hl
      refine Ev.iconst ⟨dX5_isWord_63, rfl⟩ (inRd rfl) ?_
      obtain rfl := Option.some.inj h
      exact Ev.ireturn (ty := .boolean) ⟨dX5_isWord_64, rfl⟩ rfl rfl ⟨rfl, rfl⟩
    · replace h := (if_neg hc).symm.trans h; clear hc
      refine Ev.iconst ⟨dX5_isWord_24, rfl⟩ (inRd rfl) ?_
      obtain rfl := Option.some.inj h
      exact Ev.ireturn (ty := .boolean) ⟨dX5_isWord_25, rfl⟩ rfl rfl ⟨rfl, rfl⟩

def F_X5_ruleOfWord (z : Nat) (v0 : Nat) (x : Mm) : Option (Int) := (F_X5_isWord z (v0) (1) x).bind fun r2 => if r2 = 0 then ((F_X5_isWord z (v0) (2) x).bind fun r4 => if r4 = 0 then ((F_X5_isWord z (v0) (3) x).bind fun r6 => if r6 = 0 then ((F_X5_isWord z (v0) (4) x).bind fun r8 => if r8 = 0 then ((F_X5_isWord z (v0) (5) x).bind fun r10 => if r10 = 0 then ((F_X5_isWord z (v0) (6) x).bind fun r12 => if r12 = 0 then (some ((-1 : Int))) else (some ((5 : Int)))) else (some ((4 : Int)))) else (some ((3 : Int)))) else (some ((2 : Int)))) else (some ((1 : Int)))) else (some ((0 : Int)))
set_option maxHeartbeats 4000000 in
set_option maxRecDepth 20000 in
theorem c_X5_ruleOfWord (Θ : GC) (D : Nat → Nat → Prop) (z : Nat) (v0 : Nat) (x : Mm) (y) (h : F_X5_ruleOfWord z v0 x = some y) : Cal Θ mX5_ruleOfWord 5 107 0 0 [vr 5 (v0 + 1)] (hq D x) (Ret (vi y) (hq D x)) := by
  refine Cal.of (by decide +kernel) rfl rfl (Nat.le_of_ble_eq_true rfl) ?_
  show Ev Θ mX5_ruleOfWord 5 107 0 0 0 [(0, vr 5 (v0 + 1))] [] (hq D x) (Ret (vi y) (hq D x))
  unfold F_X5_ruleOfWord at h
  refine Ev.aload_n (q := 0) ⟨dX5_ruleOfWord_0, rfl⟩ rfl rfl ?_
  refine Ev.ldcT (k := 1) (tx := "sum") (by decide) ⟨dX5_ruleOfWord_1, rfl⟩ ?_
  obtain ⟨r2, hv1, h⟩ := bnd_s h
  refine Ev.callV1 (mc1 := 0) (ms1 := 0) (v := vi r2) (h1 := hq D x) vX5_51 (c_X5_isWord Θ D z _ _ _ _ hv1) rfl rfl (by decide) rfl ⟨by decide, by decide, Nat.le_of_eq (Nat.zero_add _), Nat.le_of_eq (Nat.zero_add _), Nat.le_of_ble_eq_true rfl⟩ ⟨dX5_ruleOfWord_3, rfl⟩ ?_
  clear hv1
  refine Ev.if_eq jX5_ruleOfWord_6 (fun hc => ?_) (fun hc => ?_)
  · replace h := (if_pos hc).symm.trans h; clear hc
    refine Ev.aload_n (q := 0) ⟨dX5_ruleOfWord_11, rfl⟩ rfl rfl ?_
    refine Ev.ldcT (k := 2) (tx := "max") (by decide) ⟨dX5_ruleOfWord_12, rfl⟩ ?_
    obtain ⟨r4, hv3, h⟩ := bnd_s h
    refine Ev.callV1 (mc1 := 0) (ms1 := 0) (v := vi r4) (h1 := hq D x) vX5_51 (c_X5_isWord Θ D z _ _ _ _ hv3) rfl rfl (by decide) rfl ⟨by decide, by decide, Nat.le_of_eq (Nat.zero_add _), Nat.le_of_eq (Nat.zero_add _), Nat.le_of_ble_eq_true rfl⟩ ⟨dX5_ruleOfWord_14, rfl⟩ ?_
    clear hv3
    refine Ev.if_eq jX5_ruleOfWord_17 (fun hc => ?_) (fun hc => ?_)
    · replace h := (if_pos hc).symm.trans h; clear hc
      refine Ev.aload_n (q := 0) ⟨dX5_ruleOfWord_22, rfl⟩ rfl rfl ?_
      refine Ev.ldcT (k := 3) (tx := "min") (by decide) ⟨dX5_ruleOfWord_23, rfl⟩ ?_
      obtain ⟨r6, hv5, h⟩ := bnd_s h
      refine Ev.callV1 (mc1 := 0) (ms1 := 0) (v := vi r6) (h1 := hq D x) vX5_51 (c_X5_isWord Θ D z _ _ _ _ hv5) rfl rfl (by decide) rfl ⟨by decide, by decide, Nat.le_of_eq (Nat.zero_add _), Nat.le_of_eq (Nat.zero_add _), Nat.le_of_ble_eq_true rfl⟩ ⟨dX5_ruleOfWord_25, rfl⟩ ?_
      clear hv5
      refine Ev.if_eq jX5_ruleOfWord_28 (fun hc => ?_) (fun hc => ?_)
      · replace h := (if_pos hc).symm.trans h; clear hc
        refine Ev.aload_n (q := 0) ⟨dX5_ruleOfWord_33, rfl⟩ rfl rfl ?_
        refine Ev.ldcT (k := 4) (tx := "bits") (by decide) ⟨dX5_ruleOfWord_34, rfl⟩ ?_
        obtain ⟨r8, hv7, h⟩ := bnd_s h
        refine Ev.callV1 (mc1 := 0) (ms1 := 0) (v := vi r8) (h1 := hq D x) vX5_51 (c_X5_isWord Θ D z _ _ _ _ hv7) rfl rfl (by decide) rfl ⟨by decide, by decide, Nat.le_of_eq (Nat.zero_add _), Nat.le_of_eq (Nat.zero_add _), Nat.le_of_ble_eq_true rfl⟩ ⟨dX5_ruleOfWord_36, rfl⟩ ?_
        clear hv7
        refine Ev.if_eq jX5_ruleOfWord_39 (fun hc => ?_) (fun hc => ?_)
        · replace h := (if_pos hc).symm.trans h; clear hc
          refine Ev.aload_n (q := 0) ⟨dX5_ruleOfWord_44, rfl⟩ rfl rfl ?_
          refine Ev.ldcT (k := 5) (tx := "first") (by decide) ⟨dX5_ruleOfWord_45, rfl⟩ ?_
          obtain ⟨r10, hv9, h⟩ := bnd_s h
          refine Ev.callV1 (mc1 := 0) (ms1 := 0) (v := vi r10) (h1 := hq D x) vX5_51 (c_X5_isWord Θ D z _ _ _ _ hv9) rfl rfl (by decide) rfl ⟨by decide, by decide, Nat.le_of_eq (Nat.zero_add _), Nat.le_of_eq (Nat.zero_add _), Nat.le_of_ble_eq_true rfl⟩ ⟨dX5_ruleOfWord_47, rfl⟩ ?_
          clear hv9
          refine Ev.if_eq jX5_ruleOfWord_50 (fun hc => ?_) (fun hc => ?_)
          · replace h := (if_pos hc).symm.trans h; clear hc
            refine Ev.aload_n (q := 0) ⟨dX5_ruleOfWord_55, rfl⟩ rfl rfl ?_
            refine Ev.ldcT (k := 6) (tx := "last") (by decide) ⟨dX5_ruleOfWord_56, rfl⟩ ?_
            obtain ⟨r12, hv11, h⟩ := bnd_s h
            refine Ev.callV1 (mc1 := 0) (ms1 := 0) (v := vi r12) (h1 := hq D x) vX5_51 (c_X5_isWord Θ D z _ _ _ _ hv11) rfl rfl (by decide) rfl ⟨by decide, by decide, Nat.le_of_eq (Nat.zero_add _), Nat.le_of_eq (Nat.zero_add _), Nat.le_of_ble_eq_true rfl⟩ ⟨dX5_ruleOfWord_58, rfl⟩ ?_
            clear hv11
            refine Ev.if_eq jX5_ruleOfWord_61 (fun hc => ?_) (fun hc => ?_)
            · replace h := (if_pos hc).symm.trans h; clear hc
              refine Ev.iconst ⟨dX5_ruleOfWord_68, rfl⟩ (inRd rfl) ?_
              obtain rfl := Option.some.inj h
              exact Ev.ireturn (ty := .int) ⟨dX5_ruleOfWord_69, rfl⟩ rfl rfl ⟨rfl, rfl⟩
            · replace h := (if_neg hc).symm.trans h; clear hc
              refine Ev.iconst ⟨dX5_ruleOfWord_64, rfl⟩ (inRd rfl) ?_
              refine Ev.goto jX5_ruleOfWord_65 ?_
              obtain rfl := Option.some.inj h
              exact Ev.ireturn (ty := .int) ⟨dX5_ruleOfWord_69, rfl⟩ rfl rfl ⟨rfl, rfl⟩
          · replace h := (if_neg hc).symm.trans h; clear hc
            refine Ev.iconst ⟨dX5_ruleOfWord_53, rfl⟩ (inRd rfl) ?_
            obtain rfl := Option.some.inj h
            exact Ev.ireturn (ty := .int) ⟨dX5_ruleOfWord_54, rfl⟩ rfl rfl ⟨rfl, rfl⟩
        · replace h := (if_neg hc).symm.trans h; clear hc
          refine Ev.iconst ⟨dX5_ruleOfWord_42, rfl⟩ (inRd rfl) ?_
          obtain rfl := Option.some.inj h
          exact Ev.ireturn (ty := .int) ⟨dX5_ruleOfWord_43, rfl⟩ rfl rfl ⟨rfl, rfl⟩
      · replace h := (if_neg hc).symm.trans h; clear hc
        refine Ev.iconst ⟨dX5_ruleOfWord_31, rfl⟩ (inRd rfl) ?_
        obtain rfl := Option.some.inj h
        exact Ev.ireturn (ty := .int) ⟨dX5_ruleOfWord_32, rfl⟩ rfl rfl ⟨rfl, rfl⟩
    · replace h := (if_neg hc).symm.trans h; clear hc
      refine Ev.iconst ⟨dX5_ruleOfWord_20, rfl⟩ (inRd rfl) ?_
      obtain rfl := Option.some.inj h
      exact Ev.ireturn (ty := .int) ⟨dX5_ruleOfWord_21, rfl⟩ rfl rfl ⟨rfl, rfl⟩
  · replace h := (if_neg hc).symm.trans h; clear hc
    refine Ev.iconst ⟨dX5_ruleOfWord_9, rfl⟩ (inRd rfl) ?_
    obtain rfl := Option.some.inj h
    exact Ev.ireturn (ty := .int) ⟨dX5_ruleOfWord_10, rfl⟩ rfl rfl ⟨rfl, rfl⟩

def F_X5_readField (z : Nat) (v0 : Nat) (x : Mm) : Option (Int × Mm) := if (x.1 6 10 1) < (6 : Int) then ((F_X5_nextToken z (v0) x).bind fun r2 => (F_X5_ruleOfWord z (v0) r2).bind fun r4 => if r4 = (-1 : Int) then (some (((0 : Int), r2))) else (ckI (r2.1 6 10 1) 6 <| (some (wI r2 20 10 ((r2.1 6 10 1)).toNat (r4))).bind fun x6 => ckR (((x6.1 6 10 1) + (1 : Int))) <| (some (wI x6 6 10 1 (((x6.1 6 10 1) + (1 : Int))))).bind fun x8 => (F_X5_nextToken z (v0) x8).bind fun r10 => some (((1 : Int), r10)))) else (some (((0 : Int), x)))
set_option maxHeartbeats 4000000 in
set_option maxRecDepth 20000 in
theorem c_X5_readField (Θ : GC) (D : Nat → Nat → Prop) (z : Nat) (v0 : Nat) (x : Mm) (y) (h : F_X5_readField z v0 x = some y) : Cal Θ mX5_readField 6 127 0 0 [vr 5 (v0 + 1)] (hq D x) (Ret (vi y.1) (hq D y.2)) := by
  refine Cal.of (by decide +kernel) rfl rfl (Nat.le_of_ble_eq_true rfl) ?_
  show Ev Θ mX5_readField 6 127 0 0 0 [(0, vr 5 (v0 + 1))] [] (hq D x) (Ret (vi y.1) (hq D y.2))
  unfold F_X5_readField at h
  refine Ev.aload_n (q := 0) ⟨dX5_readField_0, rfl⟩ rfl rfl ?_
  refine Ev.getRk (C2 := 6) (r := 10) fX5_12 rfl (by decide) (by decide) ⟨dX5_readField_1, rfl⟩ ?_
  refine Ev.getI fX5_76 (Or.inl rfl) ⟨dX5_readField_4, rfl⟩ ?_
  refine Ev.bipush ⟨dX5_readField_7, rfl⟩ (inRd rfl) (by decide) ?_
  refine Ev.icmp_lt jX5_readField_9 (fun hc => ?_) (fun hc => ?_)
  · replace h := (if_pos hc).symm.trans h; clear hc
    refine Ev.aload_n (q := 0) ⟨dX5_readField_14, rfl⟩ rfl rfl ?_
    obtain ⟨r2, hv1, h⟩ := bnd_s h
    refine Ev.callVN (mc1 := 0) (ms1 := 0) (h1 := hq D r2) vX5_32 (c_X5_nextToken Θ D z _ _ _ hv1) rfl rfl (by decide) rfl ⟨by decide, by decide, Nat.le_of_eq (Nat.zero_add _), Nat.le_of_eq (Nat.zero_add _), Nat.le_of_ble_eq_true rfl⟩ ⟨dX5_readField_15, rfl⟩ ?_
    clear hv1
    refine Ev.aload_n (q := 0) ⟨dX5_readField_18, rfl⟩ rfl rfl ?_
    obtain ⟨r4, hv3, h⟩ := bnd_s h
    refine Ev.callV1 (mc1 := 0) (ms1 := 0) (v := vi r4) (h1 := hq D r2) vX5_79 (c_X5_ruleOfWord Θ D z _ _ _ hv3) rfl rfl (by decide) rfl ⟨by decide, by decide, Nat.le_of_eq (Nat.zero_add _), Nat.le_of_eq (Nat.zero_add _), Nat.le_of_ble_eq_true rfl⟩ ⟨dX5_readField_19, rfl⟩ ?_
    clear hv3
    refine Ev.istore_n (i := 1) (ls' := [(0, _), (1, _)]) ⟨dX5_readField_22, rfl⟩ rfl (by decide) rfl ?_
    refine Ev.iload_n (q := 1) ⟨dX5_readField_23, rfl⟩ rfl rfl ?_
    refine Ev.iconst ⟨dX5_readField_24, rfl⟩ (inRd rfl) ?_
    refine Ev.icmp_ne jX5_readField_25 (fun hc => ?_) (fun hc => ?_)
    · replace h := (if_neg hc).symm.trans h; clear hc
      refine Ev.aload_n (q := 0) ⟨dX5_readField_30, rfl⟩ rfl rfl ?_
      refine Ev.getRk (C2 := 6) (r := 10) fX5_12 rfl (by decide) (by decide) ⟨dX5_readField_31, rfl⟩ ?_
      refine Ev.getRk (C2 := 20) (r := 10) fX5_83 rfl (by decide) (by decide) ⟨dX5_readField_34, rfl⟩ ?_
      refine Ev.aload_n (q := 0) ⟨dX5_readField_37, rfl⟩ rfl rfl ?_
      refine Ev.getRk (C2 := 6) (r := 10) fX5_12 rfl (by decide) (by decide) ⟨dX5_readField_38, rfl⟩ ?_
      refine Ev.getI fX5_76 (Or.inl rfl) ⟨dX5_readField_41, rfl⟩ ?_
      refine Ev.iload_n (q := 1) ⟨dX5_readField_44, rfl⟩ rfl rfl ?_
      obtain ⟨c5, h⟩ := ckI_s h
      obtain ⟨x6, ex, h⟩ := bnd_s h
      refine Ev.iastore (by decide) c5.1 c5.2 ⟨dX5_readField_45, rfl⟩ ?_
      refine Ev.cast ?_ rfl rfl (hqI ex)
      clear ex
      refine Ev.aload_n (q := 0) ⟨dX5_readField_46, rfl⟩ rfl rfl ?_
      refine Ev.getRk (C2 := 6) (r := 10) fX5_12 rfl (by decide) (by decide) ⟨dX5_readField_47, rfl⟩ ?_
      refine Ev.dup ⟨dX5_readField_50, rfl⟩ rfl ?_
      refine Ev.getI fX5_76 (Or.inl rfl) ⟨dX5_readField_51, rfl⟩ ?_
      refine Ev.iconst ⟨dX5_readField_54, rfl⟩ (inRd rfl) ?_
      obtain ⟨c7, h⟩ := ckR_s h
      refine Ev.iadd ⟨dX5_readField_55, rfl⟩ c7 ?_
      obtain ⟨x8, ex, h⟩ := bnd_s h
      refine Ev.putI fX5_76 ⟨dX5_readField_56, rfl⟩ ?_
      refine Ev.cast ?_ rfl rfl (hqI ex)
      clear ex
      refine Ev.aload_n (q := 0) ⟨dX5_readField_59, rfl⟩ rfl rfl ?_
      obtain ⟨r10, hv9, h⟩ := bnd_s h
      refine Ev.callVN (mc1 := 0) (ms1 := 0) (h1 := hq D r10) vX5_32 (c_X5_nextToken Θ D z _ _ _ hv9) rfl rfl (by decide) rfl ⟨by decide, by decide, Nat.le_of_eq (Nat.zero_add _), Nat.le_of_eq (Nat.zero_add _), Nat.le_of_ble_eq_true rfl⟩ ⟨dX5_readField_60, rfl⟩ ?_
      clear hv9
      refine Ev.iconst ⟨dX5_readField_63, rfl⟩ (inRd rfl) ?_
      obtain rfl := Option.some.inj h
      exact Ev.ireturn (ty := .boolean) ⟨dX5_readField_64, rfl⟩ rfl rfl ⟨rfl, rfl⟩
    · replace h := (if_pos hc).symm.trans h; clear hc
      refine Ev.iconst ⟨dX5_readField_28, rfl⟩ (inRd rfl) ?_
      obtain rfl := Option.some.inj h
      exact Ev.ireturn (ty := .boolean) ⟨dX5_readField_29, rfl⟩ rfl rfl ⟨rfl, rfl⟩
  · replace h := (if_neg hc).symm.trans h; clear hc
    refine Ev.iconst ⟨dX5_readField_12, rfl⟩ (inRd rfl) ?_
    obtain rfl := Option.some.inj h
    exact Ev.ireturn (ty := .boolean) ⟨dX5_readField_13, rfl⟩ rfl rfl ⟨rfl, rfl⟩

def F_X5_readClient (z : Nat) (v0 : Nat) (x : Mm) : Option (Int × Mm) := if (x.1 6 10 2) < (5 : Int) then (ckR (((x.1 6 10 2) + (1 : Int))) <| (some (wI x 6 10 2 (((x.1 6 10 2) + (1 : Int))))).bind fun x2 => (F_X5_nextToken z (v0) x2).bind fun r4 => some (((1 : Int), r4))) else (some (((0 : Int), x)))
set_option maxHeartbeats 4000000 in
set_option maxRecDepth 20000 in
theorem c_X5_readClient (Θ : GC) (D : Nat → Nat → Prop) (z : Nat) (v0 : Nat) (x : Mm) (y) (h : F_X5_readClient z v0 x = some y) : Cal Θ mX5_readClient 2 45 0 0 [vr 5 (v0 + 1)] (hq D x) (Ret (vi y.1) (hq D y.2)) := by
  refine Cal.of (by decide +kernel) rfl rfl (Nat.le_of_ble_eq_true rfl) ?_
  show Ev Θ mX5_readClient 2 45 0 0 0 [(0, vr 5 (v0 + 1))] [] (hq D x) (Ret (vi y.1) (hq D y.2))
  unfold F_X5_readClient at h
  refine Ev.aload_n (q := 0) ⟨dX5_readClient_0, rfl⟩ rfl rfl ?_
  refine Ev.getRk (C2 := 6) (r := 10) fX5_12 rfl (by decide) (by decide) ⟨dX5_readClient_1, rfl⟩ ?_
  refine Ev.getI fX5_86 (Or.inl rfl) ⟨dX5_readClient_4, rfl⟩ ?_
  refine Ev.iconst ⟨dX5_readClient_7, rfl⟩ (inRd rfl) ?_
  refine Ev.icmp_lt jX5_readClient_8 (fun hc => ?_) (fun hc => ?_)
  · replace h := (if_pos hc).symm.trans h; clear hc
    refine Ev.aload_n (q := 0) ⟨dX5_readClient_13, rfl⟩ rfl rfl ?_
    refine Ev.getRk (C2 := 6) (r := 10) fX5_12 rfl (by decide) (by decide) ⟨dX5_readClient_14, rfl⟩ ?_
    refine Ev.dup ⟨dX5_readClient_17, rfl⟩ rfl ?_
    refine Ev.getI fX5_86 (Or.inl rfl) ⟨dX5_readClient_18, rfl⟩ ?_
    refine Ev.iconst ⟨dX5_readClient_21, rfl⟩ (inRd rfl) ?_
    obtain ⟨c1, h⟩ := ckR_s h
    refine Ev.iadd ⟨dX5_readClient_22, rfl⟩ c1 ?_
    obtain ⟨x2, ex, h⟩ := bnd_s h
    refine Ev.putI fX5_86 ⟨dX5_readClient_23, rfl⟩ ?_
    refine Ev.cast ?_ rfl rfl (hqI ex)
    clear ex
    refine Ev.aload_n (q := 0) ⟨dX5_readClient_26, rfl⟩ rfl rfl ?_
    obtain ⟨r4, hv3, h⟩ := bnd_s h
    refine Ev.callVN (mc1 := 0) (ms1 := 0) (h1 := hq D r4) vX5_32 (c_X5_nextToken Θ D z _ _ _ hv3) rfl rfl (by decide) rfl ⟨by decide, by decide, Nat.le_of_eq (Nat.zero_add _), Nat.le_of_eq (Nat.zero_add _), Nat.le_of_ble_eq_true rfl⟩ ⟨dX5_readClient_27, rfl⟩ ?_
    clear hv3
    refine Ev.iconst ⟨dX5_readClient_30, rfl⟩ (inRd rfl) ?_
    obtain rfl := Option.some.inj h
    exact Ev.ireturn (ty := .boolean) ⟨dX5_readClient_31, rfl⟩ rfl rfl ⟨rfl, rfl⟩
  · replace h := (if_neg hc).symm.trans h; clear hc
    refine Ev.iconst ⟨dX5_readClient_11, rfl⟩ (inRd rfl) ?_
    obtain rfl := Option.some.inj h
    exact Ev.ireturn (ty := .boolean) ⟨dX5_readClient_12, rfl⟩ rfl rfl ⟨rfl, rfl⟩

def F_X5_readNode (z : Nat) (v0 : Nat) (v1 : Int) (x : Mm) : Option (Int × Mm) := if (x.1 4 10 0) < (60 : Int) then ((F_X5_nextToken z (v0) x).bind fun r2 => if (r2.1 5 v0 6) = (-1 : Int) then (some (((0 : Int), r2))) else (if (r2.1 4 10 0) ≤ (r2.1 5 v0 6) then (some (((0 : Int), r2))) else ((F_X7_contains z ((r2.2 4 10 1)) ((r2.1 5 v0 6)) r2).bind fun r4 => if r4 = 0 then ((F_X5_nextToken z (v0) r2).bind fun r6 => if (r6.1 5 v0 6) = (-1 : Int) then (some (((0 : Int), r6))) else (if (999 : Int) < (r6.1 5 v0 6) then (some (((0 : Int), r6))) else ((F_X4_childWith z (10) ((r6.2 0 (3 * 10) 0)) ((r2.1 5 v0 6)) ((r6.1 5 v0 6)) r6).bind fun r8 => if r8 = (-1 : Int) then ((F_X4_addNext z (10) ((r2.1 5 v0 6)) ((r6.1 5 v0 6)) (v1) r6).bind fun r10 => (F_X7_bit z (r10.1) r10.2).bind fun r12 => (some (wL r10.2 0 (3 * 10) 0 (((r6.2 0 (3 * 10) 0) ||| r12)))).bind fun x13 => (F_X5_nextToken z (v0) x13).bind fun r15 => some (((1 : Int), r15))) else (some (((0 : Int), r6)))))) else (some (((0 : Int), r2)))))) else (some (((0 : Int), x)))
set_option maxHeartbeats 4000000 in
set_option maxRecDepth 20000 in
theorem c_X5_readNode (Θ : GC) (D : Nat → Nat → Prop) (z : Nat) (v0 : Nat) (v1 : Int) (x : Mm) (y) (h : F_X5_readNode z v0 v1 x = some y) : Cal Θ mX5_readNode 2 47 0 0 [vr 5 (v0 + 1), vi (v1)] (hq D x) (Ret (vi y.1) (hq D y.2)) := by
  refine Cal.of (by decide +kernel) rfl rfl (Nat.le_of_ble_eq_true rfl) ?_
  show Ev Θ mX5_readNode 2 47 0 0 0 [(0, vr 5 (v0 + 1)), (1, vi (v1))] [] (hq D x) (Ret (vi y.1) (hq D y.2))
  unfold F_X5_readNode at h
  refine Ev.aload_n (q := 0) ⟨dX5_readNode_0, rfl⟩ rfl rfl ?_
  refine Ev.getRk (C2 := 6) (r := 10) fX5_12 rfl (by decide) (by decide) ⟨dX5_readNode_1, rfl⟩ ?_
  refine Ev.getRk (C2 := 4) (r := 10) fX5_89 rfl (by decide) (by decide) ⟨dX5_readNode_4, rfl⟩ ?_
  refine Ev.astore_n (i := 2) (ls' := [(0, _), (1, _), (2, _)]) ⟨dX5_readNode_7, rfl⟩ rfl (by decide) rfl ?_
  refine Ev.aload_n (q := 2) ⟨dX5_readNode_8, rfl⟩ rfl rfl ?_
  refine Ev.getI fX5_93 (Or.inl rfl) ⟨dX5_readNode_9, rfl⟩ ?_
  refine Ev.bipush ⟨dX5_readNode_12, rfl⟩ (inRd rfl) (by decide) ?_
  refine Ev.icmp_lt jX5_readNode_14 (fun hc => ?_) (fun hc => ?_)
  · replace h := (if_pos hc).symm.trans h; clear hc
    refine Ev.aload_n (q := 0) ⟨dX5_readNode_19, rfl⟩ rfl rfl ?_
    obtain ⟨r2, hv1, h⟩ := bnd_s h
    refine Ev.callVN (mc1 := 0) (ms1 := 0) (h1 := hq D r2) vX5_32 (c_X5_nextToken Θ D z _ _ _ hv1) rfl rfl (by decide) rfl ⟨by decide, by decide, Nat.le_of_eq (Nat.zero_add _), Nat.le_of_eq (Nat.zero_add _), Nat.le_of_ble_eq_true rfl⟩ ⟨dX5_readNode_20, rfl⟩ ?_
    clear hv1
    refine Ev.aload_n (q := 0) ⟨dX5_readNode_23, rfl⟩ rfl rfl ?_
    refine Ev.getI fX5_98 (Or.inl rfl) ⟨dX5_readNode_24, rfl⟩ ?_
    refine Ev.istore_n (i := 3) (ls' := [(0, _), (1, _), (2, _), (3, _)]) ⟨dX5_readNode_27, rfl⟩ rfl (by decide) rfl ?_
    refine Ev.iload_n (q := 3) ⟨dX5_readNode_28, rfl⟩ rfl rfl ?_
    refine Ev.iconst ⟨dX5_readNode_29, rfl⟩ (inRd rfl) ?_
    refine Ev.icmp_eq jX5_readNode_30 (fun hc => ?_) (fun hc => ?_)
    · replace h := (if_pos hc).symm.trans h; clear hc
      refine Ev.iconst ⟨dX5_readNode_52, rfl⟩ (inRd rfl) ?_
      obtain rfl := Option.some.inj h
      exact Ev.ireturn (ty := .boolean) ⟨dX5_readNode_53, rfl⟩ rfl rfl ⟨rfl, rfl⟩
    · replace h := (if_neg hc).symm.trans h; clear hc
      refine Ev.iload_n (q := 3) ⟨dX5_readNode_33, rfl⟩ rfl rfl ?_
      refine Ev.aload_n (q := 2) ⟨dX5_readNode_34, rfl⟩ rfl rfl ?_
      refine Ev.getI fX5_93 (Or.inl rfl) ⟨dX5_readNode_35, rfl⟩ ?_
      refine Ev.icmp_ge jX5_readNode_38 (fun hc => ?_) (fun hc => ?_)
      · replace h := (if_pos hc).symm.trans h; clear hc
        refine Ev.iconst ⟨dX5_readNode_52, rfl⟩ (inRd rfl) ?_
        obtain rfl := Option.some.inj h
        exact Ev.ireturn (ty := .boolean) ⟨dX5_readNode_53, rfl⟩ rfl rfl ⟨rfl, rfl⟩
      · replace h := (if_neg hc).symm.trans h; clear hc
        refine Ev.aload_n (q := 2) ⟨dX5_readNode_41, rfl⟩ rfl rfl ?_
        refine Ev.getL fX5_101 ⟨dX5_readNode_42, rfl⟩ ?_
        refine Ev.iload_n (q := 3) ⟨dX5_readNode_45, rfl⟩ rfl rfl ?_
        obtain ⟨r4, hv3, h⟩ := bnd_s h
        refine Ev.callN1 (mc1 := 0) (ms1 := 0) (v := vi r4) (h1 := hq D r2) nX5_105 (c_X7_contains Θ D z _ _ _ _ hv3) rfl rfl ⟨by decide, by decide, Nat.le_of_eq (Nat.zero_add _), Nat.le_of_eq (Nat.zero_add _), Nat.le_of_ble_eq_true rfl⟩ ⟨dX5_readNode_46, rfl⟩ ?_
        clear hv3
        refine Ev.if_eq jX5_readNode_49 (fun hc => ?_) (fun hc => ?_)
        · replace h := (if_pos hc).symm.trans h; clear hc
          refine Ev.aload_n (q := 0) ⟨dX5_readNode_54, rfl⟩ rfl rfl ?_
          obtain ⟨r6, hv5, h⟩ := bnd_s h
          refine Ev.callVN (mc1 := 0) (ms1 := 0) (h1 := hq D r6) vX5_32 (c_X5_nextToken Θ D z _ _ _ hv5) rfl rfl (by decide) rfl ⟨by decide, by decide, Nat.le_of_eq (Nat.zero_add _), Nat.le_of_eq (Nat.zero_add _), Nat.le_of_ble_eq_true rfl⟩ ⟨dX5_readNode_55, rfl⟩ ?_
          clear hv5
          refine Ev.aload_n (q := 0) ⟨dX5_readNode_58, rfl⟩ rfl rfl ?_
          refine Ev.getI fX5_98 (Or.inl rfl) ⟨dX5_readNode_59, rfl⟩ ?_
          refine Ev.istore (i := 4) (ls' := [(0, _), (1, _), (2, _), (3, _), (4, _)]) ⟨dX5_readNode_62, rfl⟩ (by decide) rfl ?_
          refine Ev.iload (q := 4) ⟨dX5_readNode_64, rfl⟩ rfl ?_
          refine Ev.iconst ⟨dX5_readNode_66, rfl⟩ (inRd rfl) ?_
          refine Ev.icmp_eq jX5_readNode_67 (fun hc => ?_) (fun hc => ?_)
          · replace h := (if_pos hc).symm.trans h; clear hc
            refine Ev.iconst ⟨dX5_readNode_99, rfl⟩ (inRd rfl) ?_
            obtain rfl := Option.some.inj h
            exact Ev.ireturn (ty := .boolean) ⟨dX5_readNode_100, rfl⟩ rfl rfl ⟨rfl, rfl⟩
          · replace h := (if_neg hc).symm.trans h; clear hc
            refine Ev.iload (q := 4) ⟨dX5_readNode_70, rfl⟩ rfl ?_
            refine Ev.sipush ⟨dX5_readNode_72, rfl⟩ (inRd rfl) (by decide) ?_
            refine Ev.icmp_gt jX5_readNode_75 (fun hc => ?_) (fun hc => ?_)
            · replace h := (if_pos hc).symm.trans h; clear hc
              refine Ev.iconst ⟨dX5_readNode_99, rfl⟩ (inRd rfl) ?_
              obtain rfl := Option.some.inj h
              exact Ev.ireturn (ty := .boolean) ⟨dX5_readNode_100, rfl⟩ rfl rfl ⟨rfl, rfl⟩
            · replace h := (if_neg hc).symm.trans h; clear hc
              refine Ev.aload_n (q := 2) ⟨dX5_readNode_78, rfl⟩ rfl rfl ?_
              refine Ev.aload_n (q := 0) ⟨dX5_readNode_79, rfl⟩ rfl rfl ?_
              refine Ev.getRk (C2 := 6) (r := 10) fX5_12 rfl (by decide) (by decide) ⟨dX5_readNode_80, rfl⟩ ?_
              refine Ev.getRk (C2 := 0) (r := (3 * 10)) fX5_109 rfl (by decide) (by decide) ⟨dX5_readNode_83, rfl⟩ ?_
              refine Ev.getL fX5_113 ⟨dX5_readNode_86, rfl⟩ ?_
              refine Ev.iload_n (q := 3) ⟨dX5_readNode_89, rfl⟩ rfl rfl ?_
              refine Ev.iload (q := 4) ⟨dX5_readNode_90, rfl⟩ rfl ?_
              obtain ⟨r8, hv7, h⟩ := bnd_s h
              refine Ev.callV1 (mc1 := 0) (ms1 := 0) (v := vi r8) (h1 := hq D r6) vX5_118 (c_X4_childWith Θ D z _ _ _ _ _ _ hv7) rfl rfl (by decide) rfl ⟨by decide, by decide, Nat.le_of_eq (Nat.zero_add _), Nat.le_of_eq (Nat.zero_add _), Nat.le_of_ble_eq_true rfl⟩ ⟨dX5_readNode_92, rfl⟩ ?_
              clear hv7
              refine Ev.iconst ⟨dX5_readNode_95, rfl⟩ (inRd rfl) ?_
              refine Ev.icmp_eq jX5_readNode_96 (fun hc => ?_) (fun hc => ?_)
              · replace h := (if_pos hc).symm.trans h; clear hc
                refine Ev.aload_n (q := 0) ⟨dX5_readNode_101, rfl⟩ rfl rfl ?_
                refine Ev.getRk (C2 := 6) (r := 10) fX5_12 rfl (by decide) (by decide) ⟨dX5_readNode_102, rfl⟩ ?_
                refine Ev.getRk (C2 := 0) (r := (3 * 10)) fX5_109 rfl (by decide) (by decide) ⟨dX5_readNode_105, rfl⟩ ?_
                refine Ev.dup ⟨dX5_readNode_108, rfl⟩ rfl ?_
                refine Ev.getL fX5_113 ⟨dX5_readNode_109, rfl⟩ ?_
                refine Ev.aload_n (q := 2) ⟨dX5_readNode_112, rfl⟩ rfl rfl ?_
                refine Ev.iload_n (q := 3) ⟨dX5_readNode_113, rfl⟩ rfl rfl ?_
                refine Ev.iload (q := 4) ⟨dX5_readNode_114, rfl⟩ rfl ?_
                refine Ev.iload_n (q := 1) ⟨dX5_readNode_116, rfl⟩ rfl rfl ?_
                obtain ⟨r10, hv9, h⟩ := bnd_s h
                refine Ev.callV1 (mc1 := 0) (ms1 := 0) (v := vi r10.1) (h1 := hq D r10.2) vX5_122 (c_X4_addNext Θ D z _ _ _ _ _ _ hv9) rfl rfl (by decide) rfl ⟨by decide, by decide, Nat.le_of_eq (Nat.zero_add _), Nat.le_of_eq (Nat.zero_add _), Nat.le_of_ble_eq_true rfl⟩ ⟨dX5_readNode_117, rfl⟩ ?_
                clear hv9
                obtain ⟨r12, hv11, h⟩ := bnd_s h
                refine Ev.callN1 (mc1 := 0) (ms1 := 0) (v := vl r12) (h1 := hq D r10.2) nX5_126 (c_X7_bit Θ D z _ _ _ hv11) rfl rfl ⟨by decide, by decide, Nat.le_of_eq (Nat.zero_add _), Nat.le_of_eq (Nat.zero_add _), Nat.le_of_ble_eq_true rfl⟩ ⟨dX5_readNode_120, rfl⟩ ?_
                clear hv11
                refine Ev.lor ⟨dX5_readNode_123, rfl⟩ ?_
                obtain ⟨x13, ex, h⟩ := bnd_s h
                refine Ev.putL fX5_113 ⟨dX5_readNode_124, rfl⟩ ?_
                refine Ev.cast ?_ rfl rfl (hqL ex)
                clear ex
                refine Ev.aload_n (q := 0) ⟨dX5_readNode_127, rfl⟩ rfl rfl ?_
                obtain ⟨r15, hv14, h⟩ := bnd_s h
                refine Ev.callVN (mc1 := 0) (ms1 := 0) (h1 := hq D r15) vX5_32 (c_X5_nextToken Θ D z _ _ _ hv14) rfl rfl (by decide) rfl ⟨by decide, by decide, Nat.le_of_eq (Nat.zero_add _), Nat.le_of_eq (Nat.zero_add _), Nat.le_of_ble_eq_true rfl⟩ ⟨dX5_readNode_128, rfl⟩ ?_
                clear hv14
                refine Ev.iconst ⟨dX5_readNode_131, rfl⟩ (inRd rfl) ?_
                obtain rfl := Option.some.inj h
                exact Ev.ireturn (ty := .boolean) ⟨dX5_readNode_132, rfl⟩ rfl rfl ⟨rfl, rfl⟩
              · replace h := (if_neg hc).symm.trans h; clear hc
                refine Ev.iconst ⟨dX5_readNode_99, rfl⟩ (inRd rfl) ?_
                obtain rfl := Option.some.inj h
                exact Ev.ireturn (ty := .boolean) ⟨dX5_readNode_100, rfl⟩ rfl rfl ⟨rfl, rfl⟩
        · replace h := (if_neg hc).symm.trans h; clear hc
          refine Ev.iconst ⟨dX5_readNode_52, rfl⟩ (inRd rfl) ?_
          obtain rfl := Option.some.inj h
          exact Ev.ireturn (ty := .boolean) ⟨dX5_readNode_53, rfl⟩ rfl rfl ⟨rfl, rfl⟩
  · replace h := (if_neg hc).symm.trans h; clear hc
    refine Ev.iconst ⟨dX5_readNode_17, rfl⟩ (inRd rfl) ?_
    obtain rfl := Option.some.inj h
    exact Ev.ireturn (ty := .boolean) ⟨dX5_readNode_18, rfl⟩ rfl rfl ⟨rfl, rfl⟩

def F_X5_isSign (z : Nat) (v0 : Nat) (v1 : Int) (x : Mm) : Option (Int) := if (x.1 5 v0 3) = (3 : Int) then (ckI (x.1 5 v0 4) 600 <| if (x.1 25 0 ((x.1 5 v0 4)).toNat) = v1 then (some ((1 : Int))) else (some ((0 : Int)))) else (some ((0 : Int)))
set_option maxHeartbeats 4000000 in
set_option maxRecDepth 20000 in
theorem c_X5_isSign (Θ : GC) (D : Nat → Nat → Prop) (z : Nat) (v0 : Nat) (v1 : Int) (x : Mm) (y) (h : F_X5_isSign z v0 v1 x = some y) : Cal Θ mX5_isSign 0 0 0 0 [vr 5 (v0 + 1), vi (v1)] (hq D x) (Ret (vi y) (hq D x)) := by
  refine Cal.of (by decide +kernel) rfl rfl (Nat.le_of_ble_eq_true rfl) ?_
  show Ev Θ mX5_isSign 0 0 0 0 0 [(0, vr 5 (v0 + 1)), (1, vi (v1))] [] (hq D x) (Ret (vi y) (hq D x))
  unfold F_X5_isSign at h
  refine Ev.aload_n (q := 0) ⟨dX5_isSign_0, rfl⟩ rfl rfl ?_
  refine Ev.getI fX5_42 (Or.inl rfl) ⟨dX5_isSign_1, rfl⟩ ?_
  refine Ev.iconst ⟨dX5_isSign_4, rfl⟩ (inRd rfl) ?_
  refine Ev.icmp_ne jX5_isSign_5 (fun hc => ?_) (fun hc => ?_)
  · replace h := (if_neg hc).symm.trans h; clear hc
    refine Ev.iconst ⟨dX5_isSign_25, rfl⟩ (inRd rfl) ?_
    obtain rfl := Option.some.inj h
    exact Ev.ireturn (ty := .boolean) ⟨dX5_isSign_26, rfl⟩ rfl rfl ⟨rfl, rfl⟩
  · replace h := (if_pos hc).symm.trans h; clear hc
    refine Ev.aload_n (q := 0) ⟨dX5_isSign_8, rfl⟩ rfl rfl ?_
    refine Ev.getRk (C2 := 25) (r := 0) fX5_18 rfl (by decide) (by decide) ⟨dX5_isSign_9, rfl⟩ ?_
    refine Ev.aload_n (q := 0) ⟨dX5_isSign_12, rfl⟩ rfl rfl ?_
    refine Ev.getI fX5_39 (Or.inl rfl) ⟨dX5_isSign_13, rfl⟩ ?_
    obtain ⟨c1, h⟩ := ckI_s h
    refine Ev.iaload (by decide) c1.1 c1.2 ⟨dX5_isSign_16, rfl⟩ ?_
    refine Ev.iload_n (q := 1) ⟨dX5_isSign_17, rfl⟩ rfl rfl ?_
    refine Ev.icmp_ne jX5_isSign_18 (fun hc => ?_) (fun hc => ?_)
    · replace h := (if_neg hc).symm.trans h; clear hc
      refine Ev.iconst ⟨dX5_isSign_25, rfl⟩ (inRd rfl) ?_
      obtain rfl := Option.some.inj h
      exact Ev.ireturn (ty := .boolean) ⟨dX5_isSign_26, rfl⟩ rfl rfl ⟨rfl, rfl⟩
    · replace h := (if_pos hc).symm.trans h; clear hc
      refine Ev.iconst ⟨dX5_isSign_21, rfl⟩ (inRd rfl) ?_
      refine Ev.goto jX5_isSign_22 ?_
      obtain rfl := Option.some.inj h
      exact Ev.ireturn (ty := .boolean) ⟨dX5_isSign_26, rfl⟩ rfl rfl ⟨rfl, rfl⟩

def F_X5_readValue_93 (z : Nat) (v0 : Nat) (v1 : Int) (v2 : Int) (v3 : Int) (x : Mm) : Option (Int × Mm) := if (x.1 5 v0 6) = (-1 : Int) then (some (((0 : Int), x))) else (if (x.1 5 v0 6) ≤ (1000000 : Int) then (if v3 = 0 then ((F_X0_put z ((3 * 10)) (v1) (v2) ((x.1 5 v0 6)) x).bind fun r12 => (F_X5_nextToken z (v0) r12).bind fun r14 => some (((1 : Int), r14))) else (ckR ((-(x.1 5 v0 6))) <| (F_X0_put z ((3 * 10)) (v1) (v2) ((-(x.1 5 v0 6))) x).bind fun r17 => (F_X5_nextToken z (v0) r17).bind fun r19 => some (((1 : Int), r19)))) else (some (((0 : Int), x))))
set_option maxHeartbeats 4000000 in
set_option maxRecDepth 20000 in
theorem e_X5_readValue_93 (Θ : GC) (D : Nat → Nat → Prop) (z : Nat) (v0 : Nat) (v1 : Int) (v2 : Int) (v3 : Int) (x : Mm) (y) (h : F_X5_readValue_93 z v0 v1 v2 v3 x = some y) : Ev Θ mX5_readValue 2 45 0 0 93 [(0, vr 5 (v0 + 1)), (1, vi (v1)), (2, vi (v2)), (3, vi (v3))] [] (hq D x) (Ret (vi y.1) (hq D y.2)) := by
  unfold F_X5_readValue_93 at h
  refine Ev.aload_n (q := 0) ⟨dX5_readValue_93, rfl⟩ rfl rfl ?_
  refine Ev.getI fX5_98 (Or.inl rfl) ⟨dX5_readValue_94, rfl⟩ ?_
  refine Ev.iconst ⟨dX5_readValue_97, rfl⟩ (inRd rfl) ?_
  refine Ev.icmp_eq jX5_readValue_98 (fun hc => ?_) (fun hc => ?_)
  · replace h := (if_pos hc).symm.trans h; clear hc
    refine Ev.iconst ⟨dX5_readValue_110, rfl⟩ (inRd rfl) ?_
    obtain rfl := Option.some.inj h
    exact Ev.ireturn (ty := .boolean) ⟨dX5_readValue_111, rfl⟩ rfl rfl ⟨rfl, rfl⟩
  · replace h := (if_neg hc).symm.trans h; clear hc
    refine Ev.aload_n (q := 0) ⟨dX5_readValue_101, rfl⟩ rfl rfl ?_
    refine Ev.getI fX5_98 (Or.inl rfl) ⟨dX5_readValue_102, rfl⟩ ?_
    refine Ev.ldc (n := 1000000) ⟨dX5_readValue_105, rfl⟩ (inRd rfl) wX5_130 ?_
    refine Ev.icmp_le jX5_readValue_107 (fun hc => ?_) (fun hc => ?_)
    · replace h := (if_pos hc).symm.trans h; clear hc
      refine Ev.aload_n (q := 0) ⟨dX5_readValue_112, rfl⟩ rfl rfl ?_
      refine Ev.getRk (C2 := 6) (r := 10) fX5_12 rfl (by decide) (by decide) ⟨dX5_readValue_113, rfl⟩ ?_
      refine Ev.getRk (C2 := 0) (r := (3 * 10)) fX5_109 rfl (by decide) (by decide) ⟨dX5_readValue_116, rfl⟩ ?_
      refine Ev.iload_n (q := 1) ⟨dX5_readValue_119, rfl⟩ rfl rfl ?_
      refine Ev.iload_n (q := 2) ⟨dX5_readValue_120, rfl⟩ rfl rfl ?_
      refine Ev.iload_n (q := 3) ⟨dX5_readValue_121, rfl⟩ rfl rfl ?_
      refine Ev.if_eq jX5_readValue_122 (fun hc => ?_) (fun hc => ?_)
      · replace h := (if_pos hc).symm.trans h; clear hc
        refine Ev.aload_n (q := 0) ⟨dX5_readValue_133, rfl⟩ rfl rfl ?_
        refine Ev.getI fX5_98 (Or.inl rfl) ⟨dX5_readValue_134, rfl⟩ ?_
        obtain ⟨r12, hv11, h⟩ := bnd_s h
        refine Ev.callVN (mc1 := 0) (ms1 := 0) (h1 := hq D r12) vX5_131 (c_X0_put Θ D z _ _ _ _ _ _ hv11) rfl rfl (by decide) rfl ⟨by decide, by decide, Nat.le_of_eq (Nat.zero_add _), Nat.le_of_eq (Nat.zero_add _), Nat.le_of_ble_eq_true rfl⟩ ⟨dX5_readValue_137, rfl⟩ ?_
        clear hv11
        refine Ev.aload_n (q := 0) ⟨dX5_readValue_140, rfl⟩ rfl rfl ?_
        obtain ⟨r14, hv13, h⟩ := bnd_s h
        refine Ev.callVN (mc1 := 0) (ms1 := 0) (h1 := hq D r14) vX5_32 (c_X5_nextToken Θ D z _ _ _ hv13) rfl rfl (by decide) rfl ⟨by decide, by decide, Nat.le_of_eq (Nat.zero_add _), Nat.le_of_eq (Nat.zero_add _), Nat.le_of_ble_eq_true rfl⟩ ⟨dX5_readValue_141, rfl⟩ ?_
        clear hv13
        refine Ev.iconst ⟨dX5_readValue_144, rfl⟩ (inRd rfl) ?_
        obtain rfl := Option.some.inj h
        exact Ev.ireturn (ty := .boolean) ⟨dX5_readValue_145, rfl⟩ rfl rfl ⟨rfl, rfl⟩
      · replace h := (if_neg hc).symm.trans h; clear hc
        refine Ev.aload_n (q := 0) ⟨dX5_readValue_125, rfl⟩ rfl rfl ?_
        refine Ev.getI fX5_98 (Or.inl rfl) ⟨dX5_readValue_126, rfl⟩ ?_
        obtain ⟨c15, h⟩ := ckR_s h
        refine Ev.ineg ⟨dX5_readValue_129, rfl⟩ c15 ?_
        refine Ev.goto jX5_readValue_130 ?_
        obtain ⟨r17, hv16, h⟩ := bnd_s h
        refine Ev.callVN (mc1 := 0) (ms1 := 0) (h1 := hq D r17) vX5_131 (c_X0_put Θ D z _ _ _ _ _ _ hv16) rfl rfl (by decide) rfl ⟨by decide, by decide, Nat.le_of_eq (Nat.zero_add _), Nat.le_of_eq (Nat.zero_add _), Nat.le_of_ble_eq_true rfl⟩ ⟨dX5_readValue_137, rfl⟩ ?_
        clear hv16
        refine Ev.aload_n (q := 0) ⟨dX5_readValue_140, rfl⟩ rfl rfl ?_
        obtain ⟨r19, hv18, h⟩ := bnd_s h
        refine Ev.callVN (mc1 := 0) (ms1 := 0) (h1 := hq D r19) vX5_32 (c_X5_nextToken Θ D z _ _ _ hv18) rfl rfl (by decide) rfl ⟨by decide, by decide, Nat.le_of_eq (Nat.zero_add _), Nat.le_of_eq (Nat.zero_add _), Nat.le_of_ble_eq_true rfl⟩ ⟨dX5_readValue_141, rfl⟩ ?_
        clear hv18
        refine Ev.iconst ⟨dX5_readValue_144, rfl⟩ (inRd rfl) ?_
        obtain rfl := Option.some.inj h
        exact Ev.ireturn (ty := .boolean) ⟨dX5_readValue_145, rfl⟩ rfl rfl ⟨rfl, rfl⟩
    · replace h := (if_neg hc).symm.trans h; clear hc
      refine Ev.iconst ⟨dX5_readValue_110, rfl⟩ (inRd rfl) ?_
      obtain rfl := Option.some.inj h
      exact Ev.ireturn (ty := .boolean) ⟨dX5_readValue_111, rfl⟩ rfl rfl ⟨rfl, rfl⟩
def F_X5_readValue (z : Nat) (v0 : Nat) (x : Mm) : Option (Int × Mm) := (F_X5_nextToken z (v0) x).bind fun r2 => if (r2.1 5 v0 6) = (-1 : Int) then (some (((0 : Int), r2))) else (if (r2.1 4 10 0) ≤ (r2.1 5 v0 6) then (some (((0 : Int), r2))) else ((F_X7_contains z ((r2.2 4 10 1)) ((r2.1 5 v0 6)) r2).bind fun r4 => if r4 = 0 then (some (((0 : Int), r2))) else ((F_X5_nextToken z (v0) r2).bind fun r6 => if (r6.1 5 v0 6) = (-1 : Int) then (some (((0 : Int), r6))) else (if (r6.1 5 v0 6) < (r6.1 6 10 1) then ((F_X5_nextToken z (v0) r6).bind fun r8 => (F_X5_isSign z (v0) ((45 : Int)) r8).bind fun r10 => if r10 = 0 then (F_X5_readValue_93 z (v0) ((r2.1 5 v0 6)) ((r6.1 5 v0 6)) (r10) r8) else ((F_X5_nextToken z (v0) r8).bind fun r21 => F_X5_readValue_93 z (v0) ((r2.1 5 v0 6)) ((r6.1 5 v0 6)) (r10) r21)) else (some (((0 : Int), r6)))))))
set_option maxHeartbeats 4000000 in
set_option maxRecDepth 20000 in
theorem c_X5_readValue (Θ : GC) (D : Nat → Nat → Prop) (z : Nat) (v0 : Nat) (x : Mm) (y) (h : F_X5_readValue z v0 x = some y) : Cal Θ mX5_readValue 2 45 0 0 [vr 5 (v0 + 1)] (hq D x) (Ret (vi y.1) (hq D y.2)) := by
  refine Cal.of (by decide +kernel) rfl rfl (Nat.le_of_ble_eq_true rfl) ?_
  show Ev Θ mX5_readValue 2 45 0 0 0 [(0, vr 5 (v0 + 1))] [] (hq D x) (Ret (vi y.1) (hq D y.2))
  unfold F_X5_readValue at h
  refine Ev.aload_n (q := 0) ⟨dX5_readValue_0, rfl⟩ rfl rfl ?_
  obtain ⟨r2, hv1, h⟩ := bnd_s h
  refine Ev.callVN (mc1 := 0) (ms1 := 0) (h1 := hq D r2) vX5_32 (c_X5_nextToken Θ D z _ _ _ hv1) rfl rfl (by decide) rfl ⟨by decide, by decide, Nat.le_of_eq (Nat.zero_add _), Nat.le_of_eq (Nat.zero_add _), Nat.le_of_ble_eq_true rfl⟩ ⟨dX5_readValue_1, rfl⟩ ?_
  clear hv1
  refine Ev.aload_n (q := 0) ⟨dX5_readValue_4, rfl⟩ rfl rfl ?_
  refine Ev.getI fX5_98 (Or.inl rfl) ⟨dX5_readValue_5, rfl⟩ ?_
  refine Ev.istore_n (i := 1) (ls' := [(0, _), (1, _)]) ⟨dX5_readValue_8, rfl⟩ rfl (by decide) rfl ?_
  refine Ev.iload_n (q := 1) ⟨dX5_readValue_9, rfl⟩ rfl rfl ?_
  refine Ev.iconst ⟨dX5_readValue_10, rfl⟩ (inRd rfl) ?_
  refine Ev.icmp_eq jX5_readValue_11 (fun hc => ?_) (fun hc => ?_)
  · replace h := (if_pos hc).symm.trans h; clear hc
    refine Ev.iconst ⟨dX5_readValue_45, rfl⟩ (inRd rfl) ?_
    obtain rfl := Option.some.inj h
    exact Ev.ireturn (ty := .boolean) ⟨dX5_readValue_46, rfl⟩ rfl rfl ⟨rfl, rfl⟩
  · replace h := (if_neg hc).symm.trans h; clear hc
    refine Ev.iload_n (q := 1) ⟨dX5_readValue_14, rfl⟩ rfl rfl ?_
    refine Ev.aload_n (q := 0) ⟨dX5_readValue_15, rfl⟩ rfl rfl ?_
    refine Ev.getRk (C2 := 6) (r := 10) fX5_12 rfl (by decide) (by decide) ⟨dX5_readValue_16, rfl⟩ ?_
    refine Ev.getRk (C2 := 4) (r := 10) fX5_89 rfl (by decide) (by decide) ⟨dX5_readValue_19, rfl⟩ ?_
    refine Ev.getI fX5_93 (Or.inl rfl) ⟨dX5_readValue_22, rfl⟩ ?_
    refine Ev.icmp_ge jX5_readValue_25 (fun hc => ?_) (fun hc => ?_)
    · replace h := (if_pos hc).symm.trans h; clear hc
      refine Ev.iconst ⟨dX5_readValue_45, rfl⟩ (inRd rfl) ?_
      obtain rfl := Option.some.inj h
      exact Ev.ireturn (ty := .boolean) ⟨dX5_readValue_46, rfl⟩ rfl rfl ⟨rfl, rfl⟩
    · replace h := (if_neg hc).symm.trans h; clear hc
      refine Ev.aload_n (q := 0) ⟨dX5_readValue_28, rfl⟩ rfl rfl ?_
      refine Ev.getRk (C2 := 6) (r := 10) fX5_12 rfl (by decide) (by decide) ⟨dX5_readValue_29, rfl⟩ ?_
      refine Ev.getRk (C2 := 4) (r := 10) fX5_89 rfl (by decide) (by decide) ⟨dX5_readValue_32, rfl⟩ ?_
      refine Ev.getL fX5_101 ⟨dX5_readValue_35, rfl⟩ ?_
      refine Ev.iload_n (q := 1) ⟨dX5_readValue_38, rfl⟩ rfl rfl ?_
      obtain ⟨r4, hv3, h⟩ := bnd_s h
      refine Ev.callN1 (mc1 := 0) (ms1 := 0) (v := vi r4) (h1 := hq D r2) nX5_105 (c_X7_contains Θ D z _ _ _ _ hv3) rfl rfl ⟨by decide, by decide, Nat.le_of_eq (Nat.zero_add _), Nat.le_of_eq (Nat.zero_add _), Nat.le_of_ble_eq_true rfl⟩ ⟨dX5_readValue_39, rfl⟩ ?_
      clear hv3
      refine Ev.if_ne jX5_readValue_42 (fun hc => ?_) (fun hc => ?_)
      · replace h := (if_neg hc).symm.trans h; clear hc
        refine Ev.aload_n (q := 0) ⟨dX5_readValue_47, rfl⟩ rfl rfl ?_
        obtain ⟨r6, hv5, h⟩ := bnd_s h
        refine Ev.callVN (mc1 := 0) (ms1 := 0) (h1 := hq D r6) vX5_32 (c_X5_nextToken Θ D z _ _ _ hv5) rfl rfl (by decide) rfl ⟨by decide, by decide, Nat.le_of_eq (Nat.zero_add _), Nat.le_of_eq (Nat.zero_add _), Nat.le_of_ble_eq_true rfl⟩ ⟨dX5_readValue_48, rfl⟩ ?_
        clear hv5
        refine Ev.aload_n (q := 0) ⟨dX5_readValue_51, rfl⟩ rfl rfl ?_
        refine Ev.getI fX5_98 (Or.inl rfl) ⟨dX5_readValue_52, rfl⟩ ?_
        refine Ev.istore_n (i := 2) (ls' := [(0, _), (1, _), (2, _)]) ⟨dX5_readValue_55, rfl⟩ rfl (by decide) rfl ?_
        refine Ev.iload_n (q := 2) ⟨dX5_readValue_56, rfl⟩ rfl rfl ?_
        refine Ev.iconst ⟨dX5_readValue_57, rfl⟩ (inRd rfl) ?_
        refine Ev.icmp_eq jX5_readValue_58 (fun hc => ?_) (fun hc => ?_)
        · replace h := (if_pos hc).symm.trans h; clear hc
          refine Ev.iconst ⟨dX5_readValue_72, rfl⟩ (inRd rfl) ?_
          obtain rfl := Option.some.inj h
          exact Ev.ireturn (ty := .boolean) ⟨dX5_readValue_73, rfl⟩ rfl rfl ⟨rfl, rfl⟩
        · replace h := (if_neg hc).symm.trans h; clear hc
          refine Ev.iload_n (q := 2) ⟨dX5_readValue_61, rfl⟩ rfl rfl ?_
          refine Ev.aload_n (q := 0) ⟨dX5_readValue_62, rfl⟩ rfl rfl ?_
          refine Ev.getRk (C2 := 6) (r := 10) fX5_12 rfl (by decide) (by decide) ⟨dX5_readValue_63, rfl⟩ ?_
          refine Ev.getI fX5_76 (Or.inl rfl) ⟨dX5_readValue_66, rfl⟩ ?_
          refine Ev.icmp_lt jX5_readValue_69 (fun hc => ?_) (fun hc => ?_)
          · replace h := (if_pos hc).symm.trans h; clear hc
            refine Ev.aload_n (q := 0) ⟨dX5_readValue_74, rfl⟩ rfl rfl ?_
            obtain ⟨r8, hv7, h⟩ := bnd_s h
            refine Ev.callVN (mc1 := 0) (ms1 := 0) (h1 := hq D r8) vX5_32 (c_X5_nextToken Θ D z _ _ _ hv7) rfl rfl (by decide) rfl ⟨by decide, by decide, Nat.le_of_eq (Nat.zero_add _), Nat.le_of_eq (Nat.zero_add _), Nat.le_of_ble_eq_true rfl⟩ ⟨dX5_readValue_75, rfl⟩ ?_
            clear hv7
            refine Ev.aload_n (q := 0) ⟨dX5_readValue_78, rfl⟩ rfl rfl ?_
            refine Ev.bipush ⟨dX5_readValue_79, rfl⟩ (inRd rfl) (by decide) ?_
            obtain ⟨r10, hv9, h⟩ := bnd_s h
            refine Ev.callV1 (mc1 := 0) (ms1 := 0) (v := vi r10) (h1 := hq D r8) vX5_45 (c_X5_isSign Θ D z _ _ _ _ hv9) rfl rfl (by decide) rfl ⟨by decide, by decide, Nat.le_of_eq (Nat.zero_add _), Nat.le_of_eq (Nat.zero_add _), Nat.le_of_ble_eq_true rfl⟩ ⟨dX5_readValue_81, rfl⟩ ?_
            clear hv9
            refine Ev.istore_n (i := 3) (ls' := [(0, _), (1, _), (2, _), (3, _)]) ⟨dX5_readValue_84, rfl⟩ rfl (by decide) rfl ?_
            refine Ev.iload_n (q := 3) ⟨dX5_readValue_85, rfl⟩ rfl rfl ?_
            refine Ev.if_eq jX5_readValue_86 (fun hc => ?_) (fun hc => ?_)
            · replace h := (if_pos hc).symm.trans h; clear hc
              exact e_X5_readValue_93 Θ D z _ _ _ _ _ _ h
            · replace h := (if_neg hc).symm.trans h; clear hc
              refine Ev.aload_n (q := 0) ⟨dX5_readValue_89, rfl⟩ rfl rfl ?_
              obtain ⟨r21, hv20, h⟩ := bnd_s h
              refine Ev.callVN (mc1 := 0) (ms1 := 0) (h1 := hq D r21) vX5_32 (c_X5_nextToken Θ D z _ _ _ hv20) rfl rfl (by decide) rfl ⟨by decide, by decide, Nat.le_of_eq (Nat.zero_add _), Nat.le_of_eq (Nat.zero_add _), Nat.le_of_ble_eq_true rfl⟩ ⟨dX5_readValue_90, rfl⟩ ?_
              clear hv20
              exact e_X5_readValue_93 Θ D z _ _ _ _ _ _ h
          · replace h := (if_neg hc).symm.trans h; clear hc
            refine Ev.iconst ⟨dX5_readValue_72, rfl⟩ (inRd rfl) ?_
            obtain rfl := Option.some.inj h
            exact Ev.ireturn (ty := .boolean) ⟨dX5_readValue_73, rfl⟩ rfl rfl ⟨rfl, rfl⟩
      · replace h := (if_pos hc).symm.trans h; clear hc
        refine Ev.iconst ⟨dX5_readValue_45, rfl⟩ (inRd rfl) ?_
        obtain rfl := Option.some.inj h
        exact Ev.ireturn (ty := .boolean) ⟨dX5_readValue_46, rfl⟩ rfl rfl ⟨rfl, rfl⟩

def F_X5_readStatement (z : Nat) (v0 : Nat) (x : Mm) : Option (Int × Mm) := (F_X5_isWord z (v0) (0) x).bind fun r2 => if r2 = 0 then ((F_X5_isWord z (v0) (7) x).bind fun r4 => if r4 = 0 then ((F_X5_isWord z (v0) (8) x).bind fun r6 => if r6 = 0 then ((F_X5_isWord z (v0) (9) x).bind fun r8 => if r8 = 0 then ((F_X5_isWord z (v0) (10) x).bind fun r10 => if r10 = 0 then (some (((0 : Int), x))) else ((F_X5_readValue z (v0) x).bind fun r12 => if r12.1 = 0 then (some (((0 : Int), r12.2))) else (some (((1 : Int), r12.2))))) else ((F_X5_readNode z (v0) ((1 : Int)) x).bind fun r14 => ckZ (r14.1) <| some ((r14.1, r14.2)))) else ((F_X5_readNode z (v0) ((0 : Int)) x).bind fun r17 => ckZ (r17.1) <| some ((r17.1, r17.2)))) else ((F_X5_readClient z (v0) x).bind fun r20 => ckZ (r20.1) <| some ((r20.1, r20.2)))) else ((F_X5_readField z (v0) x).bind fun r23 => ckZ (r23.1) <| some ((r23.1, r23.2)))
set_option maxHeartbeats 4000000 in
set_option maxRecDepth 20000 in
theorem c_X5_readStatement (Θ : GC) (D : Nat → Nat → Prop) (z : Nat) (v0 : Nat) (x : Mm) (y) (h : F_X5_readStatement z v0 x = some y) : Cal Θ mX5_readStatement 7 148 0 0 [vr 5 (v0 + 1)] (hq D x) (Ret (vi y.1) (hq D y.2)) := by
  refine Cal.of (by decide +kernel) rfl rfl (Nat.le_of_ble_eq_true rfl) ?_
  show Ev Θ mX5_readStatement 7 148 0 0 0 [(0, vr 5 (v0 + 1))] [] (hq D x) (Ret (vi y.1) (hq D y.2))
  unfold F_X5_readStatement at h
  refine Ev.aload_n (q := 0) ⟨dX5_readStatement_0, rfl⟩ rfl rfl ?_
  refine Ev.ldcT (k := 0) (tx := "field") (by decide) ⟨dX5_readStatement_1, rfl⟩ ?_
  obtain ⟨r2, hv1, h⟩ := bnd_s h
  refine Ev.callV1 (mc1 := 0) (ms1 := 0) (v := vi r2) (h1 := hq D x) vX5_51 (c_X5_isWord Θ D z _ _ _ _ hv1) rfl rfl (by decide) rfl ⟨by decide, by decide, Nat.le_of_eq (Nat.zero_add _), Nat.le_of_eq (Nat.zero_add _), Nat.le_of_ble_eq_true rfl⟩ ⟨dX5_readStatement_3, rfl⟩ ?_
  clear hv1
  refine Ev.if_eq jX5_readStatement_6 (fun hc => ?_) (fun hc => ?_)
  · replace h := (if_pos hc).symm.trans h; clear hc
    refine Ev.aload_n (q := 0) ⟨dX5_readStatement_14, rfl⟩ rfl rfl ?_
    refine Ev.ldcT (k := 7) (tx := "client") (by decide) ⟨dX5_readStatement_15, rfl⟩ ?_
    obtain ⟨r4, hv3, h⟩ := bnd_s h
    refine Ev.callV1 (mc1 := 0) (ms1 := 0) (v := vi r4) (h1 := hq D x) vX5_51 (c_X5_isWord Θ D z _ _ _ _ hv3) rfl rfl (by decide) rfl ⟨by decide, by decide, Nat.le_of_eq (Nat.zero_add _), Nat.le_of_eq (Nat.zero_add _), Nat.le_of_ble_eq_true rfl⟩ ⟨dX5_readStatement_17, rfl⟩ ?_
    clear hv3
    refine Ev.if_eq jX5_readStatement_20 (fun hc => ?_) (fun hc => ?_)
    · replace h := (if_pos hc).symm.trans h; clear hc
      refine Ev.aload_n (q := 0) ⟨dX5_readStatement_28, rfl⟩ rfl rfl ?_
      refine Ev.ldcT (k := 8) (tx := "dir") (by decide) ⟨dX5_readStatement_29, rfl⟩ ?_
      obtain ⟨r6, hv5, h⟩ := bnd_s h
      refine Ev.callV1 (mc1 := 0) (ms1 := 0) (v := vi r6) (h1 := hq D x) vX5_51 (c_X5_isWord Θ D z _ _ _ _ hv5) rfl rfl (by decide) rfl ⟨by decide, by decide, Nat.le_of_eq (Nat.zero_add _), Nat.le_of_eq (Nat.zero_add _), Nat.le_of_ble_eq_true rfl⟩ ⟨dX5_readStatement_31, rfl⟩ ?_
      clear hv5
      refine Ev.if_eq jX5_readStatement_34 (fun hc => ?_) (fun hc => ?_)
      · replace h := (if_pos hc).symm.trans h; clear hc
        refine Ev.aload_n (q := 0) ⟨dX5_readStatement_43, rfl⟩ rfl rfl ?_
        refine Ev.ldcT (k := 9) (tx := "record") (by decide) ⟨dX5_readStatement_44, rfl⟩ ?_
        obtain ⟨r8, hv7, h⟩ := bnd_s h
        refine Ev.callV1 (mc1 := 0) (ms1 := 0) (v := vi r8) (h1 := hq D x) vX5_51 (c_X5_isWord Θ D z _ _ _ _ hv7) rfl rfl (by decide) rfl ⟨by decide, by decide, Nat.le_of_eq (Nat.zero_add _), Nat.le_of_eq (Nat.zero_add _), Nat.le_of_ble_eq_true rfl⟩ ⟨dX5_readStatement_46, rfl⟩ ?_
        clear hv7
        refine Ev.if_eq jX5_readStatement_49 (fun hc => ?_) (fun hc => ?_)
        · replace h := (if_pos hc).symm.trans h; clear hc
          refine Ev.aload_n (q := 0) ⟨dX5_readStatement_58, rfl⟩ rfl rfl ?_
          refine Ev.ldcT (k := 10) (tx := "value") (by decide) ⟨dX5_readStatement_59, rfl⟩ ?_
          obtain ⟨r10, hv9, h⟩ := bnd_s h
          refine Ev.callV1 (mc1 := 0) (ms1 := 0) (v := vi r10) (h1 := hq D x) vX5_51 (c_X5_isWord Θ D z _ _ _ _ hv9) rfl rfl (by decide) rfl ⟨by decide, by decide, Nat.le_of_eq (Nat.zero_add _), Nat.le_of_eq (Nat.zero_add _), Nat.le_of_ble_eq_true rfl⟩ ⟨dX5_readStatement_61, rfl⟩ ?_
          clear hv9
          refine Ev.if_eq jX5_readStatement_64 (fun hc => ?_) (fun hc => ?_)
          · replace h := (if_pos hc).symm.trans h; clear hc
            refine Ev.iconst ⟨dX5_readStatement_78, rfl⟩ (inRd rfl) ?_
            obtain rfl := Option.some.inj h
            exact Ev.ireturn (ty := .boolean) ⟨dX5_readStatement_79, rfl⟩ rfl rfl ⟨rfl, rfl⟩
          · replace h := (if_neg hc).symm.trans h; clear hc
            refine Ev.aload_n (q := 0) ⟨dX5_readStatement_67, rfl⟩ rfl rfl ?_
            obtain ⟨r12, hv11, h⟩ := bnd_s h
            refine Ev.callV1 (mc1 := 0) (ms1 := 0) (v := vi r12.1) (h1 := hq D r12.2) vX5_73 (c_X5_readValue Θ D z _ _ _ hv11) rfl rfl (by decide) rfl ⟨by decide, by decide, Nat.le_of_eq (Nat.zero_add _), Nat.le_of_eq (Nat.zero_add _), Nat.le_of_ble_eq_true rfl⟩ ⟨dX5_readStatement_68, rfl⟩ ?_
            clear hv11
            refine Ev.if_eq jX5_readStatement_71 (fun hc => ?_) (fun hc => ?_)
            · replace h := (if_pos hc).symm.trans h; clear hc
              refine Ev.iconst ⟨dX5_readStatement_78, rfl⟩ (inRd rfl) ?_
              obtain rfl := Option.some.inj h
              exact Ev.ireturn (ty := .boolean) ⟨dX5_readStatement_79, rfl⟩ rfl rfl ⟨rfl, rfl⟩
            · replace h := (if_neg hc).symm.trans h; clear hc
              refine Ev.iconst ⟨dX5_readStatement_74, rfl⟩ (inRd rfl) ?_
              refine Ev.goto jX5_readStatement_75 ?_
              obtain rfl := Option.some.inj h
              exact Ev.ireturn (ty := .boolean) ⟨dX5_readStatement_79, rfl⟩ rfl rfl ⟨rfl, rfl⟩
        · replace h := (if_neg hc).symm.trans h; clear hc
          refine Ev.aload_n (q := 0) ⟨dX5_readStatement_52, rfl⟩ rfl rfl ?_
          refine Ev.iconst ⟨dX5_readStatement_53, rfl⟩ (inRd rfl) ?_
          obtain ⟨r14, hv13, h⟩ := bnd_s h
          refine Ev.callV1 (mc1 := 0) (ms1 := 0) (v := vi r14.1) (h1 := hq D r14.2) vX5_65 (c_X5_readNode Θ D z _ _ _ _ hv13) rfl rfl (by decide) rfl ⟨by decide, by decide, Nat.le_of_eq (Nat.zero_add _), Nat.le_of_eq (Nat.zero_add _), Nat.le_of_ble_eq_true rfl⟩ ⟨dX5_readStatement_54, rfl⟩ ?_
          clear hv13
          obtain ⟨c15, h⟩ := ckZ_s h
          obtain rfl := Option.some.inj h
          exact Ev.ireturn (ty := .boolean) ⟨dX5_readStatement_57, rfl⟩ rfl (nz c15) ⟨rfl, rfl⟩
      · replace h := (if_neg hc).symm.trans h; clear hc
        refine Ev.aload_n (q := 0) ⟨dX5_readStatement_37, rfl⟩ rfl rfl ?_
        refine Ev.iconst ⟨dX5_readStatement_38, rfl⟩ (inRd rfl) ?_
        obtain ⟨r17, hv16, h⟩ := bnd_s h
        refine Ev.callV1 (mc1 := 0) (ms1 := 0) (v := vi r17.1) (h1 := hq D r17.2) vX5_65 (c_X5_readNode Θ D z _ _ _ _ hv16) rfl rfl (by decide) rfl ⟨by decide, by decide, Nat.le_of_eq (Nat.zero_add _), Nat.le_of_eq (Nat.zero_add _), Nat.le_of_ble_eq_true rfl⟩ ⟨dX5_readStatement_39, rfl⟩ ?_
        clear hv16
        obtain ⟨c18, h⟩ := ckZ_s h
        obtain rfl := Option.some.inj h
        exact Ev.ireturn (ty := .boolean) ⟨dX5_readStatement_42, rfl⟩ rfl (nz c18) ⟨rfl, rfl⟩
    · replace h := (if_neg hc).symm.trans h; clear hc
      refine Ev.aload_n (q := 0) ⟨dX5_readStatement_23, rfl⟩ rfl rfl ?_
      obtain ⟨r20, hv19, h⟩ := bnd_s h
      refine Ev.callV1 (mc1 := 0) (ms1 := 0) (v := vi r20.1) (h1 := hq D r20.2) vX5_60 (c_X5_readClient Θ D z _ _ _ hv19) rfl rfl (by decide) rfl ⟨by decide, by decide, Nat.le_of_eq (Nat.zero_add _), Nat.le_of_eq (Nat.zero_add _), Nat.le_of_ble_eq_true rfl⟩ ⟨dX5_readStatement_24, rfl⟩ ?_
      clear hv19
      obtain ⟨c21, h⟩ := ckZ_s h
      obtain rfl := Option.some.inj h
      exact Ev.ireturn (ty := .boolean) ⟨dX5_readStatement_27, rfl⟩ rfl (nz c21) ⟨rfl, rfl⟩
  · replace h := (if_neg hc).symm.trans h; clear hc
    refine Ev.aload_n (q := 0) ⟨dX5_readStatement_9, rfl⟩ rfl rfl ?_
    obtain ⟨r23, hv22, h⟩ := bnd_s h
    refine Ev.callV1 (mc1 := 0) (ms1 := 0) (v := vi r23.1) (h1 := hq D r23.2) vX5_55 (c_X5_readField Θ D z _ _ _ hv22) rfl rfl (by decide) rfl ⟨by decide, by decide, Nat.le_of_eq (Nat.zero_add _), Nat.le_of_eq (Nat.zero_add _), Nat.le_of_ble_eq_true rfl⟩ ⟨dX5_readStatement_10, rfl⟩ ?_
    clear hv22
    obtain ⟨c24, h⟩ := ckZ_s h
    obtain rfl := Option.some.inj h
    exact Ev.ireturn (ty := .boolean) ⟨dX5_readStatement_13, rfl⟩ rfl (nz c24) ⟨rfl, rfl⟩

def F_X5_readAll_18 (z : Nat) (v0 : Nat) : Nat → Int → Mm → Option ((Mm) ⊕ (Int × Mm))
  | 0, _, _ => none
  | k + 1, v1, x => if (600 : Int) < v1 then (some (.inl x)) else ((F_X5_readStatement z (v0) x).bind fun r7 => if r7.1 = 0 then (some (.inr ((r7.2.1 5 v0 4), r7.2))) else (if (r7.2.1 5 v0 3) = 0 then (some (.inr ((-1 : Int), r7.2))) else ((F_X5_isSign z (v0) ((59 : Int)) r7.2).bind fun r9 => if r9 = 0 then (some (.inr ((r7.2.1 5 v0 4), r7.2))) else ((F_X5_nextToken z (v0) r7.2).bind fun r11 => ckR ((v1 + 1)) <| F_X5_readAll_18 z v0 k ((v1 + 1)) r11))))
set_option maxHeartbeats 4000000 in
set_option maxRecDepth 20000 in
theorem e_X5_readAll_18 (Θ : GC) (D : Nat → Nat → Prop) (z : Nat) (v0 : Nat) (Q : Ro → Hp → Prop) (mc ms : Nat) : ∀ (k : Nat) (v1 : Int) (x : Mm) (y), F_X5_readAll_18 z v0 k v1 x = some y → (∀ s, y = .inl s → Ev Θ mX5_readAll 8 168 mc ms 70 [(0, vr 5 (v0 + 1))] [] (hq D s) Q) → (∀ r, y = .inr r → Q (.inl (some (vi r.1))) (hq D r.2)) → Ev Θ mX5_readAll 8 168 mc ms 18 [(0, vr 5 (v0 + 1)), (1, vi (v1))] [] (hq D x) Q := by
  intro k
  induction k with
  | zero => intro v1 x y h; exact absurd h (by unfold F_X5_readAll_18; exact nofun)
  | succ k ih =>
    intro v1 x y h k1 k2
    unfold F_X5_readAll_18 at h
    refine Ev.iload_n (q := 1) ⟨dX5_readAll_18, rfl⟩ rfl rfl ?_
    refine Ev.sipush ⟨dX5_readAll_19, rfl⟩ (inRd rfl) (by decide) ?_
    refine Ev.icmp_gt jX5_readAll_22 (fun hc => ?_) (fun hc => ?_)
    · replace h := (if_pos hc).symm.trans h; clear hc
      refine Ev.keep [0] rfl ?_
      obtain rfl := Option.some.inj h
      exact k1 _ rfl
    · replace h := (if_neg hc).symm.trans h; clear hc
      refine Ev.aload_n (q := 0) ⟨dX5_readAll_25, rfl⟩ rfl rfl ?_
      obtain ⟨r7, hv6, h⟩ := bnd_s h
      refine Ev.callV1 (mc1 := mc) (ms1 := ms) (v := vi r7.1) (h1 := hq D r7.2) vX5_35 (c_X5_readStatement Θ D z _ _ _ hv6) rfl rfl (by decide) rfl ⟨by decide, by decide, Nat.le_of_eq (Nat.zero_add _), Nat.le_of_eq (Nat.zero_add _), Nat.le_of_ble_eq_true rfl⟩ ⟨dX5_readAll_26, rfl⟩ ?_
      clear hv6
      refine Ev.if_ne jX5_readAll_29 (fun hc => ?_) (fun hc => ?_)
      · replace h := (if_neg hc).symm.trans h; clear hc
        refine Ev.aload_n (q := 0) ⟨dX5_readAll_37, rfl⟩ rfl rfl ?_
        refine Ev.getI fX5_42 (Or.inl rfl) ⟨dX5_readAll_38, rfl⟩ ?_
        refine Ev.if_ne jX5_readAll_41 (fun hc => ?_) (fun hc => ?_)
        · replace h := (if_neg hc).symm.trans h; clear hc
          refine Ev.aload_n (q := 0) ⟨dX5_readAll_46, rfl⟩ rfl rfl ?_
          refine Ev.bipush ⟨dX5_readAll_47, rfl⟩ (inRd rfl) (by decide) ?_
          obtain ⟨r9, hv8, h⟩ := bnd_s h
          refine Ev.callV1 (mc1 := mc) (ms1 := ms) (v := vi r9) (h1 := hq D r7.2) vX5_45 (c_X5_isSign Θ D z _ _ _ _ hv8) rfl rfl (by decide) rfl ⟨by decide, by decide, Nat.le_of_eq (Nat.zero_add _), Nat.le_of_eq (Nat.zero_add _), Nat.le_of_ble_eq_true rfl⟩ ⟨dX5_readAll_49, rfl⟩ ?_
          clear hv8
          refine Ev.if_ne jX5_readAll_52 (fun hc => ?_) (fun hc => ?_)
          · replace h := (if_neg hc).symm.trans h; clear hc
            refine Ev.aload_n (q := 0) ⟨dX5_readAll_60, rfl⟩ rfl rfl ?_
            obtain ⟨r11, hv10, h⟩ := bnd_s h
            refine Ev.callVN (mc1 := mc) (ms1 := ms) (h1 := hq D r11) vX5_32 (c_X5_nextToken Θ D z _ _ _ hv10) rfl rfl (by decide) rfl ⟨by decide, by decide, Nat.le_of_eq (Nat.zero_add _), Nat.le_of_eq (Nat.zero_add _), Nat.le_of_ble_eq_true rfl⟩ ⟨dX5_readAll_61, rfl⟩ ?_
            clear hv10
            obtain ⟨c12, h⟩ := ckR_s h
            refine Ev.iinc (q := 1) (ls' := [(0, _), (1, _)]) ⟨dX5_readAll_64, rfl⟩ rfl (by decide) c12 rfl ?_
            refine Ev.goto jX5_readAll_67 ?_
            exact ih _ _ _ h k1 k2
          · replace h := (if_pos hc).symm.trans h; clear hc
            refine Ev.aload_n (q := 0) ⟨dX5_readAll_55, rfl⟩ rfl rfl ?_
            refine Ev.getI fX5_39 (Or.inl rfl) ⟨dX5_readAll_56, rfl⟩ ?_
            obtain rfl := Option.some.inj h
            exact Ev.ireturn (ty := .int) ⟨dX5_readAll_59, rfl⟩ rfl rfl (k2 _ rfl)
        · replace h := (if_pos hc).symm.trans h; clear hc
          refine Ev.iconst ⟨dX5_readAll_44, rfl⟩ (inRd rfl) ?_
          obtain rfl := Option.some.inj h
          exact Ev.ireturn (ty := .int) ⟨dX5_readAll_45, rfl⟩ rfl rfl (k2 _ rfl)
      · replace h := (if_pos hc).symm.trans h; clear hc
        refine Ev.aload_n (q := 0) ⟨dX5_readAll_32, rfl⟩ rfl rfl ?_
        refine Ev.getI fX5_39 (Or.inl rfl) ⟨dX5_readAll_33, rfl⟩ ?_
        obtain rfl := Option.some.inj h
        exact Ev.ireturn (ty := .int) ⟨dX5_readAll_36, rfl⟩ rfl rfl (k2 _ rfl)
def F_X5_readAll (z : Nat) (v0 : Nat) (x : Mm) : Option (Int × Mm) := (F_X6_reset z (10) x).bind fun r2 => (some (wI r2 5 v0 5 ((0 : Int)))).bind fun x3 => (F_X5_nextToken z (v0) x3).bind fun r5 => bndE (fun r => r) (F_X5_readAll_18 z (v0) z ((0 : Int)) r5) fun s13 => some (((s13.1 5 v0 4), s13))
set_option maxHeartbeats 4000000 in
set_option maxRecDepth 20000 in
theorem c_X5_readAll (Θ : GC) (D : Nat → Nat → Prop) (z : Nat) (v0 : Nat) (x : Mm) (y) (h : F_X5_readAll z v0 x = some y) : Cal Θ mX5_readAll 8 168 0 0 [vr 5 (v0 + 1)] (hq D x) (Ret (vi y.1) (hq D y.2)) := by
  refine Cal.of (by decide +kernel) rfl rfl (Nat.le_of_ble_eq_true rfl) ?_
  show Ev Θ mX5_readAll 8 168 0 0 0 [(0, vr 5 (v0 + 1))] [] (hq D x) (Ret (vi y.1) (hq D y.2))
  unfold F_X5_readAll at h
  refine Ev.aload_n (q := 0) ⟨dX5_readAll_0, rfl⟩ rfl rfl ?_
  refine Ev.getRk (C2 := 6) (r := 10) fX5_12 rfl (by decide) (by decide) ⟨dX5_readAll_1, rfl⟩ ?_
  obtain ⟨r2, hv1, h⟩ := bnd_s h
  refine Ev.callVN (mc1 := 0) (ms1 := 0) (h1 := hq D r2) vX5_26 (c_X6_reset Θ D z _ _ _ hv1) rfl rfl (by decide) rfl ⟨by decide, by decide, Nat.le_of_eq (Nat.zero_add _), Nat.le_of_eq (Nat.zero_add _), Nat.le_of_ble_eq_true rfl⟩ ⟨dX5_readAll_4, rfl⟩ ?_
  clear hv1
  refine Ev.aload_n (q := 0) ⟨dX5_readAll_7, rfl⟩ rfl rfl ?_
  refine Ev.iconst ⟨dX5_readAll_8, rfl⟩ (inRd rfl) ?_
  obtain ⟨x3, ex, h⟩ := bnd_s h
  refine Ev.putI fX5_29 ⟨dX5_readAll_9, rfl⟩ ?_
  refine Ev.cast ?_ rfl rfl (hqI ex)
  clear ex
  refine Ev.aload_n (q := 0) ⟨dX5_readAll_12, rfl⟩ rfl rfl ?_
  obtain ⟨r5, hv4, h⟩ := bnd_s h
  refine Ev.callVN (mc1 := 0) (ms1 := 0) (h1 := hq D r5) vX5_32 (c_X5_nextToken Θ D z _ _ _ hv4) rfl rfl (by decide) rfl ⟨by decide, by decide, Nat.le_of_eq (Nat.zero_add _), Nat.le_of_eq (Nat.zero_add _), Nat.le_of_ble_eq_true rfl⟩ ⟨dX5_readAll_13, rfl⟩ ?_
  clear hv4
  refine Ev.iconst ⟨dX5_readAll_16, rfl⟩ (inRd rfl) ?_
  refine Ev.istore_n (i := 1) (ls' := [(0, _), (1, _)]) ⟨dX5_readAll_17, rfl⟩ rfl (by decide) rfl ?_
  rcases bndE_s h with ⟨s13, hl, h⟩ | ⟨r1, hl, rfl⟩
  rotate_left
  · exact e_X5_readAll_18 Θ D z _ _ _ _ _ _ _ _ hl (fun s2 e2 => by cases e2) (fun r2 e2 => by cases e2; exact ⟨rfl, rfl⟩)
  refine e_X5_readAll_18 Θ D z _ _ _ _ _ _ _ _ hl (fun s2 e2 => ?_) (fun r2 e2 => by cases e2)
  cases e2
  clear hl
  refine Ev.aload_n (q := 0) ⟨dX5_readAll_70, rfl⟩ rfl rfl ?_
  refine Ev.getI fX5_39 (Or.inl rfl) ⟨dX5_readAll_71, rfl⟩ ?_
  obtain rfl := Option.some.inj h
  exact Ev.ireturn (ty := .int) ⟨dX5_readAll_74, rfl⟩ rfl rfl ⟨rfl, rfl⟩

def F_X6_recordsBelow (z : Nat) (v0 : Nat) (v1 : Int) (x : Mm) : Option (BitVec 64) := (F_X4_atOrBelow z (v0) (v1) x).bind fun r2 => some (((r2 &&& (x.2 4 v0 1)) &&& (x.2 0 (3 * v0) 0)))
set_option maxHeartbeats 4000000 in
set_option maxRecDepth 20000 in
theorem c_X6_recordsBelow (Θ : GC) (D : Nat → Nat → Prop) (z : Nat) (v0 : Nat) (v1 : Int) (x : Mm) (y) (h : F_X6_recordsBelow z v0 v1 x = some y) : Cal Θ mX6_recordsBelow 2 46 0 0 [vr 6 (v0 + 1), vi (v1)] (hq D x) (Ret (vl y) (hq D x)) := by
  refine Cal.of (by decide +kernel) rfl rfl (Nat.le_of_ble_eq_true rfl) ?_
  show Ev Θ mX6_recordsBelow 2 46 0 0 0 [(0, vr 6 (v0 + 1)), (1, vi (v1))] [] (hq D x) (Ret (vl y) (hq D x))
  unfold F_X6_recordsBelow at h
  refine Ev.aload_n (q := 0) ⟨dX6_recordsBelow_0, rfl⟩ rfl rfl ?_
  refine Ev.getRk (C2 := 4) (r := v0) fX6_18 rfl (by decide) (by decide) ⟨dX6_recordsBelow_1, rfl⟩ ?_
  refine Ev.iload_n (q := 1) ⟨dX6_recordsBelow_4, rfl⟩ rfl rfl ?_
  obtain ⟨r2, hv1, h⟩ := bnd_s h
  refine Ev.callV1 (mc1 := 0) (ms1 := 0) (v := vl r2) (h1 := hq D x) vX6_83 (c_X4_atOrBelow Θ D z _ _ _ _ hv1) rfl rfl (by decide) rfl ⟨by decide, by decide, Nat.le_of_eq (Nat.zero_add _), Nat.le_of_eq (Nat.zero_add _), Nat.le_of_ble_eq_true rfl⟩ ⟨dX6_recordsBelow_5, rfl⟩ ?_
  clear hv1
  refine Ev.aload_n (q := 0) ⟨dX6_recordsBelow_8, rfl⟩ rfl rfl ?_
  refine Ev.getRk (C2 := 4) (r := v0) fX6_18 rfl (by decide) (by decide) ⟨dX6_recordsBelow_9, rfl⟩ ?_
  refine Ev.getL fX6_87 ⟨dX6_recordsBelow_12, rfl⟩ ?_
  refine Ev.land ⟨dX6_recordsBelow_15, rfl⟩ ?_
  refine Ev.aload_n (q := 0) ⟨dX6_recordsBelow_16, rfl⟩ rfl rfl ?_
  refine Ev.getRk (C2 := 0) (r := (3 * v0)) fX6_25 rfl (by decide) (by decide) ⟨dX6_recordsBelow_17, rfl⟩ ?_
  refine Ev.getL fX6_91 ⟨dX6_recordsBelow_20, rfl⟩ ?_
  refine Ev.land ⟨dX6_recordsBelow_23, rfl⟩ ?_
  obtain rfl := Option.some.inj h
  exact Ev.lreturn ⟨dX6_recordsBelow_24, rfl⟩ rfl ⟨rfl, rfl⟩

def F_X6_blockersOf_6 (z : Nat) (v0 : Nat) (v1 : Int) (v2 : Int) (v3 : Int) (x : Mm) : Nat → Int → Int → Option (Int)
  | 0, _, _ => none
  | k + 1, v4, v5 => if (x.1 6 v0 2) ≤ v5 then (some (v4)) else (ckI v5 5 <| if v5 = v1 then (ckR ((v5 + 1)) <| F_X6_blockersOf_6 z v0 v1 v2 v3 x k (v4) ((v5 + 1))) else (if (x.1 3 (5 * v0 + (v5).toNat) 0) = 0 then (ckR ((v5 + 1)) <| F_X6_blockersOf_6 z v0 v1 v2 v3 x k (v4) ((v5 + 1))) else (if v3 = 0 then (if (x.1 3 (5 * v0 + (v5).toNat) 3) = 0 then (ckR ((v5 + 1)) <| F_X6_blockersOf_6 z v0 v1 v2 v3 x k (v4) ((v5 + 1))) else ((F_X4_touch z (v0) (v2) ((x.1 3 (5 * v0 + (v5).toNat) 1)) x).bind fun r11 => if r11 = 0 then (ckR ((v5 + 1)) <| F_X6_blockersOf_6 z v0 v1 v2 v3 x k (v4) ((v5 + 1))) else (ckI v5 32 <| ckR ((v5 + 1)) <| F_X6_blockersOf_6 z v0 v1 v2 v3 x k ((bior v4 (w32 ((1 : Int) * 2 ^ (v5).toNat)))) ((v5 + 1))))) else ((F_X4_touch z (v0) (v2) ((x.1 3 (5 * v0 + (v5).toNat) 1)) x).bind fun r5 => if r5 = 0 then (ckR ((v5 + 1)) <| F_X6_blockersOf_6 z v0 v1 v2 v3 x k (v4) ((v5 + 1))) else (ckI v5 32 <| ckR ((v5 + 1)) <| F_X6_blockersOf_6 z v0 v1 v2 v3 x k ((bior v4 (w32 ((1 : Int) * 2 ^ (v5).toNat)))) ((v5 + 1)))))))
set_option maxHeartbeats 4000000 in
set_option maxRecDepth 20000 in
theorem e_X6_blockersOf_6 (Θ : GC) (D : Nat → Nat → Prop) (z : Nat) (v0 : Nat) (v1 : Int) (v2 : Int) (v3 : Int) (x : Mm) (Q : Ro → Hp → Prop) (mc ms : Nat) : ∀ (k : Nat) (v4 : Int) (v5 : Int) (y), F_X6_blockersOf_6 z v0 v1 v2 v3 x k v4 v5 = some y → (Ev Θ mX6_blockersOf 2 44 mc ms 81 [(0, vr 6 (v0 + 1)), (1, vi (v1)), (2, vi (v2)), (3, vi (v3)), (4, vi (y))] [] (hq D x) Q) → Ev Θ mX6_blockersOf 2 44 mc ms 6 [(0, vr 6 (v0 + 1)), (1, vi (v1)), (2, vi (v2)), (3, vi (v3)), (4, vi (v4)), (5, vi (v5))] [] (hq D x) Q := by
  intro k
  induction k with
  | zero => intro v4 v5 y h; exact absurd h (by unfold F_X6_blockersOf_6; exact nofun)
  | succ k ih =>
    intro v4 v5 y h k1
    unfold F_X6_blockersOf_6 at h
    refine Ev.iload (q := 5) ⟨dX6_blockersOf_6, rfl⟩ rfl ?_
    refine Ev.aload_n (q := 0) ⟨dX6_blockersOf_8, rfl⟩ rfl rfl ?_
    refine Ev.getI fX6_50 (Or.inl rfl) ⟨dX6_blockersOf_9, rfl⟩ ?_
    refine Ev.icmp_ge jX6_blockersOf_12 (fun hc => ?_) (fun hc => ?_)
    · replace h := (if_pos hc).symm.trans h; clear hc
      refine Ev.keep [0, 1, 2, 3, 4] rfl ?_
      obtain rfl := Option.some.inj h
      exact k1
    · replace h := (if_neg hc).symm.trans h; clear hc
      refine Ev.aload_n (q := 0) ⟨dX6_blockersOf_15, rfl⟩ rfl rfl ?_
      refine Ev.getRk (C2 := 11) (r := v0) fX6_31 rfl (by decide) (by decide) ⟨dX6_blockersOf_16, rfl⟩ ?_
      refine Ev.iload (q := 5) ⟨dX6_blockersOf_19, rfl⟩ rfl ?_
      obtain ⟨c1, h⟩ := ckI_s h
      refine Ev.aaloadk (C := 3) (r := (5 * v0 + (v5).toNat)) (by decide) c1.1 c1.2 (sr11 c1) ⟨dX6_blockersOf_21, rfl⟩ ?_
      refine Ev.astore (i := 6) (ls' := [(0, _), (1, _), (2, _), (3, _), (4, _), (5, _), (6, _)]) ⟨dX6_blockersOf_22, rfl⟩ (by decide) rfl ?_
      refine Ev.iload (q := 5) ⟨dX6_blockersOf_24, rfl⟩ rfl ?_
      refine Ev.iload_n (q := 1) ⟨dX6_blockersOf_26, rfl⟩ rfl rfl ?_
      refine Ev.icmp_eq jX6_blockersOf_27 (fun hc => ?_) (fun hc => ?_)
      · replace h := (if_pos hc).symm.trans h; clear hc
        obtain ⟨c2, h⟩ := ckR_s h
        refine Ev.iinc (q := 5) (ls' := [(0, _), (1, _), (2, _), (3, _), (4, _), (5, _), (6, _)]) ⟨dX6_blockersOf_75, rfl⟩ rfl (by decide) c2 rfl ?_
        refine Ev.goto jX6_blockersOf_78 ?_
        refine Ev.keep [0, 1, 2, 3, 4, 5] rfl ?_
        exact ih _ _ _ h k1
      · replace h := (if_neg hc).symm.trans h; clear hc
        refine Ev.aload (q := 6) ⟨dX6_blockersOf_30, rfl⟩ rfl ?_
        refine Ev.getI fX6_57 (Or.inr rfl) ⟨dX6_blockersOf_32, rfl⟩ ?_
        refine Ev.if_eq jX6_blockersOf_35 (fun hc => ?_) (fun hc => ?_)
        · replace h := (if_pos hc).symm.trans h; clear hc
          obtain ⟨c3, h⟩ := ckR_s h
          refine Ev.iinc (q := 5) (ls' := [(0, _), (1, _), (2, _), (3, _), (4, _), (5, _), (6, _)]) ⟨dX6_blockersOf_75, rfl⟩ rfl (by decide) c3 rfl ?_
          refine Ev.goto jX6_blockersOf_78 ?_
          refine Ev.keep [0, 1, 2, 3, 4, 5] rfl ?_
          exact ih _ _ _ h k1
        · replace h := (if_neg hc).symm.trans h; clear hc
          refine Ev.iload_n (q := 3) ⟨dX6_blockersOf_38, rfl⟩ rfl rfl ?_
          refine Ev.if_ne jX6_blockersOf_39 (fun hc => ?_) (fun hc => ?_)
          · replace h := (if_neg hc).symm.trans h; clear hc
            refine Ev.aload_n (q := 0) ⟨dX6_blockersOf_50, rfl⟩ rfl rfl ?_
            refine Ev.getRk (C2 := 4) (r := v0) fX6_18 rfl (by decide) (by decide) ⟨dX6_blockersOf_51, rfl⟩ ?_
            refine Ev.iload_n (q := 2) ⟨dX6_blockersOf_54, rfl⟩ rfl rfl ?_
            refine Ev.aload (q := 6) ⟨dX6_blockersOf_55, rfl⟩ rfl ?_
            refine Ev.getI fX6_97 (Or.inl rfl) ⟨dX6_blockersOf_57, rfl⟩ ?_
            obtain ⟨r5, hv4, h⟩ := bnd_s h
            refine Ev.callV1 (mc1 := mc) (ms1 := ms) (v := vi r5) (h1 := hq D x) vX6_100 (c_X4_touch Θ D z _ _ _ _ _ hv4) rfl rfl (by decide) rfl ⟨by decide, by decide, Nat.le_of_eq (Nat.zero_add _), Nat.le_of_eq (Nat.zero_add _), Nat.le_of_ble_eq_true rfl⟩ ⟨dX6_blockersOf_60, rfl⟩ ?_
            clear hv4
            refine Ev.if_eq jX6_blockersOf_63 (fun hc => ?_) (fun hc => ?_)
            · replace h := (if_pos hc).symm.trans h; clear hc
              obtain ⟨c6, h⟩ := ckR_s h
              refine Ev.iinc (q := 5) (ls' := [(0, _), (1, _), (2, _), (3, _), (4, _), (5, _), (6, _)]) ⟨dX6_blockersOf_75, rfl⟩ rfl (by decide) c6 rfl ?_
              refine Ev.goto jX6_blockersOf_78 ?_
              refine Ev.keep [0, 1, 2, 3, 4, 5] rfl ?_
              exact ih _ _ _ h k1
            · replace h := (if_neg hc).symm.trans h; clear hc
              refine Ev.iload (q := 4) ⟨dX6_blockersOf_66, rfl⟩ rfl ?_
              refine Ev.iconst ⟨dX6_blockersOf_68, rfl⟩ (inRd rfl) ?_
              refine Ev.iload (q := 5) ⟨dX6_blockersOf_69, rfl⟩ rfl ?_
              obtain ⟨c7, h⟩ := ckI_s h
              refine Ev.ishl ⟨dX6_blockersOf_71, rfl⟩ c7.1 c7.2 ?_
              refine Ev.ior ⟨dX6_blockersOf_72, rfl⟩ ?_
              refine Ev.istore (i := 4) (ls' := [(0, _), (1, _), (2, _), (3, _), (4, _), (5, _), (6, _)]) ⟨dX6_blockersOf_73, rfl⟩ (by decide) rfl ?_
              obtain ⟨c8, h⟩ := ckR_s h
              refine Ev.iinc (q := 5) (ls' := [(0, _), (1, _), (2, _), (3, _), (4, _), (5, _), (6, _)]) ⟨dX6_blockersOf_75, rfl⟩ rfl (by decide) c8 rfl ?_
              refine Ev.goto jX6_blockersOf_78 ?_
              refine Ev.keep [0, 1, 2, 3, 4, 5] rfl ?_
              exact ih _ _ _ h k1
          · replace h := (if_pos hc).symm.trans h; clear hc
            refine Ev.aload (q := 6) ⟨dX6_blockersOf_42, rfl⟩ rfl ?_
            refine Ev.getI fX6_94 (Or.inr rfl) ⟨dX6_blockersOf_44, rfl⟩ ?_
            refine Ev.if_eq jX6_blockersOf_47 (fun hc => ?_) (fun hc => ?_)
            · replace h := (if_pos hc).symm.trans h; clear hc
              obtain ⟨c9, h⟩ := ckR_s h
              refine Ev.iinc (q := 5) (ls' := [(0, _), (1, _), (2, _), (3, _), (4, _), (5, _), (6, _)]) ⟨dX6_blockersOf_75, rfl⟩ rfl (by decide) c9 rfl ?_
              refine Ev.goto jX6_blockersOf_78 ?_
              refine Ev.keep [0, 1, 2, 3, 4, 5] rfl ?_
              exact ih _ _ _ h k1
            · replace h := (if_neg hc).symm.trans h; clear hc
              refine Ev.aload_n (q := 0) ⟨dX6_blockersOf_50, rfl⟩ rfl rfl ?_
              refine Ev.getRk (C2 := 4) (r := v0) fX6_18 rfl (by decide) (by decide) ⟨dX6_blockersOf_51, rfl⟩ ?_
              refine Ev.iload_n (q := 2) ⟨dX6_blockersOf_54, rfl⟩ rfl rfl ?_
              refine Ev.aload (q := 6) ⟨dX6_blockersOf_55, rfl⟩ rfl ?_
              refine Ev.getI fX6_97 (Or.inl rfl) ⟨dX6_blockersOf_57, rfl⟩ ?_
              obtain ⟨r11, hv10, h⟩ := bnd_s h
              refine Ev.callV1 (mc1 := mc) (ms1 := ms) (v := vi r11) (h1 := hq D x) vX6_100 (c_X4_touch Θ D z _ _ _ _ _ hv10) rfl rfl (by decide) rfl ⟨by decide, by decide, Nat.le_of_eq (Nat.zero_add _), Nat.le_of_eq (Nat.zero_add _), Nat.le_of_ble_eq_true rfl⟩ ⟨dX6_blockersOf_60, rfl⟩ ?_
              clear hv10
              refine Ev.if_eq jX6_blockersOf_63 (fun hc => ?_) (fun hc => ?_)
              · replace h := (if_pos hc).symm.trans h; clear hc
                obtain ⟨c12, h⟩ := ckR_s h
                refine Ev.iinc (q := 5) (ls' := [(0, _), (1, _), (2, _), (3, _), (4, _), (5, _), (6, _)]) ⟨dX6_blockersOf_75, rfl⟩ rfl (by decide) c12 rfl ?_
                refine Ev.goto jX6_blockersOf_78 ?_
                refine Ev.keep [0, 1, 2, 3, 4, 5] rfl ?_
                exact ih _ _ _ h k1
              · replace h := (if_neg hc).symm.trans h; clear hc
                refine Ev.iload (q := 4) ⟨dX6_blockersOf_66, rfl⟩ rfl ?_
                refine Ev.iconst ⟨dX6_blockersOf_68, rfl⟩ (inRd rfl) ?_
                refine Ev.iload (q := 5) ⟨dX6_blockersOf_69, rfl⟩ rfl ?_
                obtain ⟨c13, h⟩ := ckI_s h
                refine Ev.ishl ⟨dX6_blockersOf_71, rfl⟩ c13.1 c13.2 ?_
                refine Ev.ior ⟨dX6_blockersOf_72, rfl⟩ ?_
                refine Ev.istore (i := 4) (ls' := [(0, _), (1, _), (2, _), (3, _), (4, _), (5, _), (6, _)]) ⟨dX6_blockersOf_73, rfl⟩ (by decide) rfl ?_
                obtain ⟨c14, h⟩ := ckR_s h
                refine Ev.iinc (q := 5) (ls' := [(0, _), (1, _), (2, _), (3, _), (4, _), (5, _), (6, _)]) ⟨dX6_blockersOf_75, rfl⟩ rfl (by decide) c14 rfl ?_
                refine Ev.goto jX6_blockersOf_78 ?_
                refine Ev.keep [0, 1, 2, 3, 4, 5] rfl ?_
                exact ih _ _ _ h k1
def F_X6_blockersOf (z : Nat) (v0 : Nat) (v1 : Int) (v2 : Int) (v3 : Int) (x : Mm) : Option (Int) := (F_X6_blockersOf_6 z (v0) (v1) (v2) (v3) x z ((0 : Int)) ((0 : Int))).bind fun s15 => some (s15)
set_option maxHeartbeats 4000000 in
set_option maxRecDepth 20000 in
theorem c_X6_blockersOf (Θ : GC) (D : Nat → Nat → Prop) (z : Nat) (v0 : Nat) (v1 : Int) (v2 : Int) (v3 : Int) (x : Mm) (y) (h : F_X6_blockersOf z v0 v1 v2 v3 x = some y) : Cal Θ mX6_blockersOf 2 44 0 0 [vr 6 (v0 + 1), vi (v1), vi (v2), vi (v3)] (hq D x) (Ret (vi y) (hq D x)) := by
  refine Cal.of (by decide +kernel) rfl rfl (Nat.le_of_ble_eq_true rfl) ?_
  show Ev Θ mX6_blockersOf 2 44 0 0 0 [(0, vr 6 (v0 + 1)), (1, vi (v1)), (2, vi (v2)), (3, vi (v3))] [] (hq D x) (Ret (vi y) (hq D x))
  unfold F_X6_blockersOf at h
  refine Ev.iconst ⟨dX6_blockersOf_0, rfl⟩ (inRd rfl) ?_
  refine Ev.istore (i := 4) (ls' := [(0, _), (1, _), (2, _), (3, _), (4, _)]) ⟨dX6_blockersOf_1, rfl⟩ (by decide) rfl ?_
  refine Ev.iconst ⟨dX6_blockersOf_3, rfl⟩ (inRd rfl) ?_
  refine Ev.istore (i := 5) (ls' := [(0, _), (1, _), (2, _), (3, _), (4, _), (5, _)]) ⟨dX6_blockersOf_4, rfl⟩ (by decide) rfl ?_
  obtain ⟨s15, hl, h⟩ := bnd_s h
  refine e_X6_blockersOf_6 Θ D z _ _ _ _ _ _ _ _ _ _ _ _ hl ?_
  clear hl
  refine Ev.iload (q := 4) ⟨dX6_blockersOf_81, rfl⟩ rfl ?_
  obtain rfl := Option.some.inj h
  exact Ev.ireturn (ty := .int) ⟨dX6_blockersOf_83, rfl⟩ rfl rfl ⟨rfl, rfl⟩

def F_X6_beginLease (z : Nat) (v0 : Nat) (v1 : Int) (v2 : Int) (v3 : Int) (v4 : Int) (x : Mm) : Option (Int × Mm) := ckI v1 5 <| (some (wI x 3 (5 * v0 + (v1).toNat) 0 ((1 : Int)))).bind fun x2 => (some (wI x2 3 (5 * v0 + (v1).toNat) 1 (v2))).bind fun x3 => ckR (((x3.1 6 v0 0) + v3)) <| (some (wI x3 3 (5 * v0 + (v1).toNat) 2 (((x3.1 6 v0 0) + v3)))).bind fun x5 => ckZ (v4) <| (some (wI x5 3 (5 * v0 + (v1).toNat) 3 (v4))).bind fun x7 => (some (wL x7 3 (5 * v0 + (v1).toNat) 4 ((0#64)))).bind fun x8 => (F_X0_copyFrom z ((3 * (5 * v0 + (v1).toNat) + 1)) ((3 * v0)) x8).bind fun r10 => (F_X4_atOrBelow z (v0) (v2) r10).bind fun r12 => (some (wL r10 0 (3 * (5 * v0 + (v1).toNat) + 1) 0 (((r10.2 0 (3 * (5 * v0 + (v1).toNat) + 1) 0) &&& r12)))).bind fun x13 => (F_X0_copyFrom z ((3 * (5 * v0 + (v1).toNat) + 2)) ((3 * (5 * v0 + (v1).toNat) + 1)) x13).bind fun r15 => some (((r15.1 3 (5 * v0 + (v1).toNat) 2), r15))
set_option maxHeartbeats 4000000 in
set_option maxRecDepth 20000 in
theorem c_X6_beginLease (Θ : GC) (D : Nat → Nat → Prop) (z : Nat) (v0 : Nat) (v1 : Int) (v2 : Int) (v3 : Int) (v4 : Int) (x : Mm) (y) (h : F_X6_beginLease z v0 v1 v2 v3 v4 x = some y) : Cal Θ mX6_beginLease 2 47 0 0 [vr 6 (v0 + 1), vi (v1), vi (v2), vi (v3), vi (v4)] (hq D x) (Ret (vi y.1) (hq D y.2)) := by
  refine Cal.of (by decide +kernel) rfl rfl (Nat.le_of_ble_eq_true rfl) ?_
  show Ev Θ mX6_beginLease 2 47 0 0 0 [(0, vr 6 (v0 + 1)), (1, vi (v1)), (2, vi (v2)), (3, vi (v3)), (4, vi (v4))] [] (hq D x) (Ret (vi y.1) (hq D y.2))
  unfold F_X6_beginLease at h
  refine Ev.aload_n (q := 0) ⟨dX6_beginLease_0, rfl⟩ rfl rfl ?_
  refine Ev.getRk (C2 := 11) (r := v0) fX6_31 rfl (by decide) (by decide) ⟨dX6_beginLease_1, rfl⟩ ?_
  refine Ev.iload_n (q := 1) ⟨dX6_beginLease_4, rfl⟩ rfl rfl ?_
  obtain ⟨c1, h⟩ := ckI_s h
  refine Ev.aaloadk (C := 3) (r := (5 * v0 + (v1).toNat)) (by decide) c1.1 c1.2 (sr11 c1) ⟨dX6_beginLease_5, rfl⟩ ?_
  refine Ev.astore (i := 5) (ls' := [(0, _), (1, _), (2, _), (3, _), (4, _), (5, _)]) ⟨dX6_beginLease_6, rfl⟩ (by decide) rfl ?_
  refine Ev.aload (q := 5) ⟨dX6_beginLease_8, rfl⟩ rfl ?_
  refine Ev.iconst ⟨dX6_beginLease_10, rfl⟩ (inRd rfl) ?_
  obtain ⟨x2, ex, h⟩ := bnd_s h
  refine Ev.putZ fX6_57 (by decide) ⟨dX6_beginLease_11, rfl⟩ ?_
  refine Ev.cast ?_ rfl rfl (hqI ex)
  clear ex
  refine Ev.aload (q := 5) ⟨dX6_beginLease_14, rfl⟩ rfl ?_
  refine Ev.iload_n (q := 2) ⟨dX6_beginLease_16, rfl⟩ rfl rfl ?_
  obtain ⟨x3, ex, h⟩ := bnd_s h
  refine Ev.putI fX6_97 ⟨dX6_beginLease_17, rfl⟩ ?_
  refine Ev.cast ?_ rfl rfl (hqI ex)
  clear ex
  refine Ev.aload (q := 5) ⟨dX6_beginLease_20, rfl⟩ rfl ?_
  refine Ev.aload_n (q := 0) ⟨dX6_beginLease_22, rfl⟩ rfl rfl ?_
  refine Ev.getI fX6_43 (Or.inl rfl) ⟨dX6_beginLease_23, rfl⟩ ?_
  refine Ev.iload_n (q := 3) ⟨dX6_beginLease_26, rfl⟩ rfl rfl ?_
  obtain ⟨c4, h⟩ := ckR_s h
  refine Ev.iadd ⟨dX6_beginLease_27, rfl⟩ c4 ?_
  obtain ⟨x5, ex, h⟩ := bnd_s h
  refine Ev.putI fX6_104 ⟨dX6_beginLease_28, rfl⟩ ?_
  refine Ev.cast ?_ rfl rfl (hqI ex)
  clear ex
  refine Ev.aload (q := 5) ⟨dX6_beginLease_31, rfl⟩ rfl ?_
  refine Ev.iload (q := 4) ⟨dX6_beginLease_33, rfl⟩ rfl ?_
  obtain ⟨c6, h⟩ := ckZ_s h
  obtain ⟨x7, ex, h⟩ := bnd_s h
  refine Ev.putZ fX6_94 c6 ⟨dX6_beginLease_35, rfl⟩ ?_
  refine Ev.cast ?_ rfl rfl (hqI ex)
  clear ex
  refine Ev.aload (q := 5) ⟨dX6_beginLease_38, rfl⟩ rfl ?_
  refine Ev.lconst (b := BitVec.ofInt 64 0) ⟨dX6_beginLease_40, rfl⟩ (by decide) ?_
  obtain ⟨x8, ex, h⟩ := bnd_s h
  refine Ev.putL fX6_107 ⟨dX6_beginLease_41, rfl⟩ ?_
  refine Ev.cast ?_ rfl rfl (hqL ex)
  clear ex
  refine Ev.aload (q := 5) ⟨dX6_beginLease_44, rfl⟩ rfl ?_
  refine Ev.getRk (C2 := 0) (r := (3 * (5 * v0 + (v1).toNat) + 1)) fX6_110 rfl (by decide) (by decide) ⟨dX6_beginLease_46, rfl⟩ ?_
  refine Ev.aload_n (q := 0) ⟨dX6_beginLease_49, rfl⟩ rfl rfl ?_
  refine Ev.getRk (C2 := 0) (r := (3 * v0)) fX6_25 rfl (by decide) (by decide) ⟨dX6_beginLease_50, rfl⟩ ?_
  obtain ⟨r10, hv9, h⟩ := bnd_s h
  refine Ev.callVN (mc1 := 0) (ms1 := 0) (h1 := hq D r10) vX6_74 (c_X0_copyFrom Θ D z _ _ _ _ hv9) rfl rfl (by decide) rfl ⟨by decide, by decide, Nat.le_of_eq (Nat.zero_add _), Nat.le_of_eq (Nat.zero_add _), Nat.le_of_ble_eq_true rfl⟩ ⟨dX6_beginLease_53, rfl⟩ ?_
  clear hv9
  refine Ev.aload (q := 5) ⟨dX6_beginLease_56, rfl⟩ rfl ?_
  refine Ev.getRk (C2 := 0) (r := (3 * (5 * v0 + (v1).toNat) + 1)) fX6_110 rfl (by decide) (by decide) ⟨dX6_beginLease_58, rfl⟩ ?_
  refine Ev.dup ⟨dX6_beginLease_61, rfl⟩ rfl ?_
  refine Ev.getL fX6_91 ⟨dX6_beginLease_62, rfl⟩ ?_
  refine Ev.aload_n (q := 0) ⟨dX6_beginLease_65, rfl⟩ rfl rfl ?_
  refine Ev.getRk (C2 := 4) (r := v0) fX6_18 rfl (by decide) (by decide) ⟨dX6_beginLease_66, rfl⟩ ?_
  refine Ev.iload_n (q := 2) ⟨dX6_beginLease_69, rfl⟩ rfl rfl ?_
  obtain ⟨r12, hv11, h⟩ := bnd_s h
  refine Ev.callV1 (mc1 := 0) (ms1 := 0) (v := vl r12) (h1 := hq D r10) vX6_83 (c_X4_atOrBelow Θ D z _ _ _ _ hv11) rfl rfl (by decide) rfl ⟨by decide, by decide, Nat.le_of_eq (Nat.zero_add _), Nat.le_of_eq (Nat.zero_add _), Nat.le_of_ble_eq_true rfl⟩ ⟨dX6_beginLease_70, rfl⟩ ?_
  clear hv11
  refine Ev.land ⟨dX6_beginLease_73, rfl⟩ ?_
  obtain ⟨x13, ex, h⟩ := bnd_s h
  refine Ev.putL fX6_91 ⟨dX6_beginLease_74, rfl⟩ ?_
  refine Ev.cast ?_ rfl rfl (hqL ex)
  clear ex
  refine Ev.aload (q := 5) ⟨dX6_beginLease_77, rfl⟩ rfl ?_
  refine Ev.getRk (C2 := 0) (r := (3 * (5 * v0 + (v1).toNat) + 2)) fX6_113 rfl (by decide) (by decide) ⟨dX6_beginLease_79, rfl⟩ ?_
  refine Ev.aload (q := 5) ⟨dX6_beginLease_82, rfl⟩ rfl ?_
  refine Ev.getRk (C2 := 0) (r := (3 * (5 * v0 + (v1).toNat) + 1)) fX6_110 rfl (by decide) (by decide) ⟨dX6_beginLease_84, rfl⟩ ?_
  obtain ⟨r15, hv14, h⟩ := bnd_s h
  refine Ev.callVN (mc1 := 0) (ms1 := 0) (h1 := hq D r15) vX6_74 (c_X0_copyFrom Θ D z _ _ _ _ hv14) rfl rfl (by decide) rfl ⟨by decide, by decide, Nat.le_of_eq (Nat.zero_add _), Nat.le_of_eq (Nat.zero_add _), Nat.le_of_ble_eq_true rfl⟩ ⟨dX6_beginLease_87, rfl⟩ ?_
  clear hv14
  refine Ev.aload (q := 5) ⟨dX6_beginLease_90, rfl⟩ rfl ?_
  refine Ev.getI fX6_104 (Or.inl rfl) ⟨dX6_beginLease_92, rfl⟩ ?_
  obtain rfl := Option.some.inj h
  exact Ev.ireturn (ty := .int) ⟨dX6_beginLease_95, rfl⟩ rfl rfl ⟨rfl, rfl⟩

def F_X6_addToCopy (z : Nat) (v0 : Nat) (v1 : Int) (v2 : Int) (v3 : Int) (v4 : Int) (x : Mm) : Option (Int × Mm) := ckI v1 5 <| (F_X4_addNext z (v0) (v2) (v3) (v4) x).bind fun r3 => (F_X7_bit z (r3.1) r3.2).bind fun r5 => (some (wL r3.2 3 (5 * v0 + (v1).toNat) 4 (((r3.2.2 3 (5 * v0 + (v1).toNat) 4) ||| r5)))).bind fun x6 => (F_X7_bit z (r3.1) x6).bind fun r8 => (some (wL x6 0 (3 * (5 * v0 + (v1).toNat) + 2) 0 (((x6.2 0 (3 * (5 * v0 + (v1).toNat) + 2) 0) ||| r8)))).bind fun x9 => (F_X0_clearFields z ((3 * (5 * v0 + (v1).toNat) + 2)) (r3.1) x9).bind fun r11 => some ((r3.1, r11))
set_option maxHeartbeats 4000000 in
set_option maxRecDepth 20000 in
theorem c_X6_addToCopy (Θ : GC) (D : Nat → Nat → Prop) (z : Nat) (v0 : Nat) (v1 : Int) (v2 : Int) (v3 : Int) (v4 : Int) (x : Mm) (y) (h : F_X6_addToCopy z v0 v1 v2 v3 v4 x = some y) : Cal Θ mX6_addToCopy 2 45 0 0 [vr 6 (v0 + 1), vi (v1), vi (v2), vi (v3), vi (v4)] (hq D x) (Ret (vi y.1) (hq D y.2)) := by
  refine Cal.of (by decide +kernel) rfl rfl (Nat.le_of_ble_eq_true rfl) ?_
  show Ev Θ mX6_addToCopy 2 45 0 0 0 [(0, vr 6 (v0 + 1)), (1, vi (v1)), (2, vi (v2)), (3, vi (v3)), (4, vi (v4))] [] (hq D x) (Ret (vi y.1) (hq D y.2))
  unfold F_X6_addToCopy at h
  refine Ev.aload_n (q := 0) ⟨dX6_addToCopy_0, rfl⟩ rfl rfl ?_
  refine Ev.getRk (C2 := 11) (r := v0) fX6_31 rfl (by decide) (by decide) ⟨dX6_addToCopy_1, rfl⟩ ?_
  refine Ev.iload_n (q := 1) ⟨dX6_addToCopy_4, rfl⟩ rfl rfl ?_
  obtain ⟨c1, h⟩ := ckI_s h
  refine Ev.aaloadk (C := 3) (r := (5 * v0 + (v1).toNat)) (by decide) c1.1 c1.2 (sr11 c1) ⟨dX6_addToCopy_5, rfl⟩ ?_
  refine Ev.astore (i := 5) (ls' := [(0, _), (1, _), (2, _), (3, _), (4, _), (5, _)]) ⟨dX6_addToCopy_6, rfl⟩ (by decide) rfl ?_
  refine Ev.aload_n (q := 0) ⟨dX6_addToCopy_8, rfl⟩ rfl rfl ?_
  refine Ev.getRk (C2 := 4) (r := v0) fX6_18 rfl (by decide) (by decide) ⟨dX6_addToCopy_9, rfl⟩ ?_
  refine Ev.iload_n (q := 2) ⟨dX6_addToCopy_12, rfl⟩ rfl rfl ?_
  refine Ev.iload_n (q := 3) ⟨dX6_addToCopy_13, rfl⟩ rfl rfl ?_
  refine Ev.iload (q := 4) ⟨dX6_addToCopy_14, rfl⟩ rfl ?_
  obtain ⟨r3, hv2, h⟩ := bnd_s h
  refine Ev.callV1 (mc1 := 0) (ms1 := 0) (v := vi r3.1) (h1 := hq D r3.2) vX6_116 (c_X4_addNext Θ D z _ _ _ _ _ _ hv2) rfl rfl (by decide) rfl ⟨by decide, by decide, Nat.le_of_eq (Nat.zero_add _), Nat.le_of_eq (Nat.zero_add _), Nat.le_of_ble_eq_true rfl⟩ ⟨dX6_addToCopy_16, rfl⟩ ?_
  clear hv2
  refine Ev.istore (i := 6) (ls' := [(0, _), (1, _), (2, _), (3, _), (4, _), (5, _), (6, _)]) ⟨dX6_addToCopy_19, rfl⟩ (by decide) rfl ?_
  refine Ev.aload (q := 5) ⟨dX6_addToCopy_21, rfl⟩ rfl ?_
  refine Ev.dup ⟨dX6_addToCopy_23, rfl⟩ rfl ?_
  refine Ev.getL fX6_107 ⟨dX6_addToCopy_24, rfl⟩ ?_
  refine Ev.iload (q := 6) ⟨dX6_addToCopy_27, rfl⟩ rfl ?_
  obtain ⟨r5, hv4, h⟩ := bnd_s h
  refine Ev.callN1 (mc1 := 0) (ms1 := 0) (v := vl r5) (h1 := hq D r3.2) nX6_120 (c_X7_bit Θ D z _ _ _ hv4) rfl rfl ⟨by decide, by decide, Nat.le_of_eq (Nat.zero_add _), Nat.le_of_eq (Nat.zero_add _), Nat.le_of_ble_eq_true rfl⟩ ⟨dX6_addToCopy_29, rfl⟩ ?_
  clear hv4
  refine Ev.lor ⟨dX6_addToCopy_32, rfl⟩ ?_
  obtain ⟨x6, ex, h⟩ := bnd_s h
  refine Ev.putL fX6_107 ⟨dX6_addToCopy_33, rfl⟩ ?_
  refine Ev.cast ?_ rfl rfl (hqL ex)
  clear ex
  refine Ev.aload (q := 5) ⟨dX6_addToCopy_36, rfl⟩ rfl ?_
  refine Ev.getRk (C2 := 0) (r := (3 * (5 * v0 + (v1).toNat) + 2)) fX6_113 rfl (by decide) (by decide) ⟨dX6_addToCopy_38, rfl⟩ ?_
  refine Ev.dup ⟨dX6_addToCopy_41, rfl⟩ rfl ?_
  refine Ev.getL fX6_91 ⟨dX6_addToCopy_42, rfl⟩ ?_
  refine Ev.iload (q := 6) ⟨dX6_addToCopy_45, rfl⟩ rfl ?_
  obtain ⟨r8, hv7, h⟩ := bnd_s h
  refine Ev.callN1 (mc1 := 0) (ms1 := 0) (v := vl r8) (h1 := hq D x6) nX6_120 (c_X7_bit Θ D z _ _ _ hv7) rfl rfl ⟨by decide, by decide, Nat.le_of_eq (Nat.zero_add _), Nat.le_of_eq (Nat.zero_add _), Nat.le_of_ble_eq_true rfl⟩ ⟨dX6_addToCopy_47, rfl⟩ ?_
  clear hv7
  refine Ev.lor ⟨dX6_addToCopy_50, rfl⟩ ?_
  obtain ⟨x9, ex, h⟩ := bnd_s h
  refine Ev.putL fX6_91 ⟨dX6_addToCopy_51, rfl⟩ ?_
  refine Ev.cast ?_ rfl rfl (hqL ex)
  clear ex
  refine Ev.aload (q := 5) ⟨dX6_addToCopy_54, rfl⟩ rfl ?_
  refine Ev.getRk (C2 := 0) (r := (3 * (5 * v0 + (v1).toNat) + 2)) fX6_113 rfl (by decide) (by decide) ⟨dX6_addToCopy_56, rfl⟩ ?_
  refine Ev.iload (q := 6) ⟨dX6_addToCopy_59, rfl⟩ rfl ?_
  obtain ⟨r11, hv10, h⟩ := bnd_s h
  refine Ev.callVN (mc1 := 0) (ms1 := 0) (h1 := hq D r11) vX6_123 (c_X0_clearFields Θ D z _ _ _ _ hv10) rfl rfl (by decide) rfl ⟨by decide, by decide, Nat.le_of_eq (Nat.zero_add _), Nat.le_of_eq (Nat.zero_add _), Nat.le_of_ble_eq_true rfl⟩ ⟨dX6_addToCopy_61, rfl⟩ ?_
  clear hv10
  refine Ev.iload (q := 6) ⟨dX6_addToCopy_64, rfl⟩ rfl ?_
  obtain rfl := Option.some.inj h
  exact Ev.ireturn (ty := .int) ⟨dX6_addToCopy_66, rfl⟩ rfl rfl ⟨rfl, rfl⟩

def F_X6_changedIn_4 (z : Nat) (v0 : Nat) (v1 : Int) (x : Mm) : Nat → Int → Int → Option (Int)
  | 0, _, _ => none
  | k + 1, v2, v3 => if (x.1 4 v0 0) ≤ v3 then (some (v2)) else (ckI v1 5 <| (F_X3_changedFields z ((5 * v0 + (v1).toNat)) (v3) x).bind fun r3 => ckR ((v2 + r3)) <| ckR ((v3 + 1)) <| F_X6_changedIn_4 z v0 v1 x k ((v2 + r3)) ((v3 + 1)))
set_option maxHeartbeats 4000000 in
set_option maxRecDepth 20000 in
theorem e_X6_changedIn_4 (Θ : GC) (D : Nat → Nat → Prop) (z : Nat) (v0 : Nat) (v1 : Int) (x : Mm) (Q : Ro → Hp → Prop) (mc ms : Nat) : ∀ (k : Nat) (v2 : Int) (v3 : Int) (y), F_X6_changedIn_4 z v0 v1 x k v2 v3 = some y → (Ev Θ mX6_changedIn 3 67 mc ms 34 [(0, vr 6 (v0 + 1)), (1, vi (v1)), (2, vi (y))] [] (hq D x) Q) → Ev Θ mX6_changedIn 3 67 mc ms 4 [(0, vr 6 (v0 + 1)), (1, vi (v1)), (2, vi (v2)), (3, vi (v3))] [] (hq D x) Q := by
  intro k
  induction k with
  | zero => intro v2 v3 y h; exact absurd h (by unfold F_X6_changedIn_4; exact nofun)
  | succ k ih =>
    intro v2 v3 y h k1
    unfold F_X6_changedIn_4 at h
    refine Ev.iload_n (q := 3) ⟨dX6_changedIn_4, rfl⟩ rfl rfl ?_
    refine Ev.aload_n (q := 0) ⟨dX6_changedIn_5, rfl⟩ rfl rfl ?_
    refine Ev.getRk (C2 := 4) (r := v0) fX6_18 rfl (by decide) (by decide) ⟨dX6_changedIn_6, rfl⟩ ?_
    refine Ev.getI fX6_127 (Or.inl rfl) ⟨dX6_changedIn_9, rfl⟩ ?_
    refine Ev.icmp_ge jX6_changedIn_12 (fun hc => ?_) (fun hc => ?_)
    · replace h := (if_pos hc).symm.trans h; clear hc
      refine Ev.keep [0, 1, 2] rfl ?_
      obtain rfl := Option.some.inj h
      exact k1
    · replace h := (if_neg hc).symm.trans h; clear hc
      refine Ev.iload_n (q := 2) ⟨dX6_changedIn_15, rfl⟩ rfl rfl ?_
      refine Ev.aload_n (q := 0) ⟨dX6_changedIn_16, rfl⟩ rfl rfl ?_
      refine Ev.getRk (C2 := 11) (r := v0) fX6_31 rfl (by decide) (by decide) ⟨dX6_changedIn_17, rfl⟩ ?_
      refine Ev.iload_n (q := 1) ⟨dX6_changedIn_20, rfl⟩ rfl rfl ?_
      obtain ⟨c1, h⟩ := ckI_s h
      refine Ev.aaloadk (C := 3) (r := (5 * v0 + (v1).toNat)) (by decide) c1.1 c1.2 (sr11 c1) ⟨dX6_changedIn_21, rfl⟩ ?_
      refine Ev.iload_n (q := 3) ⟨dX6_changedIn_22, rfl⟩ rfl rfl ?_
      obtain ⟨r3, hv2, h⟩ := bnd_s h
      refine Ev.callV1 (mc1 := mc) (ms1 := ms) (v := vi r3) (h1 := hq D x) vX6_128 (c_X3_changedFields Θ D z _ _ _ _ hv2) rfl rfl (by decide) rfl ⟨by decide, by decide, Nat.le_of_eq (Nat.zero_add _), Nat.le_of_eq (Nat.zero_add _), Nat.le_of_ble_eq_true rfl⟩ ⟨dX6_changedIn_23, rfl⟩ ?_
      clear hv2
      obtain ⟨c4, h⟩ := ckR_s h
      refine Ev.iadd ⟨dX6_changedIn_26, rfl⟩ c4 ?_
      refine Ev.istore_n (i := 2) (ls' := [(0, _), (1, _), (2, _), (3, _)]) ⟨dX6_changedIn_27, rfl⟩ rfl (by decide) rfl ?_
      obtain ⟨c5, h⟩ := ckR_s h
      refine Ev.iinc (q := 3) (ls' := [(0, _), (1, _), (2, _), (3, _)]) ⟨dX6_changedIn_28, rfl⟩ rfl (by decide) c5 rfl ?_
      refine Ev.goto jX6_changedIn_31 ?_
      exact ih _ _ _ h k1
def F_X6_changedIn (z : Nat) (v0 : Nat) (v1 : Int) (x : Mm) : Option (Int) := (F_X6_changedIn_4 z (v0) (v1) x z ((0 : Int)) ((0 : Int))).bind fun s6 => some (s6)
set_option maxHeartbeats 4000000 in
set_option maxRecDepth 20000 in
theorem c_X6_changedIn (Θ : GC) (D : Nat → Nat → Prop) (z : Nat) (v0 : Nat) (v1 : Int) (x : Mm) (y) (h : F_X6_changedIn z v0 v1 x = some y) : Cal Θ mX6_changedIn 3 67 0 0 [vr 6 (v0 + 1), vi (v1)] (hq D x) (Ret (vi y) (hq D x)) := by
  refine Cal.of (by decide +kernel) rfl rfl (Nat.le_of_ble_eq_true rfl) ?_
  show Ev Θ mX6_changedIn 3 67 0 0 0 [(0, vr 6 (v0 + 1)), (1, vi (v1))] [] (hq D x) (Ret (vi y) (hq D x))
  unfold F_X6_changedIn at h
  refine Ev.iconst ⟨dX6_changedIn_0, rfl⟩ (inRd rfl) ?_
  refine Ev.istore_n (i := 2) (ls' := [(0, _), (1, _), (2, _)]) ⟨dX6_changedIn_1, rfl⟩ rfl (by decide) rfl ?_
  refine Ev.iconst ⟨dX6_changedIn_2, rfl⟩ (inRd rfl) ?_
  refine Ev.istore_n (i := 3) (ls' := [(0, _), (1, _), (2, _), (3, _)]) ⟨dX6_changedIn_3, rfl⟩ rfl (by decide) rfl ?_
  obtain ⟨s6, hl, h⟩ := bnd_s h
  refine e_X6_changedIn_4 Θ D z _ _ _ _ _ _ _ _ _ _ hl ?_
  clear hl
  refine Ev.iload_n (q := 2) ⟨dX6_changedIn_34, rfl⟩ rfl rfl ?_
  obtain rfl := Option.some.inj h
  exact Ev.ireturn (ty := .int) ⟨dX6_changedIn_35, rfl⟩ rfl rfl ⟨rfl, rfl⟩

def F_X6_joinAdded_14 (z : Nat) (v0 : Nat) (v1 : Int) (v2 : Nat) (v3 : Nat) (v4 : Nat) : Nat → Int → Int → Mm → Option (Int × Mm)
  | 0, _, _, _ => none
  | k + 1, v5, v6, x => if (x.1 4 v0 0) ≤ v6 then (some ((v5, x))) else ((F_X7_contains z (((x.2 3 v4 4) &&& (x.2 0 (3 * v4 + 2) 0))) (v6) x).bind fun r3 => if r3 = 0 then (ckR ((v6 + 1)) <| F_X6_joinAdded_14 z v0 v1 v2 v3 v4 k (v5) ((v6 + 1)) x) else (ckI v6 60 <| (F_X0_has z (v2) ((x.1 21 v0 (v6).toNat)) x).bind fun r6 => if r6 = 0 then ((F_X1_add z (v3) ((2 : Int)) (v6) ((-1 : Int)) ((0 : Int)) (v1) ((x.1 6 v0 0)) x).bind fun r22 => ckR ((v5 + 1)) <| ckR ((v6 + 1)) <| F_X6_joinAdded_14 z v0 v1 v2 v3 v4 k ((v5 + 1)) ((v6 + 1)) r22) else (ckI v6 60 <| ckI v6 60 <| (F_X4_childWith z (v0) ((x.2 0 v2 0)) ((x.1 21 v0 (v6).toNat)) ((x.1 22 v0 (v6).toNat)) x).bind fun r10 => if r10 = (-1 : Int) then ((F_X7_bit z (v6) x).bind fun r12 => (some (wL x 0 v2 0 (((x.2 0 v2 0) ||| r12)))).bind fun x13 => (F_X0_takeFields z (v2) ((3 * v4 + 2)) (v6) x13).bind fun r15 => ckR ((v6 + 1)) <| F_X6_joinAdded_14 z v0 v1 v2 v3 v4 k (v5) ((v6 + 1)) r15) else ((F_X1_add z (v3) ((3 : Int)) (v6) ((-1 : Int)) ((0 : Int)) (v1) ((x.1 6 v0 0)) x).bind fun r18 => ckR ((v5 + 1)) <| ckR ((v6 + 1)) <| F_X6_joinAdded_14 z v0 v1 v2 v3 v4 k ((v5 + 1)) ((v6 + 1)) r18))))
set_option maxHeartbeats 4000000 in
set_option maxRecDepth 20000 in
theorem e_X6_joinAdded_14 (Θ : GC) (D : Nat → Nat → Prop) (z : Nat) (v0 : Nat) (v1 : Int) (v2 : Nat) (v3 : Nat) (v4 : Nat) (Q : Ro → Hp → Prop) (mc ms : Nat) : ∀ (k : Nat) (v5 : Int) (v6 : Int) (x : Mm) (y), F_X6_joinAdded_14 z v0 v1 v2 v3 v4 k v5 v6 x = some y → (Ev Θ mX6_joinAdded 2 53 mc ms 174 [(0, vr 6 (v0 + 1)), (1, vi (v1)), (2, vr 0 (v2 + 1)), (3, vr 1 (v3 + 1)), (4, vr 3 (v4 + 1)), (5, vi (y.1))] [] (hq D y.2) Q) → Ev Θ mX6_joinAdded 2 53 mc ms 14 [(0, vr 6 (v0 + 1)), (1, vi (v1)), (2, vr 0 (v2 + 1)), (3, vr 1 (v3 + 1)), (4, vr 3 (v4 + 1)), (5, vi (v5)), (6, vi (v6))] [] (hq D x) Q := by
  intro k
  induction k with
  | zero => intro v5 v6 x y h; exact absurd h (by unfold F_X6_joinAdded_14; exact nofun)
  | succ k ih =>
    intro v5 v6 x y h k1
    unfold F_X6_joinAdded_14 at h
    refine Ev.iload (q := 6) ⟨dX6_joinAdded_14, rfl⟩ rfl ?_
    refine Ev.aload_n (q := 0) ⟨dX6_joinAdded_16, rfl⟩ rfl rfl ?_
    refine Ev.getRk (C2 := 4) (r := v0) fX6_18 rfl (by decide) (by decide) ⟨dX6_joinAdded_17, rfl⟩ ?_
    refine Ev.getI fX6_127 (Or.inl rfl) ⟨dX6_joinAdded_20, rfl⟩ ?_
    refine Ev.icmp_ge jX6_joinAdded_23 (fun hc => ?_) (fun hc => ?_)
    · replace h := (if_pos hc).symm.trans h; clear hc
      refine Ev.keep [0, 1, 2, 3, 4, 5] rfl ?_
      obtain rfl := Option.some.inj h
      exact k1
    · replace h := (if_neg hc).symm.trans h; clear hc
      refine Ev.aload (q := 4) ⟨dX6_joinAdded_26, rfl⟩ rfl ?_
      refine Ev.getL fX6_107 ⟨dX6_joinAdded_28, rfl⟩ ?_
      refine Ev.aload (q := 4) ⟨dX6_joinAdded_31, rfl⟩ rfl ?_
      refine Ev.getRk (C2 := 0) (r := (3 * v4 + 2)) fX6_113 rfl (by decide) (by decide) ⟨dX6_joinAdded_33, rfl⟩ ?_
      refine Ev.getL fX6_91 ⟨dX6_joinAdded_36, rfl⟩ ?_
      refine Ev.land ⟨dX6_joinAdded_39, rfl⟩ ?_
      refine Ev.iload (q := 6) ⟨dX6_joinAdded_40, rfl⟩ rfl ?_
      obtain ⟨r3, hv2, h⟩ := bnd_s h
      refine Ev.callN1 (mc1 := mc) (ms1 := ms) (v := vi r3) (h1 := hq D x) nX6_145 (c_X7_contains Θ D z _ _ _ _ hv2) rfl rfl ⟨by decide, by decide, Nat.le_of_eq (Nat.zero_add _), Nat.le_of_eq (Nat.zero_add _), Nat.le_of_ble_eq_true rfl⟩ ⟨dX6_joinAdded_42, rfl⟩ ?_
      clear hv2
      refine Ev.if_ne jX6_joinAdded_45 (fun hc => ?_) (fun hc => ?_)
      · replace h := (if_neg hc).symm.trans h; clear hc
        refine Ev.aload_n (q := 2) ⟨dX6_joinAdded_51, rfl⟩ rfl rfl ?_
        refine Ev.aload_n (q := 0) ⟨dX6_joinAdded_52, rfl⟩ rfl rfl ?_
        refine Ev.getRk (C2 := 4) (r := v0) fX6_18 rfl (by decide) (by decide) ⟨dX6_joinAdded_53, rfl⟩ ?_
        refine Ev.getRk (C2 := 21) (r := v0) fX6_149 rfl (by decide) (by decide) ⟨dX6_joinAdded_56, rfl⟩ ?_
        refine Ev.iload (q := 6) ⟨dX6_joinAdded_59, rfl⟩ rfl ?_
        obtain ⟨c4, h⟩ := ckI_s h
        refine Ev.iaload (by decide) c4.1 c4.2 ⟨dX6_joinAdded_61, rfl⟩ ?_
        obtain ⟨r6, hv5, h⟩ := bnd_s h
        refine Ev.callV1 (mc1 := mc) (ms1 := ms) (v := vi r6) (h1 := hq D x) vX6_152 (c_X0_has Θ D z _ _ _ _ hv5) rfl rfl (by decide) rfl ⟨by decide, by decide, Nat.le_of_eq (Nat.zero_add _), Nat.le_of_eq (Nat.zero_add _), Nat.le_of_ble_eq_true rfl⟩ ⟨dX6_joinAdded_62, rfl⟩ ?_
        clear hv5
        refine Ev.if_ne jX6_joinAdded_65 (fun hc => ?_) (fun hc => ?_)
        · replace h := (if_neg hc).symm.trans h; clear hc
          refine Ev.aload_n (q := 0) ⟨dX6_joinAdded_88, rfl⟩ rfl rfl ?_
          refine Ev.getRk (C2 := 4) (r := v0) fX6_18 rfl (by decide) (by decide) ⟨dX6_joinAdded_89, rfl⟩ ?_
          refine Ev.aload_n (q := 2) ⟨dX6_joinAdded_92, rfl⟩ rfl rfl ?_
          refine Ev.getL fX6_91 ⟨dX6_joinAdded_93, rfl⟩ ?_
          refine Ev.aload_n (q := 0) ⟨dX6_joinAdded_96, rfl⟩ rfl rfl ?_
          refine Ev.getRk (C2 := 4) (r := v0) fX6_18 rfl (by decide) (by decide) ⟨dX6_joinAdded_97, rfl⟩ ?_
          refine Ev.getRk (C2 := 21) (r := v0) fX6_149 rfl (by decide) (by decide) ⟨dX6_joinAdded_100, rfl⟩ ?_
          refine Ev.iload (q := 6) ⟨dX6_joinAdded_103, rfl⟩ rfl ?_
          obtain ⟨c7, h⟩ := ckI_s h
          refine Ev.iaload (by decide) c7.1 c7.2 ⟨dX6_joinAdded_105, rfl⟩ ?_
          refine Ev.aload_n (q := 0) ⟨dX6_joinAdded_106, rfl⟩ rfl rfl ?_
          refine Ev.getRk (C2 := 4) (r := v0) fX6_18 rfl (by decide) (by decide) ⟨dX6_joinAdded_107, rfl⟩ ?_
          refine Ev.getRk (C2 := 22) (r := v0) fX6_160 rfl (by decide) (by decide) ⟨dX6_joinAdded_110, rfl⟩ ?_
          refine Ev.iload (q := 6) ⟨dX6_joinAdded_113, rfl⟩ rfl ?_
          obtain ⟨c8, h⟩ := ckI_s h
          refine Ev.iaload (by decide) c8.1 c8.2 ⟨dX6_joinAdded_115, rfl⟩ ?_
          obtain ⟨r10, hv9, h⟩ := bnd_s h
          refine Ev.callV1 (mc1 := mc) (ms1 := ms) (v := vi r10) (h1 := hq D x) vX6_163 (c_X4_childWith Θ D z _ _ _ _ _ _ hv9) rfl rfl (by decide) rfl ⟨by decide, by decide, Nat.le_of_eq (Nat.zero_add _), Nat.le_of_eq (Nat.zero_add _), Nat.le_of_ble_eq_true rfl⟩ ⟨dX6_joinAdded_116, rfl⟩ ?_
          clear hv9
          refine Ev.iconst ⟨dX6_joinAdded_119, rfl⟩ (inRd rfl) ?_
          refine Ev.icmp_eq jX6_joinAdded_120 (fun hc => ?_) (fun hc => ?_)
          · replace h := (if_pos hc).symm.trans h; clear hc
            refine Ev.aload_n (q := 2) ⟨dX6_joinAdded_143, rfl⟩ rfl rfl ?_
            refine Ev.dup ⟨dX6_joinAdded_144, rfl⟩ rfl ?_
            refine Ev.getL fX6_91 ⟨dX6_joinAdded_145, rfl⟩ ?_
            refine Ev.iload (q := 6) ⟨dX6_joinAdded_148, rfl⟩ rfl ?_
            obtain ⟨r12, hv11, h⟩ := bnd_s h
            refine Ev.callN1 (mc1 := mc) (ms1 := ms) (v := vl r12) (h1 := hq D x) nX6_120 (c_X7_bit Θ D z _ _ _ hv11) rfl rfl ⟨by decide, by decide, Nat.le_of_eq (Nat.zero_add _), Nat.le_of_eq (Nat.zero_add _), Nat.le_of_ble_eq_true rfl⟩ ⟨dX6_joinAdded_150, rfl⟩ ?_
            clear hv11
            refine Ev.lor ⟨dX6_joinAdded_153, rfl⟩ ?_
            obtain ⟨x13, ex, h⟩ := bnd_s h
            refine Ev.putL fX6_91 ⟨dX6_joinAdded_154, rfl⟩ ?_
            refine Ev.cast ?_ rfl rfl (hqL ex)
            clear ex
            refine Ev.aload_n (q := 2) ⟨dX6_joinAdded_157, rfl⟩ rfl rfl ?_
            refine Ev.aload (q := 4) ⟨dX6_joinAdded_158, rfl⟩ rfl ?_
            refine Ev.getRk (C2 := 0) (r := (3 * v4 + 2)) fX6_113 rfl (by decide) (by decide) ⟨dX6_joinAdded_160, rfl⟩ ?_
            refine Ev.iload (q := 6) ⟨dX6_joinAdded_163, rfl⟩ rfl ?_
            obtain ⟨r15, hv14, h⟩ := bnd_s h
            refine Ev.callVN (mc1 := mc) (ms1 := ms) (h1 := hq D r15) vX6_167 (c_X0_takeFields Θ D z _ _ _ _ _ hv14) rfl rfl (by decide) rfl ⟨by decide, by decide, Nat.le_of_eq (Nat.zero_add _), Nat.le_of_eq (Nat.zero_add _), Nat.le_of_ble_eq_true rfl⟩ ⟨dX6_joinAdded_165, rfl⟩ ?_
            clear hv14
            obtain ⟨c16, h⟩ := ckR_s h
            refine Ev.iinc (q := 6) (ls' := [(0, _), (1, _), (2, _), (3, _), (4, _), (5, _), (6, _)]) ⟨dX6_joinAdded_168, rfl⟩ rfl (by decide) c16 rfl ?_
            refine Ev.goto jX6_joinAdded_171 ?_
            exact ih _ _ _ _ h k1
          · replace h := (if_neg hc).symm.trans h; clear hc
            refine Ev.aload_n (q := 3) ⟨dX6_joinAdded_123, rfl⟩ rfl rfl ?_
            refine Ev.iconst ⟨dX6_joinAdded_124, rfl⟩ (inRd rfl) ?_
            refine Ev.iload (q := 6) ⟨dX6_joinAdded_125, rfl⟩ rfl ?_
            refine Ev.iconst ⟨dX6_joinAdded_127, rfl⟩ (inRd rfl) ?_
            refine Ev.iconst ⟨dX6_joinAdded_128, rfl⟩ (inRd rfl) ?_
            refine Ev.iload_n (q := 1) ⟨dX6_joinAdded_129, rfl⟩ rfl rfl ?_
            refine Ev.aload_n (q := 0) ⟨dX6_joinAdded_130, rfl⟩ rfl rfl ?_
            refine Ev.getI fX6_43 (Or.inl rfl) ⟨dX6_joinAdded_131, rfl⟩ ?_
            obtain ⟨r18, hv17, h⟩ := bnd_s h
            refine Ev.callVN (mc1 := mc) (ms1 := ms) (h1 := hq D r18) vX6_156 (c_X1_add Θ D z _ _ _ _ _ _ _ _ _ hv17) rfl rfl (by decide) rfl ⟨by decide, by decide, Nat.le_of_eq (Nat.zero_add _), Nat.le_of_eq (Nat.zero_add _), Nat.le_of_ble_eq_true rfl⟩ ⟨dX6_joinAdded_134, rfl⟩ ?_
            clear hv17
            obtain ⟨c19, h⟩ := ckR_s h
            refine Ev.iinc (q := 5) (ls' := [(0, _), (1, _), (2, _), (3, _), (4, _), (5, _), (6, _)]) ⟨dX6_joinAdded_137, rfl⟩ rfl (by decide) c19 rfl ?_
            refine Ev.goto jX6_joinAdded_140 ?_
            obtain ⟨c20, h⟩ := ckR_s h
            refine Ev.iinc (q := 6) (ls' := [(0, _), (1, _), (2, _), (3, _), (4, _), (5, _), (6, _)]) ⟨dX6_joinAdded_168, rfl⟩ rfl (by decide) c20 rfl ?_
            refine Ev.goto jX6_joinAdded_171 ?_
            exact ih _ _ _ _ h k1
        · replace h := (if_pos hc).symm.trans h; clear hc
          refine Ev.aload_n (q := 3) ⟨dX6_joinAdded_68, rfl⟩ rfl rfl ?_
          refine Ev.iconst ⟨dX6_joinAdded_69, rfl⟩ (inRd rfl) ?_
          refine Ev.iload (q := 6) ⟨dX6_joinAdded_70, rfl⟩ rfl ?_
          refine Ev.iconst ⟨dX6_joinAdded_72, rfl⟩ (inRd rfl) ?_
          refine Ev.iconst ⟨dX6_joinAdded_73, rfl⟩ (inRd rfl) ?_
          refine Ev.iload_n (q := 1) ⟨dX6_joinAdded_74, rfl⟩ rfl rfl ?_
          refine Ev.aload_n (q := 0) ⟨dX6_joinAdded_75, rfl⟩ rfl rfl ?_
          refine Ev.getI fX6_43 (Or.inl rfl) ⟨dX6_joinAdded_76, rfl⟩ ?_
          obtain ⟨r22, hv21, h⟩ := bnd_s h
          refine Ev.callVN (mc1 := mc) (ms1 := ms) (h1 := hq D r22) vX6_156 (c_X1_add Θ D z _ _ _ _ _ _ _ _ _ hv21) rfl rfl (by decide) rfl ⟨by decide, by decide, Nat.le_of_eq (Nat.zero_add _), Nat.le_of_eq (Nat.zero_add _), Nat.le_of_ble_eq_true rfl⟩ ⟨dX6_joinAdded_79, rfl⟩ ?_
          clear hv21
          obtain ⟨c23, h⟩ := ckR_s h
          refine Ev.iinc (q := 5) (ls' := [(0, _), (1, _), (2, _), (3, _), (4, _), (5, _), (6, _)]) ⟨dX6_joinAdded_82, rfl⟩ rfl (by decide) c23 rfl ?_
          refine Ev.goto jX6_joinAdded_85 ?_
          obtain ⟨c24, h⟩ := ckR_s h
          refine Ev.iinc (q := 6) (ls' := [(0, _), (1, _), (2, _), (3, _), (4, _), (5, _), (6, _)]) ⟨dX6_joinAdded_168, rfl⟩ rfl (by decide) c24 rfl ?_
          refine Ev.goto jX6_joinAdded_171 ?_
          exact ih _ _ _ _ h k1
      · replace h := (if_pos hc).symm.trans h; clear hc
        refine Ev.goto jX6_joinAdded_48 ?_
        obtain ⟨c25, h⟩ := ckR_s h
        refine Ev.iinc (q := 6) (ls' := [(0, _), (1, _), (2, _), (3, _), (4, _), (5, _), (6, _)]) ⟨dX6_joinAdded_168, rfl⟩ rfl (by decide) c25 rfl ?_
        refine Ev.goto jX6_joinAdded_171 ?_
        exact ih _ _ _ _ h k1
def F_X6_joinAdded (z : Nat) (v0 : Nat) (v1 : Int) (v2 : Nat) (v3 : Nat) (x : Mm) : Option (Int × Mm) := ckI v1 5 <| (F_X6_joinAdded_14 z (v0) (v1) (v2) (v3) ((5 * v0 + (v1).toNat)) z ((0 : Int)) ((1 : Int)) x).bind fun s26 => some ((s26.1, s26.2))
set_option maxHeartbeats 4000000 in
set_option maxRecDepth 20000 in
theorem c_X6_joinAdded (Θ : GC) (D : Nat → Nat → Prop) (z : Nat) (v0 : Nat) (v1 : Int) (v2 : Nat) (v3 : Nat) (x : Mm) (y) (h : F_X6_joinAdded z v0 v1 v2 v3 x = some y) : Cal Θ mX6_joinAdded 2 53 0 0 [vr 6 (v0 + 1), vi (v1), vr 0 (v2 + 1), vr 1 (v3 + 1)] (hq D x) (Ret (vi y.1) (hq D y.2)) := by
  refine Cal.of (by decide +kernel) rfl rfl (Nat.le_of_ble_eq_true rfl) ?_
  show Ev Θ mX6_joinAdded 2 53 0 0 0 [(0, vr 6 (v0 + 1)), (1, vi (v1)), (2, vr 0 (v2 + 1)), (3, vr 1 (v3 + 1))] [] (hq D x) (Ret (vi y.1) (hq D y.2))
  unfold F_X6_joinAdded at h
  refine Ev.aload_n (q := 0) ⟨dX6_joinAdded_0, rfl⟩ rfl rfl ?_
  refine Ev.getRk (C2 := 11) (r := v0) fX6_31 rfl (by decide) (by decide) ⟨dX6_joinAdded_1, rfl⟩ ?_
  refine Ev.iload_n (q := 1) ⟨dX6_joinAdded_4, rfl⟩ rfl rfl ?_
  obtain ⟨c1, h⟩ := ckI_s h
  refine Ev.aaloadk (C := 3) (r := (5 * v0 + (v1).toNat)) (by decide) c1.1 c1.2 (sr11 c1) ⟨dX6_joinAdded_5, rfl⟩ ?_
  refine Ev.astore (i := 4) (ls' := [(0, _), (1, _), (2, _), (3, _), (4, _)]) ⟨dX6_joinAdded_6, rfl⟩ (by decide) rfl ?_
  refine Ev.iconst ⟨dX6_joinAdded_8, rfl⟩ (inRd rfl) ?_
  refine Ev.istore (i := 5) (ls' := [(0, _), (1, _), (2, _), (3, _), (4, _), (5, _)]) ⟨dX6_joinAdded_9, rfl⟩ (by decide) rfl ?_
  refine Ev.iconst ⟨dX6_joinAdded_11, rfl⟩ (inRd rfl) ?_
  refine Ev.istore (i := 6) (ls' := [(0, _), (1, _), (2, _), (3, _), (4, _), (5, _), (6, _)]) ⟨dX6_joinAdded_12, rfl⟩ (by decide) rfl ?_
  obtain ⟨s26, hl, h⟩ := bnd_s h
  refine e_X6_joinAdded_14 Θ D z _ _ _ _ _ _ _ _ _ _ _ _ _ hl ?_
  clear hl
  refine Ev.iload (q := 5) ⟨dX6_joinAdded_174, rfl⟩ rfl ?_
  obtain rfl := Option.some.inj h
  exact Ev.ireturn (ty := .int) ⟨dX6_joinAdded_176, rfl⟩ rfl rfl ⟨rfl, rfl⟩

def F_X7_mergedValue (z : Nat) (v0 : Int) (v1 : Int) (v2 : Int) (v3 : Int) (x : Mm) : Option (Int) := if v0 = 0 then (some (((if (if (((BitVec.ofInt 64 v3) + (BitVec.ofInt 64 v2)) - (BitVec.ofInt 64 v1)).toInt < (BitVec.ofInt 64 (1000000000)).toInt then (((BitVec.ofInt 64 v3) + (BitVec.ofInt 64 v2)) - (BitVec.ofInt 64 v1)) else (BitVec.ofInt 64 (1000000000))).toInt < (BitVec.ofInt 64 (-1000000000)).toInt then (BitVec.ofInt 64 (-1000000000)) else (if (((BitVec.ofInt 64 v3) + (BitVec.ofInt 64 v2)) - (BitVec.ofInt 64 v1)).toInt < (BitVec.ofInt 64 (1000000000)).toInt then (((BitVec.ofInt 64 v3) + (BitVec.ofInt 64 v2)) - (BitVec.ofInt 64 v1)) else (BitVec.ofInt 64 (1000000000)))).setWidth 32).toInt)) else if v0 = 1 then (some ((max v3 v2))) else if v0 = 2 then (some ((min v3 v2))) else if v0 = 3 then (some ((bior (biand v3 (bixor (biand v1 (bixor v2 (-1 : Int))) (-1 : Int))) (biand v2 (bixor v1 (-1 : Int)))))) else if v0 = 4 then (if v3 = v1 then (some (v2)) else (some (v3))) else (some (v2))
set_option maxHeartbeats 4000000 in
set_option maxRecDepth 20000 in
theorem c_X7_mergedValue (Θ : GC) (D : Nat → Nat → Prop) (z : Nat) (v0 : Int) (v1 : Int) (v2 : Int) (v3 : Int) (x : Mm) (y) (h : F_X7_mergedValue z v0 v1 v2 v3 x = some y) : Cal Θ mX7_mergedValue 1 23 0 0 [vi (v0), vi (v1), vi (v2), vi (v3)] (hq D x) (Ret (vi y) (hq D x)) := by
  refine Cal.of (by decide +kernel) rfl rfl (Nat.le_of_ble_eq_true rfl) ?_
  show Ev Θ mX7_mergedValue 1 23 0 0 0 [(0, vi (v0)), (1, vi (v1)), (2, vi (v2)), (3, vi (v3))] [] (hq D x) (Ret (vi y) (hq D x))
  unfold F_X7_mergedValue at h
  refine Ev.iload_n (q := 0) ⟨dX7_mergedValue_0, rfl⟩ rfl rfl ?_
  show Ev _ _ _ _ _ _ _ _ (vi (v0) :: _) _ _
  by_cases hk : v0 = 0
  · replace h := (if_pos hk).symm.trans h
    refine Ev.tswIn (tg := 36) (off := 35) dX7_mergedValue_1 (by omega) (by omega) (by rw [hk]; rfl) (by decide) ?_
    clear hk
    refine Ev.ldc2 (b := BitVec.ofInt 64 (-1000000000)) ⟨dX7_mergedValue_36, rfl⟩ wX7_360 ?_
    refine Ev.ldc2 (b := BitVec.ofInt 64 (1000000000)) ⟨dX7_mergedValue_39, rfl⟩ wX7_362 ?_
    refine Ev.iload_n (q := 3) ⟨dX7_mergedValue_42, rfl⟩ rfl rfl ?_
    refine Ev.i2l ⟨dX7_mergedValue_43, rfl⟩ ?_
    refine Ev.iload_n (q := 2) ⟨dX7_mergedValue_44, rfl⟩ rfl rfl ?_
    refine Ev.i2l ⟨dX7_mergedValue_45, rfl⟩ ?_
    refine Ev.ladd ⟨dX7_mergedValue_46, rfl⟩ ?_
    refine Ev.iload_n (q := 1) ⟨dX7_mergedValue_47, rfl⟩ rfl rfl ?_
    refine Ev.i2l ⟨dX7_mergedValue_48, rfl⟩ ?_
    refine Ev.lsub ⟨dX7_mergedValue_49, rfl⟩ ?_
    refine Ev.lmin qX7_364 (by decide) (Nat.le_of_ble_eq_true rfl) ⟨dX7_mergedValue_50, rfl⟩ ?_
    refine Ev.lmax qX7_370 (by decide) (Nat.le_of_ble_eq_true rfl) ⟨dX7_mergedValue_53, rfl⟩ ?_
    refine Ev.l2i ⟨dX7_mergedValue_56, rfl⟩ ?_
    obtain rfl := Option.some.inj h
    exact Ev.ireturn (ty := .int) ⟨dX7_mergedValue_57, rfl⟩ rfl rfl ⟨rfl, rfl⟩
  replace h := (if_neg hk).symm.trans h
  have hn0 := hk; clear hk
  by_cases hk : v0 = 1
  · replace h := (if_pos hk).symm.trans h
    refine Ev.tswIn (tg := 58) (off := 57) dX7_mergedValue_1 (by omega) (by omega) (by rw [hk]; rfl) (by decide) ?_
    clear hk
    refine Ev.iload_n (q := 3) ⟨dX7_mergedValue_58, rfl⟩ rfl rfl ?_
    refine Ev.iload_n (q := 2) ⟨dX7_mergedValue_59, rfl⟩ rfl rfl ?_
    refine Ev.mmax qX7_373 (by decide) (Nat.le_of_ble_eq_true rfl) ⟨dX7_mergedValue_60, rfl⟩ ?_
    obtain rfl := Option.some.inj h
    exact Ev.ireturn (ty := .int) ⟨dX7_mergedValue_63, rfl⟩ rfl rfl ⟨rfl, rfl⟩
  replace h := (if_neg hk).symm.trans h
  have hn1 := hk; clear hk
  by_cases hk : v0 = 2
  · replace h := (if_pos hk).symm.trans h
    refine Ev.tswIn (tg := 64) (off := 63) dX7_mergedValue_1 (by omega) (by omega) (by rw [hk]; rfl) (by decide) ?_
    clear hk
    refine Ev.iload_n (q := 3) ⟨dX7_mergedValue_64, rfl⟩ rfl rfl ?_
    refine Ev.iload_n (q := 2) ⟨dX7_mergedValue_65, rfl⟩ rfl rfl ?_
    refine Ev.mmin qX7_375 (by decide) (Nat.le_of_ble_eq_true rfl) ⟨dX7_mergedValue_66, rfl⟩ ?_
    obtain rfl := Option.some.inj h
    exact Ev.ireturn (ty := .int) ⟨dX7_mergedValue_69, rfl⟩ rfl rfl ⟨rfl, rfl⟩
  replace h := (if_neg hk).symm.trans h
  have hn2 := hk; clear hk
  by_cases hk : v0 = 3
  · replace h := (if_pos hk).symm.trans h
    refine Ev.tswIn (tg := 70) (off := 69) dX7_mergedValue_1 (by omega) (by omega) (by rw [hk]; rfl) (by decide) ?_
    clear hk
    refine Ev.iload_n (q := 3) ⟨dX7_mergedValue_70, rfl⟩ rfl rfl ?_
    refine Ev.iload_n (q := 1) ⟨dX7_mergedValue_71, rfl⟩ rfl rfl ?_
    refine Ev.iload_n (q := 2) ⟨dX7_mergedValue_72, rfl⟩ rfl rfl ?_
    refine Ev.iconst ⟨dX7_mergedValue_73, rfl⟩ (inRd rfl) ?_
    refine Ev.ixor ⟨dX7_mergedValue_74, rfl⟩ ?_
    refine Ev.iand ⟨dX7_mergedValue_75, rfl⟩ ?_
    refine Ev.iconst ⟨dX7_mergedValue_76, rfl⟩ (inRd rfl) ?_
    refine Ev.ixor ⟨dX7_mergedValue_77, rfl⟩ ?_
    refine Ev.iand ⟨dX7_mergedValue_78, rfl⟩ ?_
    refine Ev.iload_n (q := 2) ⟨dX7_mergedValue_79, rfl⟩ rfl rfl ?_
    refine Ev.iload_n (q := 1) ⟨dX7_mergedValue_80, rfl⟩ rfl rfl ?_
    refine Ev.iconst ⟨dX7_mergedValue_81, rfl⟩ (inRd rfl) ?_
    refine Ev.ixor ⟨dX7_mergedValue_82, rfl⟩ ?_
    refine Ev.iand ⟨dX7_mergedValue_83, rfl⟩ ?_
    refine Ev.ior ⟨dX7_mergedValue_84, rfl⟩ ?_
    obtain rfl := Option.some.inj h
    exact Ev.ireturn (ty := .int) ⟨dX7_mergedValue_85, rfl⟩ rfl rfl ⟨rfl, rfl⟩
  replace h := (if_neg hk).symm.trans h
  have hn3 := hk; clear hk
  by_cases hk : v0 = 4
  · replace h := (if_pos hk).symm.trans h
    refine Ev.tswIn (tg := 86) (off := 85) dX7_mergedValue_1 (by omega) (by omega) (by rw [hk]; rfl) (by decide) ?_
    clear hk
    refine Ev.iload_n (q := 3) ⟨dX7_mergedValue_86, rfl⟩ rfl rfl ?_
    refine Ev.iload_n (q := 1) ⟨dX7_mergedValue_87, rfl⟩ rfl rfl ?_
    refine Ev.icmp_ne jX7_mergedValue_88 (fun hc => ?_) (fun hc => ?_)
    · replace h := (if_neg hc).symm.trans h; clear hc
      refine Ev.iload_n (q := 3) ⟨dX7_mergedValue_95, rfl⟩ rfl rfl ?_
      obtain rfl := Option.some.inj h
      exact Ev.ireturn (ty := .int) ⟨dX7_mergedValue_96, rfl⟩ rfl rfl ⟨rfl, rfl⟩
    · replace h := (if_pos hc).symm.trans h; clear hc
      refine Ev.iload_n (q := 2) ⟨dX7_mergedValue_91, rfl⟩ rfl rfl ?_
      refine Ev.goto jX7_mergedValue_92 ?_
      obtain rfl := Option.some.inj h
      exact Ev.ireturn (ty := .int) ⟨dX7_mergedValue_96, rfl⟩ rfl rfl ⟨rfl, rfl⟩
  replace h := (if_neg hk).symm.trans h
  have hn4 := hk; clear hk
  refine Ev.tswOut (tg := 97) dX7_mergedValue_1 (by omega) (by decide) ?_
  clear hn0 hn1 hn2 hn3 hn4
  refine Ev.iload_n (q := 2) ⟨dX7_mergedValue_97, rfl⟩ rfl rfl ?_
  obtain rfl := Option.some.inj h
  exact Ev.ireturn (ty := .int) ⟨dX7_mergedValue_98, rfl⟩ rfl rfl ⟨rfl, rfl⟩

def F_X6_joinFields_6 (z : Nat) (v0 : Nat) (v1 : Int) (v2 : Int) (v3 : Nat) (v4 : Nat) : Nat → Int → Int → Mm → Option (Int × Mm)
  | 0, _, _, _ => none
  | k + 1, v5, v6, x => if (x.1 6 v0 1) ≤ v6 then (some ((v5, x))) else (ckI v1 5 <| (F_X0_valueOf z ((3 * (5 * v0 + (v1).toNat) + 1)) (v2) (v6) x).bind fun r3 => ckI v1 5 <| (F_X0_valueOf z ((3 * (5 * v0 + (v1).toNat) + 2)) (v2) (v6) x).bind fun r6 => (F_X0_valueOf z (v3) (v2) (v6) x).bind fun r8 => if r6 = r3 then (ckR ((v6 + 1)) <| F_X6_joinFields_6 z v0 v1 v2 v3 v4 k (v5) ((v6 + 1)) x) else (ckI v6 6 <| (F_X7_mergedValue z ((x.1 20 v0 (v6).toNat)) (r3) (r6) (r8) x).bind fun r11 => (F_X0_put z (v3) (v2) (v6) (r11) x).bind fun r13 => ckI v6 6 <| if (r13.1 20 v0 (v6).toNat) = (4 : Int) then (if r8 = r3 then (ckR ((v6 + 1)) <| F_X6_joinFields_6 z v0 v1 v2 v3 v4 k (v5) ((v6 + 1)) r13) else (if r8 = r6 then (ckR ((v6 + 1)) <| F_X6_joinFields_6 z v0 v1 v2 v3 v4 k (v5) ((v6 + 1)) r13) else ((F_X1_add z (v4) ((0 : Int)) (v2) (v6) (r6) (v1) ((r13.1 6 v0 0)) r13).bind fun r19 => ckR ((v5 + 1)) <| ckR ((v6 + 1)) <| F_X6_joinFields_6 z v0 v1 v2 v3 v4 k ((v5 + 1)) ((v6 + 1)) r19))) else (ckR ((v6 + 1)) <| F_X6_joinFields_6 z v0 v1 v2 v3 v4 k (v5) ((v6 + 1)) r13)))
set_option maxHeartbeats 4000000 in
set_option maxRecDepth 20000 in
theorem e_X6_joinFields_6 (Θ : GC) (D : Nat → Nat → Prop) (z : Nat) (v0 : Nat) (v1 : Int) (v2 : Int) (v3 : Nat) (v4 : Nat) (Q : Ro → Hp → Prop) (mc ms : Nat) : ∀ (k : Nat) (v5 : Int) (v6 : Int) (x : Mm) (y), F_X6_joinFields_6 z v0 v1 v2 v3 v4 k v5 v6 x = some y → (Ev Θ mX6_joinFields 2 53 mc ms 141 [(0, vr 6 (v0 + 1)), (1, vi (v1)), (2, vi (v2)), (3, vr 0 (v3 + 1)), (4, vr 1 (v4 + 1)), (5, vi (y.1))] [] (hq D y.2) Q) → Ev Θ mX6_joinFields 2 53 mc ms 6 [(0, vr 6 (v0 + 1)), (1, vi (v1)), (2, vi (v2)), (3, vr 0 (v3 + 1)), (4, vr 1 (v4 + 1)), (5, vi (v5)), (6, vi (v6))] [] (hq D x) Q := by
  intro k
  induction k with
  | zero => intro v5 v6 x y h; exact absurd h (by unfold F_X6_joinFields_6; exact nofun)
  | succ k ih =>
    intro v5 v6 x y h k1
    unfold F_X6_joinFields_6 at h
    refine Ev.iload (q := 6) ⟨dX6_joinFields_6, rfl⟩ rfl ?_
    refine Ev.aload_n (q := 0) ⟨dX6_joinFields_8, rfl⟩ rfl rfl ?_
    refine Ev.getI fX6_47 (Or.inl rfl) ⟨dX6_joinFields_9, rfl⟩ ?_
    refine Ev.icmp_ge jX6_joinFields_12 (fun hc => ?_) (fun hc => ?_)
    · replace h := (if_pos hc).symm.trans h; clear hc
      refine Ev.keep [0, 1, 2, 3, 4, 5] rfl ?_
      obtain rfl := Option.some.inj h
      exact k1
    · replace h := (if_neg hc).symm.trans h; clear hc
      refine Ev.aload_n (q := 0) ⟨dX6_joinFields_15, rfl⟩ rfl rfl ?_
      refine Ev.getRk (C2 := 11) (r := v0) fX6_31 rfl (by decide) (by decide) ⟨dX6_joinFields_16, rfl⟩ ?_
      refine Ev.iload_n (q := 1) ⟨dX6_joinFields_19, rfl⟩ rfl rfl ?_
      obtain ⟨c1, h⟩ := ckI_s h
      refine Ev.aaloadk (C := 3) (r := (5 * v0 + (v1).toNat)) (by decide) c1.1 c1.2 (sr11 c1) ⟨dX6_joinFields_20, rfl⟩ ?_
      refine Ev.getRk (C2 := 0) (r := (3 * (5 * v0 + (v1).toNat) + 1)) fX6_110 rfl (by decide) (by decide) ⟨dX6_joinFields_21, rfl⟩ ?_
      refine Ev.iload_n (q := 2) ⟨dX6_joinFields_24, rfl⟩ rfl rfl ?_
      refine Ev.iload (q := 6) ⟨dX6_joinFields_25, rfl⟩ rfl ?_
      obtain ⟨r3, hv2, h⟩ := bnd_s h
      refine Ev.callV1 (mc1 := mc) (ms1 := ms) (v := vi r3) (h1 := hq D x) vX6_175 (c_X0_valueOf Θ D z _ _ _ _ _ hv2) rfl rfl (by decide) rfl ⟨by decide, by decide, Nat.le_of_eq (Nat.zero_add _), Nat.le_of_eq (Nat.zero_add _), Nat.le_of_ble_eq_true rfl⟩ ⟨dX6_joinFields_27, rfl⟩ ?_
      clear hv2
      refine Ev.istore (i := 7) (ls' := [(0, _), (1, _), (2, _), (3, _), (4, _), (5, _), (6, _), (7, _)]) ⟨dX6_joinFields_30, rfl⟩ (by decide) rfl ?_
      refine Ev.aload_n (q := 0) ⟨dX6_joinFields_32, rfl⟩ rfl rfl ?_
      refine Ev.getRk (C2 := 11) (r := v0) fX6_31 rfl (by decide) (by decide) ⟨dX6_joinFields_33, rfl⟩ ?_
      refine Ev.iload_n (q := 1) ⟨dX6_joinFields_36, rfl⟩ rfl rfl ?_
      obtain ⟨c4, h⟩ := ckI_s h
      refine Ev.aaloadk (C := 3) (r := (5 * v0 + (v1).toNat)) (by decide) c4.1 c4.2 (sr11 c4) ⟨dX6_joinFields_37, rfl⟩ ?_
      refine Ev.getRk (C2 := 0) (r := (3 * (5 * v0 + (v1).toNat) + 2)) fX6_113 rfl (by decide) (by decide) ⟨dX6_joinFields_38, rfl⟩ ?_
      refine Ev.iload_n (q := 2) ⟨dX6_joinFields_41, rfl⟩ rfl rfl ?_
      refine Ev.iload (q := 6) ⟨dX6_joinFields_42, rfl⟩ rfl ?_
      obtain ⟨r6, hv5, h⟩ := bnd_s h
      refine Ev.callV1 (mc1 := mc) (ms1 := ms) (v := vi r6) (h1 := hq D x) vX6_175 (c_X0_valueOf Θ D z _ _ _ _ _ hv5) rfl rfl (by decide) rfl ⟨by decide, by decide, Nat.le_of_eq (Nat.zero_add _), Nat.le_of_eq (Nat.zero_add _), Nat.le_of_ble_eq_true rfl⟩ ⟨dX6_joinFields_44, rfl⟩ ?_
      clear hv5
      refine Ev.istore (i := 8) (ls' := [(0, _), (1, _), (2, _), (3, _), (4, _), (5, _), (6, _), (7, _), (8, _)]) ⟨dX6_joinFields_47, rfl⟩ (by decide) rfl ?_
      refine Ev.aload_n (q := 3) ⟨dX6_joinFields_49, rfl⟩ rfl rfl ?_
      refine Ev.iload_n (q := 2) ⟨dX6_joinFields_50, rfl⟩ rfl rfl ?_
      refine Ev.iload (q := 6) ⟨dX6_joinFields_51, rfl⟩ rfl ?_
      obtain ⟨r8, hv7, h⟩ := bnd_s h
      refine Ev.callV1 (mc1 := mc) (ms1 := ms) (v := vi r8) (h1 := hq D x) vX6_175 (c_X0_valueOf Θ D z _ _ _ _ _ hv7) rfl rfl (by decide) rfl ⟨by decide, by decide, Nat.le_of_eq (Nat.zero_add _), Nat.le_of_eq (Nat.zero_add _), Nat.le_of_ble_eq_true rfl⟩ ⟨dX6_joinFields_53, rfl⟩ ?_
      clear hv7
      refine Ev.istore (i := 9) (ls' := [(0, _), (1, _), (2, _), (3, _), (4, _), (5, _), (6, _), (7, _), (8, _), (9, _)]) ⟨dX6_joinFields_56, rfl⟩ (by decide) rfl ?_
      refine Ev.iload (q := 8) ⟨dX6_joinFields_58, rfl⟩ rfl ?_
      refine Ev.iload (q := 7) ⟨dX6_joinFields_60, rfl⟩ rfl ?_
      refine Ev.icmp_ne jX6_joinFields_62 (fun hc => ?_) (fun hc => ?_)
      · replace h := (if_neg hc).symm.trans h; clear hc
        refine Ev.aload_n (q := 3) ⟨dX6_joinFields_68, rfl⟩ rfl rfl ?_
        refine Ev.iload_n (q := 2) ⟨dX6_joinFields_69, rfl⟩ rfl rfl ?_
        refine Ev.iload (q := 6) ⟨dX6_joinFields_70, rfl⟩ rfl ?_
        refine Ev.aload_n (q := 0) ⟨dX6_joinFields_72, rfl⟩ rfl rfl ?_
        refine Ev.getRk (C2 := 20) (r := v0) fX6_9 rfl (by decide) (by decide) ⟨dX6_joinFields_73, rfl⟩ ?_
        refine Ev.iload (q := 6) ⟨dX6_joinFields_76, rfl⟩ rfl ?_
        obtain ⟨c9, h⟩ := ckI_s h
        refine Ev.iaload (by decide) c9.1 c9.2 ⟨dX6_joinFields_78, rfl⟩ ?_
        refine Ev.iload (q := 7) ⟨dX6_joinFields_79, rfl⟩ rfl ?_
        refine Ev.iload (q := 8) ⟨dX6_joinFields_81, rfl⟩ rfl ?_
        refine Ev.iload (q := 9) ⟨dX6_joinFields_83, rfl⟩ rfl ?_
        obtain ⟨r11, hv10, h⟩ := bnd_s h
        refine Ev.callN1 (mc1 := mc) (ms1 := ms) (v := vi r11) (h1 := hq D x) nX6_179 (c_X7_mergedValue Θ D z _ _ _ _ _ _ hv10) rfl rfl ⟨by decide, by decide, Nat.le_of_eq (Nat.zero_add _), Nat.le_of_eq (Nat.zero_add _), Nat.le_of_ble_eq_true rfl⟩ ⟨dX6_joinFields_85, rfl⟩ ?_
        clear hv10
        obtain ⟨r13, hv12, h⟩ := bnd_s h
        refine Ev.callVN (mc1 := mc) (ms1 := ms) (h1 := hq D r13) vX6_183 (c_X0_put Θ D z _ _ _ _ _ _ hv12) rfl rfl (by decide) rfl ⟨by decide, by decide, Nat.le_of_eq (Nat.zero_add _), Nat.le_of_eq (Nat.zero_add _), Nat.le_of_ble_eq_true rfl⟩ ⟨dX6_joinFields_88, rfl⟩ ?_
        clear hv12
        refine Ev.aload_n (q := 0) ⟨dX6_joinFields_91, rfl⟩ rfl rfl ?_
        refine Ev.getRk (C2 := 20) (r := v0) fX6_9 rfl (by decide) (by decide) ⟨dX6_joinFields_92, rfl⟩ ?_
        refine Ev.iload (q := 6) ⟨dX6_joinFields_95, rfl⟩ rfl ?_
        obtain ⟨c14, h⟩ := ckI_s h
        refine Ev.iaload (by decide) c14.1 c14.2 ⟨dX6_joinFields_97, rfl⟩ ?_
        refine Ev.iconst ⟨dX6_joinFields_98, rfl⟩ (inRd rfl) ?_
        refine Ev.icmp_ne jX6_joinFields_99 (fun hc => ?_) (fun hc => ?_)
        · replace h := (if_neg hc).symm.trans h; clear hc
          obtain ⟨c15, h⟩ := ckR_s h
          refine Ev.iinc (q := 6) (ls' := [(0, _), (1, _), (2, _), (3, _), (4, _), (5, _), (6, _), (7, _), (8, _), (9, _)]) ⟨dX6_joinFields_135, rfl⟩ rfl (by decide) c15 rfl ?_
          refine Ev.goto jX6_joinFields_138 ?_
          refine Ev.keep [0, 1, 2, 3, 4, 5, 6] rfl ?_
          exact ih _ _ _ _ h k1
        · replace h := (if_pos hc).symm.trans h; clear hc
          refine Ev.iload (q := 9) ⟨dX6_joinFields_102, rfl⟩ rfl ?_
          refine Ev.iload (q := 7) ⟨dX6_joinFields_104, rfl⟩ rfl ?_
          refine Ev.icmp_eq jX6_joinFields_106 (fun hc => ?_) (fun hc => ?_)
          · replace h := (if_pos hc).symm.trans h; clear hc
            obtain ⟨c16, h⟩ := ckR_s h
            refine Ev.iinc (q := 6) (ls' := [(0, _), (1, _), (2, _), (3, _), (4, _), (5, _), (6, _), (7, _), (8, _), (9, _)]) ⟨dX6_joinFields_135, rfl⟩ rfl (by decide) c16 rfl ?_
            refine Ev.goto jX6_joinFields_138 ?_
            refine Ev.keep [0, 1, 2, 3, 4, 5, 6] rfl ?_
            exact ih _ _ _ _ h k1
          · replace h := (if_neg hc).symm.trans h; clear hc
            refine Ev.iload (q := 9) ⟨dX6_joinFields_109, rfl⟩ rfl ?_
            refine Ev.iload (q := 8) ⟨dX6_joinFields_111, rfl⟩ rfl ?_
            refine Ev.icmp_eq jX6_joinFields_113 (fun hc => ?_) (fun hc => ?_)
            · replace h := (if_pos hc).symm.trans h; clear hc
              obtain ⟨c17, h⟩ := ckR_s h
              refine Ev.iinc (q := 6) (ls' := [(0, _), (1, _), (2, _), (3, _), (4, _), (5, _), (6, _), (7, _), (8, _), (9, _)]) ⟨dX6_joinFields_135, rfl⟩ rfl (by decide) c17 rfl ?_
              refine Ev.goto jX6_joinFields_138 ?_
              refine Ev.keep [0, 1, 2, 3, 4, 5, 6] rfl ?_
              exact ih _ _ _ _ h k1
            · replace h := (if_neg hc).symm.trans h; clear hc
              refine Ev.aload (q := 4) ⟨dX6_joinFields_116, rfl⟩ rfl ?_
              refine Ev.iconst ⟨dX6_joinFields_118, rfl⟩ (inRd rfl) ?_
              refine Ev.iload_n (q := 2) ⟨dX6_joinFields_119, rfl⟩ rfl rfl ?_
              refine Ev.iload (q := 6) ⟨dX6_joinFields_120, rfl⟩ rfl ?_
              refine Ev.iload (q := 8) ⟨dX6_joinFields_122, rfl⟩ rfl ?_
              refine Ev.iload_n (q := 1) ⟨dX6_joinFields_124, rfl⟩ rfl rfl ?_
              refine Ev.aload_n (q := 0) ⟨dX6_joinFields_125, rfl⟩ rfl rfl ?_
              refine Ev.getI fX6_43 (Or.inl rfl) ⟨dX6_joinFields_126, rfl⟩ ?_
              obtain ⟨r19, hv18, h⟩ := bnd_s h
              refine Ev.callVN (mc1 := mc) (ms1 := ms) (h1 := hq D r19) vX6_156 (c_X1_add Θ D z _ _ _ _ _ _ _ _ _ hv18) rfl rfl (by decide) rfl ⟨by decide, by decide, Nat.le_of_eq (Nat.zero_add _), Nat.le_of_eq (Nat.zero_add _), Nat.le_of_ble_eq_true rfl⟩ ⟨dX6_joinFields_129, rfl⟩ ?_
              clear hv18
              obtain ⟨c20, h⟩ := ckR_s h
              refine Ev.iinc (q := 5) (ls' := [(0, _), (1, _), (2, _), (3, _), (4, _), (5, _), (6, _), (7, _), (8, _), (9, _)]) ⟨dX6_joinFields_132, rfl⟩ rfl (by decide) c20 rfl ?_
              obtain ⟨c21, h⟩ := ckR_s h
              refine Ev.iinc (q := 6) (ls' := [(0, _), (1, _), (2, _), (3, _), (4, _), (5, _), (6, _), (7, _), (8, _), (9, _)]) ⟨dX6_joinFields_135, rfl⟩ rfl (by decide) c21 rfl ?_
              refine Ev.goto jX6_joinFields_138 ?_
              refine Ev.keep [0, 1, 2, 3, 4, 5, 6] rfl ?_
              exact ih _ _ _ _ h k1
      · replace h := (if_pos hc).symm.trans h; clear hc
        refine Ev.goto jX6_joinFields_65 ?_
        obtain ⟨c22, h⟩ := ckR_s h
        refine Ev.iinc (q := 6) (ls' := [(0, _), (1, _), (2, _), (3, _), (4, _), (5, _), (6, _), (7, _), (8, _), (9, _)]) ⟨dX6_joinFields_135, rfl⟩ rfl (by decide) c22 rfl ?_
        refine Ev.goto jX6_joinFields_138 ?_
        refine Ev.keep [0, 1, 2, 3, 4, 5, 6] rfl ?_
        exact ih _ _ _ _ h k1
def F_X6_joinFields (z : Nat) (v0 : Nat) (v1 : Int) (v2 : Int) (v3 : Nat) (v4 : Nat) (x : Mm) : Option (Int × Mm) := (F_X6_joinFields_6 z (v0) (v1) (v2) (v3) (v4) z ((0 : Int)) ((0 : Int)) x).bind fun s23 => some ((s23.1, s23.2))
set_option maxHeartbeats 4000000 in
set_option maxRecDepth 20000 in
theorem c_X6_joinFields (Θ : GC) (D : Nat → Nat → Prop) (z : Nat) (v0 : Nat) (v1 : Int) (v2 : Int) (v3 : Nat) (v4 : Nat) (x : Mm) (y) (h : F_X6_joinFields z v0 v1 v2 v3 v4 x = some y) : Cal Θ mX6_joinFields 2 53 0 0 [vr 6 (v0 + 1), vi (v1), vi (v2), vr 0 (v3 + 1), vr 1 (v4 + 1)] (hq D x) (Ret (vi y.1) (hq D y.2)) := by
  refine Cal.of (by decide +kernel) rfl rfl (Nat.le_of_ble_eq_true rfl) ?_
  show Ev Θ mX6_joinFields 2 53 0 0 0 [(0, vr 6 (v0 + 1)), (1, vi (v1)), (2, vi (v2)), (3, vr 0 (v3 + 1)), (4, vr 1 (v4 + 1))] [] (hq D x) (Ret (vi y.1) (hq D y.2))
  unfold F_X6_joinFields at h
  refine Ev.iconst ⟨dX6_joinFields_0, rfl⟩ (inRd rfl) ?_
  refine Ev.istore (i := 5) (ls' := [(0, _), (1, _), (2, _), (3, _), (4, _), (5, _)]) ⟨dX6_joinFields_1, rfl⟩ (by decide) rfl ?_
  refine Ev.iconst ⟨dX6_joinFields_3, rfl⟩ (inRd rfl) ?_
  refine Ev.istore (i := 6) (ls' := [(0, _), (1, _), (2, _), (3, _), (4, _), (5, _), (6, _)]) ⟨dX6_joinFields_4, rfl⟩ (by decide) rfl ?_
  obtain ⟨s23, hl, h⟩ := bnd_s h
  refine e_X6_joinFields_6 Θ D z _ _ _ _ _ _ _ _ _ _ _ _ _ hl ?_
  clear hl
  refine Ev.iload (q := 5) ⟨dX6_joinFields_141, rfl⟩ rfl ?_
  obtain rfl := Option.some.inj h
  exact Ev.ireturn (ty := .int) ⟨dX6_joinFields_143, rfl⟩ rfl rfl ⟨rfl, rfl⟩

def F_X6_joinChanged_6 (z : Nat) (v0 : Nat) (v1 : Int) (v2 : Nat) (v3 : Nat) : Nat → Int → Int → Mm → Option (Int × Mm)
  | 0, _, _, _ => none
  | k + 1, v4, v5, x => if (x.1 4 v0 0) ≤ v5 then (some ((v4, x))) else (ckI v1 5 <| (F_X3_changedFields z ((5 * v0 + (v1).toNat)) (v5) x).bind fun r3 => if r3 = 0 then (ckR ((v5 + 1)) <| F_X6_joinChanged_6 z v0 v1 v2 v3 k (v4) ((v5 + 1)) x) else ((F_X0_has z (v2) (v5) x).bind fun r5 => if r5 = 0 then ((F_X1_add z (v3) ((1 : Int)) (v5) ((-1 : Int)) ((0 : Int)) (v1) ((x.1 6 v0 0)) x).bind fun r7 => ckR ((v4 + 1)) <| ckR ((v5 + 1)) <| F_X6_joinChanged_6 z v0 v1 v2 v3 k ((v4 + 1)) ((v5 + 1)) r7) else ((F_X6_joinFields z (v0) (v1) (v5) (v2) (v3) x).bind fun r11 => ckR ((v4 + r11.1)) <| ckR ((v5 + 1)) <| F_X6_joinChanged_6 z v0 v1 v2 v3 k ((v4 + r11.1)) ((v5 + 1)) r11.2)))
set_option maxHeartbeats 4000000 in
set_option maxRecDepth 20000 in
theorem e_X6_joinChanged_6 (Θ : GC) (D : Nat → Nat → Prop) (z : Nat) (v0 : Nat) (v1 : Int) (v2 : Nat) (v3 : Nat) (Q : Ro → Hp → Prop) (mc ms : Nat) : ∀ (k : Nat) (v4 : Int) (v5 : Int) (x : Mm) (y), F_X6_joinChanged_6 z v0 v1 v2 v3 k v4 v5 x = some y → (Ev Θ mX6_joinChanged 3 82 mc ms 84 [(0, vr 6 (v0 + 1)), (1, vi (v1)), (2, vr 0 (v2 + 1)), (3, vr 1 (v3 + 1)), (4, vi (y.1))] [] (hq D y.2) Q) → Ev Θ mX6_joinChanged 3 82 mc ms 6 [(0, vr 6 (v0 + 1)), (1, vi (v1)), (2, vr 0 (v2 + 1)), (3, vr 1 (v3 + 1)), (4, vi (v4)), (5, vi (v5))] [] (hq D x) Q := by
  intro k
  induction k with
  | zero => intro v4 v5 x y h; exact absurd h (by unfold F_X6_joinChanged_6; exact nofun)
  | succ k ih =>
    intro v4 v5 x y h k1
    unfold F_X6_joinChanged_6 at h
    refine Ev.iload (q := 5) ⟨dX6_joinChanged_6, rfl⟩ rfl ?_
    refine Ev.aload_n (q := 0) ⟨dX6_joinChanged_8, rfl⟩ rfl rfl ?_
    refine Ev.getRk (C2 := 4) (r := v0) fX6_18 rfl (by decide) (by decide) ⟨dX6_joinChanged_9, rfl⟩ ?_
    refine Ev.getI fX6_127 (Or.inl rfl) ⟨dX6_joinChanged_12, rfl⟩ ?_
    refine Ev.icmp_ge jX6_joinChanged_15 (fun hc => ?_) (fun hc => ?_)
    · replace h := (if_pos hc).symm.trans h; clear hc
      refine Ev.keep [0, 1, 2, 3, 4] rfl ?_
      obtain rfl := Option.some.inj h
      exact k1
    · replace h := (if_neg hc).symm.trans h; clear hc
      refine Ev.aload_n (q := 0) ⟨dX6_joinChanged_18, rfl⟩ rfl rfl ?_
      refine Ev.getRk (C2 := 11) (r := v0) fX6_31 rfl (by decide) (by decide) ⟨dX6_joinChanged_19, rfl⟩ ?_
      refine Ev.iload_n (q := 1) ⟨dX6_joinChanged_22, rfl⟩ rfl rfl ?_
      obtain ⟨c1, h⟩ := ckI_s h
      refine Ev.aaloadk (C := 3) (r := (5 * v0 + (v1).toNat)) (by decide) c1.1 c1.2 (sr11 c1) ⟨dX6_joinChanged_23, rfl⟩ ?_
      refine Ev.iload (q := 5) ⟨dX6_joinChanged_24, rfl⟩ rfl ?_
      obtain ⟨r3, hv2, h⟩ := bnd_s h
      refine Ev.callV1 (mc1 := mc) (ms1 := ms) (v := vi r3) (h1 := hq D x) vX6_128 (c_X3_changedFields Θ D z _ _ _ _ hv2) rfl rfl (by decide) rfl ⟨by decide, by decide, Nat.le_of_eq (Nat.zero_add _), Nat.le_of_eq (Nat.zero_add _), Nat.le_of_ble_eq_true rfl⟩ ⟨dX6_joinChanged_26, rfl⟩ ?_
      clear hv2
      refine Ev.if_ne jX6_joinChanged_29 (fun hc => ?_) (fun hc => ?_)
      · replace h := (if_neg hc).symm.trans h; clear hc
        refine Ev.aload_n (q := 2) ⟨dX6_joinChanged_35, rfl⟩ rfl rfl ?_
        refine Ev.iload (q := 5) ⟨dX6_joinChanged_36, rfl⟩ rfl ?_
        obtain ⟨r5, hv4, h⟩ := bnd_s h
        refine Ev.callV1 (mc1 := mc) (ms1 := ms) (v := vi r5) (h1 := hq D x) vX6_152 (c_X0_has Θ D z _ _ _ _ hv4) rfl rfl (by decide) rfl ⟨by decide, by decide, Nat.le_of_eq (Nat.zero_add _), Nat.le_of_eq (Nat.zero_add _), Nat.le_of_ble_eq_true rfl⟩ ⟨dX6_joinChanged_38, rfl⟩ ?_
        clear hv4
        refine Ev.if_eq jX6_joinChanged_41 (fun hc => ?_) (fun hc => ?_)
        · replace h := (if_pos hc).symm.trans h; clear hc
          refine Ev.aload_n (q := 3) ⟨dX6_joinChanged_61, rfl⟩ rfl rfl ?_
          refine Ev.iconst ⟨dX6_joinChanged_62, rfl⟩ (inRd rfl) ?_
          refine Ev.iload (q := 5) ⟨dX6_joinChanged_63, rfl⟩ rfl ?_
          refine Ev.iconst ⟨dX6_joinChanged_65, rfl⟩ (inRd rfl) ?_
          refine Ev.iconst ⟨dX6_joinChanged_66, rfl⟩ (inRd rfl) ?_
          refine Ev.iload_n (q := 1) ⟨dX6_joinChanged_67, rfl⟩ rfl rfl ?_
          refine Ev.aload_n (q := 0) ⟨dX6_joinChanged_68, rfl⟩ rfl rfl ?_
          refine Ev.getI fX6_43 (Or.inl rfl) ⟨dX6_joinChanged_69, rfl⟩ ?_
          obtain ⟨r7, hv6, h⟩ := bnd_s h
          refine Ev.callVN (mc1 := mc) (ms1 := ms) (h1 := hq D r7) vX6_156 (c_X1_add Θ D z _ _ _ _ _ _ _ _ _ hv6) rfl rfl (by decide) rfl ⟨by decide, by decide, Nat.le_of_eq (Nat.zero_add _), Nat.le_of_eq (Nat.zero_add _), Nat.le_of_ble_eq_true rfl⟩ ⟨dX6_joinChanged_72, rfl⟩ ?_
          clear hv6
          obtain ⟨c8, h⟩ := ckR_s h
          refine Ev.iinc (q := 4) (ls' := [(0, _), (1, _), (2, _), (3, _), (4, _), (5, _)]) ⟨dX6_joinChanged_75, rfl⟩ rfl (by decide) c8 rfl ?_
          obtain ⟨c9, h⟩ := ckR_s h
          refine Ev.iinc (q := 5) (ls' := [(0, _), (1, _), (2, _), (3, _), (4, _), (5, _)]) ⟨dX6_joinChanged_78, rfl⟩ rfl (by decide) c9 rfl ?_
          refine Ev.goto jX6_joinChanged_81 ?_
          exact ih _ _ _ _ h k1
        · replace h := (if_neg hc).symm.trans h; clear hc
          refine Ev.iload (q := 4) ⟨dX6_joinChanged_44, rfl⟩ rfl ?_
          refine Ev.aload_n (q := 0) ⟨dX6_joinChanged_46, rfl⟩ rfl rfl ?_
          refine Ev.iload_n (q := 1) ⟨dX6_joinChanged_47, rfl⟩ rfl rfl ?_
          refine Ev.iload (q := 5) ⟨dX6_joinChanged_48, rfl⟩ rfl ?_
          refine Ev.aload_n (q := 2) ⟨dX6_joinChanged_50, rfl⟩ rfl rfl ?_
          refine Ev.aload_n (q := 3) ⟨dX6_joinChanged_51, rfl⟩ rfl rfl ?_
          obtain ⟨r11, hv10, h⟩ := bnd_s h
          refine Ev.callV1 (mc1 := mc) (ms1 := ms) (v := vi r11.1) (h1 := hq D r11.2) vX6_171 (c_X6_joinFields Θ D z _ _ _ _ _ _ _ hv10) rfl rfl (by decide) rfl ⟨by decide, by decide, Nat.le_of_eq (Nat.zero_add _), Nat.le_of_eq (Nat.zero_add _), Nat.le_of_ble_eq_true rfl⟩ ⟨dX6_joinChanged_52, rfl⟩ ?_
          clear hv10
          obtain ⟨c12, h⟩ := ckR_s h
          refine Ev.iadd ⟨dX6_joinChanged_55, rfl⟩ c12 ?_
          refine Ev.istore (i := 4) (ls' := [(0, _), (1, _), (2, _), (3, _), (4, _), (5, _)]) ⟨dX6_joinChanged_56, rfl⟩ (by decide) rfl ?_
          refine Ev.goto jX6_joinChanged_58 ?_
          obtain ⟨c13, h⟩ := ckR_s h
          refine Ev.iinc (q := 5) (ls' := [(0, _), (1, _), (2, _), (3, _), (4, _), (5, _)]) ⟨dX6_joinChanged_78, rfl⟩ rfl (by decide) c13 rfl ?_
          refine Ev.goto jX6_joinChanged_81 ?_
          exact ih _ _ _ _ h k1
      · replace h := (if_pos hc).symm.trans h; clear hc
        refine Ev.goto jX6_joinChanged_32 ?_
        obtain ⟨c14, h⟩ := ckR_s h
        refine Ev.iinc (q := 5) (ls' := [(0, _), (1, _), (2, _), (3, _), (4, _), (5, _)]) ⟨dX6_joinChanged_78, rfl⟩ rfl (by decide) c14 rfl ?_
        refine Ev.goto jX6_joinChanged_81 ?_
        exact ih _ _ _ _ h k1
def F_X6_joinChanged (z : Nat) (v0 : Nat) (v1 : Int) (v2 : Nat) (v3 : Nat) (x : Mm) : Option (Int × Mm) := (F_X6_joinChanged_6 z (v0) (v1) (v2) (v3) z ((0 : Int)) ((0 : Int)) x).bind fun s15 => some ((s15.1, s15.2))
set_option maxHeartbeats 4000000 in
set_option maxRecDepth 20000 in
theorem c_X6_joinChanged (Θ : GC) (D : Nat → Nat → Prop) (z : Nat) (v0 : Nat) (v1 : Int) (v2 : Nat) (v3 : Nat) (x : Mm) (y) (h : F_X6_joinChanged z v0 v1 v2 v3 x = some y) : Cal Θ mX6_joinChanged 3 82 0 0 [vr 6 (v0 + 1), vi (v1), vr 0 (v2 + 1), vr 1 (v3 + 1)] (hq D x) (Ret (vi y.1) (hq D y.2)) := by
  refine Cal.of (by decide +kernel) rfl rfl (Nat.le_of_ble_eq_true rfl) ?_
  show Ev Θ mX6_joinChanged 3 82 0 0 0 [(0, vr 6 (v0 + 1)), (1, vi (v1)), (2, vr 0 (v2 + 1)), (3, vr 1 (v3 + 1))] [] (hq D x) (Ret (vi y.1) (hq D y.2))
  unfold F_X6_joinChanged at h
  refine Ev.iconst ⟨dX6_joinChanged_0, rfl⟩ (inRd rfl) ?_
  refine Ev.istore (i := 4) (ls' := [(0, _), (1, _), (2, _), (3, _), (4, _)]) ⟨dX6_joinChanged_1, rfl⟩ (by decide) rfl ?_
  refine Ev.iconst ⟨dX6_joinChanged_3, rfl⟩ (inRd rfl) ?_
  refine Ev.istore (i := 5) (ls' := [(0, _), (1, _), (2, _), (3, _), (4, _), (5, _)]) ⟨dX6_joinChanged_4, rfl⟩ (by decide) rfl ?_
  obtain ⟨s15, hl, h⟩ := bnd_s h
  refine e_X6_joinChanged_6 Θ D z _ _ _ _ _ _ _ _ _ _ _ _ hl ?_
  clear hl
  refine Ev.iload (q := 4) ⟨dX6_joinChanged_84, rfl⟩ rfl ?_
  obtain rfl := Option.some.inj h
  exact Ev.ireturn (ty := .int) ⟨dX6_joinChanged_86, rfl⟩ rfl rfl ⟨rfl, rfl⟩

def F_X6_isAsInBase_18 (z : Nat) (v0 : Nat) (v1 : Nat) (v2 : Int) (v3 : Nat) (v4 : BitVec 64) (x : Mm) : Nat → Int → Option ((Unit) ⊕ (Int))
  | 0, _ => none
  | k + 1, v6 => if (x.1 4 v0 0) ≤ v6 then (some (.inl ())) else ((F_X7_contains z (v4) (v6) x).bind fun r4 => if r4 = 0 then (ckR ((v6 + 1)) <| F_X6_isAsInBase_18 z v0 v1 v2 v3 v4 x k ((v6 + 1))) else ((F_X0_has z (v1) (v6) x).bind fun r7 => if r7 = 0 then (some (.inr (0 : Int))) else ((F_X0_countDifferent z (v3) (v1) (v6) x).bind fun r9 => if r9 ≤ 0 then (ckR ((v6 + 1)) <| F_X6_isAsInBase_18 z v0 v1 v2 v3 v4 x k ((v6 + 1))) else (some (.inr (0 : Int))))))
set_option maxHeartbeats 4000000 in
set_option maxRecDepth 20000 in
theorem e_X6_isAsInBase_18 (Θ : GC) (D : Nat → Nat → Prop) (z : Nat) (v0 : Nat) (v1 : Nat) (v2 : Int) (v3 : Nat) (v4 : BitVec 64) (x : Mm) (Q : Ro → Hp → Prop) (mc ms : Nat) : ∀ (k : Nat) (v6 : Int) (y), F_X6_isAsInBase_18 z v0 v1 v2 v3 v4 x k v6 = some y → (∀ s, y = .inl s → Ev Θ mX6_isAsInBase 2 46 mc ms 67 [(0, vr 6 (v0 + 1)), (1, vr 0 (v1 + 1)), (2, vi (v2)), (3, vr 0 (v3 + 1)), (4, vl (v4))] [] (hq D x) Q) → (∀ r, y = .inr r → Q (.inl (some (vi r))) (hq D x)) → Ev Θ mX6_isAsInBase 2 46 mc ms 18 [(0, vr 6 (v0 + 1)), (1, vr 0 (v1 + 1)), (2, vi (v2)), (3, vr 0 (v3 + 1)), (4, vl (v4)), (6, vi (v6))] [] (hq D x) Q := by
  intro k
  induction k with
  | zero => intro v6 y h; exact absurd h (by unfold F_X6_isAsInBase_18; exact nofun)
  | succ k ih =>
    intro v6 y h k1 k2
    unfold F_X6_isAsInBase_18 at h
    refine Ev.iload (q := 5) ⟨dX6_isAsInBase_18, rfl⟩ rfl ?_
    refine Ev.aload_n (q := 0) ⟨dX6_isAsInBase_20, rfl⟩ rfl rfl ?_
    refine Ev.getRk (C2 := 4) (r := v0) fX6_18 rfl (by decide) (by decide) ⟨dX6_isAsInBase_21, rfl⟩ ?_
    refine Ev.getI fX6_127 (Or.inl rfl) ⟨dX6_isAsInBase_24, rfl⟩ ?_
    refine Ev.icmp_ge jX6_isAsInBase_27 (fun hc => ?_) (fun hc => ?_)
    · replace h := (if_pos hc).symm.trans h; clear hc
      refine Ev.keep [0, 1, 2, 3, 4] rfl ?_
      obtain rfl := Option.some.inj h
      exact k1 _ rfl
    · replace h := (if_neg hc).symm.trans h; clear hc
      refine Ev.lload (q := 4) ⟨dX6_isAsInBase_30, rfl⟩ rfl ?_
      refine Ev.iload (q := 5) ⟨dX6_isAsInBase_32, rfl⟩ rfl ?_
      obtain ⟨r4, hv3, h⟩ := bnd_s h
      refine Ev.callN1 (mc1 := mc) (ms1 := ms) (v := vi r4) (h1 := hq D x) nX6_145 (c_X7_contains Θ D z _ _ _ _ hv3) rfl rfl ⟨by decide, by decide, Nat.le_of_eq (Nat.zero_add _), Nat.le_of_eq (Nat.zero_add _), Nat.le_of_ble_eq_true rfl⟩ ⟨dX6_isAsInBase_34, rfl⟩ ?_
      clear hv3
      refine Ev.if_eq jX6_isAsInBase_37 (fun hc => ?_) (fun hc => ?_)
      · replace h := (if_pos hc).symm.trans h; clear hc
        obtain ⟨c5, h⟩ := ckR_s h
        refine Ev.iinc (q := 5) (ls' := [(0, _), (1, _), (2, _), (3, _), (4, _), (6, _)]) ⟨dX6_isAsInBase_61, rfl⟩ rfl (by decide) c5 rfl ?_
        refine Ev.goto jX6_isAsInBase_64 ?_
        exact ih _ _ h k1 k2
      · replace h := (if_neg hc).symm.trans h; clear hc
        refine Ev.aload_n (q := 1) ⟨dX6_isAsInBase_40, rfl⟩ rfl rfl ?_
        refine Ev.iload (q := 5) ⟨dX6_isAsInBase_41, rfl⟩ rfl ?_
        obtain ⟨r7, hv6, h⟩ := bnd_s h
        refine Ev.callV1 (mc1 := mc) (ms1 := ms) (v := vi r7) (h1 := hq D x) vX6_152 (c_X0_has Θ D z _ _ _ _ hv6) rfl rfl (by decide) rfl ⟨by decide, by decide, Nat.le_of_eq (Nat.zero_add _), Nat.le_of_eq (Nat.zero_add _), Nat.le_of_ble_eq_true rfl⟩ ⟨dX6_isAsInBase_43, rfl⟩ ?_
        clear hv6
        refine Ev.if_eq jX6_isAsInBase_46 (fun hc => ?_) (fun hc => ?_)
        · replace h := (if_pos hc).symm.trans h; clear hc
          refine Ev.iconst ⟨dX6_isAsInBase_59, rfl⟩ (inRd rfl) ?_
          obtain rfl := Option.some.inj h
          exact Ev.ireturn (ty := .boolean) ⟨dX6_isAsInBase_60, rfl⟩ rfl rfl (k2 _ rfl)
        · replace h := (if_neg hc).symm.trans h; clear hc
          refine Ev.aload_n (q := 3) ⟨dX6_isAsInBase_49, rfl⟩ rfl rfl ?_
          refine Ev.aload_n (q := 1) ⟨dX6_isAsInBase_50, rfl⟩ rfl rfl ?_
          refine Ev.iload (q := 5) ⟨dX6_isAsInBase_51, rfl⟩ rfl ?_
          obtain ⟨r9, hv8, h⟩ := bnd_s h
          refine Ev.callV1 (mc1 := mc) (ms1 := ms) (v := vi r9) (h1 := hq D x) vX6_193 (c_X0_countDifferent Θ D z _ _ _ _ _ hv8) rfl rfl (by decide) rfl ⟨by decide, by decide, Nat.le_of_eq (Nat.zero_add _), Nat.le_of_eq (Nat.zero_add _), Nat.le_of_ble_eq_true rfl⟩ ⟨dX6_isAsInBase_53, rfl⟩ ?_
          clear hv8
          refine Ev.if_le jX6_isAsInBase_56 (fun hc => ?_) (fun hc => ?_)
          · replace h := (if_pos hc).symm.trans h; clear hc
            obtain ⟨c10, h⟩ := ckR_s h
            refine Ev.iinc (q := 5) (ls' := [(0, _), (1, _), (2, _), (3, _), (4, _), (6, _)]) ⟨dX6_isAsInBase_61, rfl⟩ rfl (by decide) c10 rfl ?_
            refine Ev.goto jX6_isAsInBase_64 ?_
            exact ih _ _ h k1 k2
          · replace h := (if_neg hc).symm.trans h; clear hc
            refine Ev.iconst ⟨dX6_isAsInBase_59, rfl⟩ (inRd rfl) ?_
            obtain rfl := Option.some.inj h
            exact Ev.ireturn (ty := .boolean) ⟨dX6_isAsInBase_60, rfl⟩ rfl rfl (k2 _ rfl)
def F_X6_isAsInBase (z : Nat) (v0 : Nat) (v1 : Nat) (v2 : Int) (v3 : Nat) (x : Mm) : Option (Int) := (F_X4_atOrBelow z (v0) (v2) x).bind fun r2 => bndE (fun r => r) (F_X6_isAsInBase_18 z (v0) (v1) (v2) (v3) (((x.2 0 v3 0) &&& r2)) x z ((0 : Int))) fun s11 => some ((1 : Int))
set_option maxHeartbeats 4000000 in
set_option maxRecDepth 20000 in
theorem c_X6_isAsInBase (Θ : GC) (D : Nat → Nat → Prop) (z : Nat) (v0 : Nat) (v1 : Nat) (v2 : Int) (v3 : Nat) (x : Mm) (y) (h : F_X6_isAsInBase z v0 v1 v2 v3 x = some y) : Cal Θ mX6_isAsInBase 2 46 0 0 [vr 6 (v0 + 1), vr 0 (v1 + 1), vi (v2), vr 0 (v3 + 1)] (hq D x) (Ret (vi y) (hq D x)) := by
  refine Cal.of (by decide +kernel) rfl rfl (Nat.le_of_ble_eq_true rfl) ?_
  show Ev Θ mX6_isAsInBase 2 46 0 0 0 [(0, vr 6 (v0 + 1)), (1, vr 0 (v1 + 1)), (2, vi (v2)), (3, vr 0 (v3 + 1))] [] (hq D x) (Ret (vi y) (hq D x))
  unfold F_X6_isAsInBase at h
  refine Ev.aload_n (q := 3) ⟨dX6_isAsInBase_0, rfl⟩ rfl rfl ?_
  refine Ev.getL fX6_91 ⟨dX6_isAsInBase_1, rfl⟩ ?_
  refine Ev.aload_n (q := 0) ⟨dX6_isAsInBase_4, rfl⟩ rfl rfl ?_
  refine Ev.getRk (C2 := 4) (r := v0) fX6_18 rfl (by decide) (by decide) ⟨dX6_isAsInBase_5, rfl⟩ ?_
  refine Ev.iload_n (q := 2) ⟨dX6_isAsInBase_8, rfl⟩ rfl rfl ?_
  obtain ⟨r2, hv1, h⟩ := bnd_s h
  refine Ev.callV1 (mc1 := 0) (ms1 := 0) (v := vl r2) (h1 := hq D x) vX6_83 (c_X4_atOrBelow Θ D z _ _ _ _ hv1) rfl rfl (by decide) rfl ⟨by decide, by decide, Nat.le_of_eq (Nat.zero_add _), Nat.le_of_eq (Nat.zero_add _), Nat.le_of_ble_eq_true rfl⟩ ⟨dX6_isAsInBase_9, rfl⟩ ?_
  clear hv1
  refine Ev.land ⟨dX6_isAsInBase_12, rfl⟩ ?_
  refine Ev.lstore (i := 4) (ls' := [(0, _), (1, _), (2, _), (3, _), (4, _)]) ⟨dX6_isAsInBase_13, rfl⟩ (by decide) rfl ?_
  refine Ev.iconst ⟨dX6_isAsInBase_15, rfl⟩ (inRd rfl) ?_
  refine Ev.istore (i := 6) (ls' := [(0, _), (1, _), (2, _), (3, _), (4, _), (6, _)]) ⟨dX6_isAsInBase_16, rfl⟩ (by decide) rfl ?_
  rcases bndE_s h with ⟨s11, hl, h⟩ | ⟨r1, hl, rfl⟩
  rotate_left
  · exact e_X6_isAsInBase_18 Θ D z _ _ _ _ _ _ _ _ _ _ _ _ hl (fun s2 e2 => by cases e2) (fun r2 e2 => by cases e2; exact ⟨rfl, rfl⟩)
  refine e_X6_isAsInBase_18 Θ D z _ _ _ _ _ _ _ _ _ _ _ _ hl (fun s2 e2 => ?_) (fun r2 e2 => by cases e2)
  cases e2
  clear hl
  refine Ev.iconst ⟨dX6_isAsInBase_67, rfl⟩ (inRd rfl) ?_
  obtain rfl := Option.some.inj h
  exact Ev.ireturn (ty := .boolean) ⟨dX6_isAsInBase_68, rfl⟩ rfl rfl ⟨rfl, rfl⟩

def F_X6_joinRemoved_37 (z : Nat) (v0 : Nat) (v1 : Int) (v2 : Nat) (v3 : Nat) (v4 : Nat) (v5 : BitVec 64) : Nat → Int → Int → Mm → Option (Int × Mm)
  | 0, _, _, _ => none
  | k + 1, v7, v8, x => if (x.1 4 v0 0) ≤ v8 then (some ((v7, x))) else ((F_X7_contains z (v5) (v8) x).bind fun r3 => if r3 = 0 then (ckR ((v8 + 1)) <| F_X6_joinRemoved_37 z v0 v1 v2 v3 v4 v5 k (v7) ((v8 + 1)) x) else (ckI v8 60 <| (F_X0_has z ((3 * v4 + 2)) ((x.1 21 v0 (v8).toNat)) x).bind fun r7 => if r7 = 0 then (ckR ((v8 + 1)) <| F_X6_joinRemoved_37 z v0 v1 v2 v3 v4 v5 k (v7) ((v8 + 1)) x) else ((F_X0_has z (v2) (v8) x).bind fun r10 => if r10 = 0 then (ckR ((v8 + 1)) <| F_X6_joinRemoved_37 z v0 v1 v2 v3 v4 v5 k (v7) ((v8 + 1)) x) else ((F_X6_isAsInBase z (v0) ((3 * v4 + 1)) (v8) (v2) x).bind fun r12 => if r12 = 0 then ((F_X1_add z (v3) ((4 : Int)) (v8) ((-1 : Int)) ((0 : Int)) (v1) ((x.1 6 v0 0)) x).bind fun r14 => ckR ((v7 + 1)) <| ckR ((v8 + 1)) <| F_X6_joinRemoved_37 z v0 v1 v2 v3 v4 v5 k ((v7 + 1)) ((v8 + 1)) r14) else ((F_X4_atOrBelow z (v0) (v8) x).bind fun r18 => (some (wL x 0 v2 0 (((x.2 0 v2 0) &&& (r18 ^^^ (BitVec.ofInt 64 (-1))))))).bind fun x19 => ckR ((v8 + 1)) <| F_X6_joinRemoved_37 z v0 v1 v2 v3 v4 v5 k (v7) ((v8 + 1)) x19)))))
set_option maxHeartbeats 4000000 in
set_option maxRecDepth 20000 in
theorem e_X6_joinRemoved_37 (Θ : GC) (D : Nat → Nat → Prop) (z : Nat) (v0 : Nat) (v1 : Int) (v2 : Nat) (v3 : Nat) (v4 : Nat) (v5 : BitVec 64) (Q : Ro → Hp → Prop) (mc ms : Nat) : ∀ (k : Nat) (v7 : Int) (v8 : Int) (x : Mm) (y), F_X6_joinRemoved_37 z v0 v1 v2 v3 v4 v5 k v7 v8 x = some y → (Ev Θ mX6_joinRemoved 3 72 mc ms 167 [(0, vr 6 (v0 + 1)), (1, vi (v1)), (2, vr 0 (v2 + 1)), (3, vr 1 (v3 + 1)), (4, vr 3 (v4 + 1)), (5, vl (v5)), (7, vi (y.1))] [] (hq D y.2) Q) → Ev Θ mX6_joinRemoved 3 72 mc ms 37 [(0, vr 6 (v0 + 1)), (1, vi (v1)), (2, vr 0 (v2 + 1)), (3, vr 1 (v3 + 1)), (4, vr 3 (v4 + 1)), (5, vl (v5)), (7, vi (v7)), (8, vi (v8))] [] (hq D x) Q := by
  intro k
  induction k with
  | zero => intro v7 v8 x y h; exact absurd h (by unfold F_X6_joinRemoved_37; exact nofun)
  | succ k ih =>
    intro v7 v8 x y h k1
    unfold F_X6_joinRemoved_37 at h
    refine Ev.iload (q := 7) ⟨dX6_joinRemoved_37, rfl⟩ rfl ?_
    refine Ev.aload_n (q := 0) ⟨dX6_joinRemoved_39, rfl⟩ rfl rfl ?_
    refine Ev.getRk (C2 := 4) (r := v0) fX6_18 rfl (by decide) (by decide) ⟨dX6_joinRemoved_40, rfl⟩ ?_
    refine Ev.getI fX6_127 (Or.inl rfl) ⟨dX6_joinRemoved_43, rfl⟩ ?_
    refine Ev.icmp_ge jX6_joinRemoved_46 (fun hc => ?_) (fun hc => ?_)
    · replace h := (if_pos hc).symm.trans h; clear hc
      refine Ev.keep [0, 1, 2, 3, 4, 5, 6] rfl ?_
      obtain rfl := Option.some.inj h
      exact k1
    · replace h := (if_neg hc).symm.trans h; clear hc
      refine Ev.lload (q := 5) ⟨dX6_joinRemoved_49, rfl⟩ rfl ?_
      refine Ev.iload (q := 7) ⟨dX6_joinRemoved_51, rfl⟩ rfl ?_
      obtain ⟨r3, hv2, h⟩ := bnd_s h
      refine Ev.callN1 (mc1 := mc) (ms1 := ms) (v := vi r3) (h1 := hq D x) nX6_145 (c_X7_contains Θ D z _ _ _ _ hv2) rfl rfl ⟨by decide, by decide, Nat.le_of_eq (Nat.zero_add _), Nat.le_of_eq (Nat.zero_add _), Nat.le_of_ble_eq_true rfl⟩ ⟨dX6_joinRemoved_53, rfl⟩ ?_
      clear hv2
      refine Ev.if_eq jX6_joinRemoved_56 (fun hc => ?_) (fun hc => ?_)
      · replace h := (if_pos hc).symm.trans h; clear hc
        refine Ev.iconst ⟨dX6_joinRemoved_84, rfl⟩ (inRd rfl) ?_
        refine Ev.istore (i := 9) (ls' := [(0, _), (1, _), (2, _), (3, _), (4, _), (5, _), (7, _), (8, _), (9, _)]) ⟨dX6_joinRemoved_85, rfl⟩ (by decide) rfl ?_
        refine Ev.iload (q := 8) ⟨dX6_joinRemoved_87, rfl⟩ rfl ?_
        refine Ev.if_eq jX6_joinRemoved_89 (fun hc => ?_) (fun hc => ?_)
        rotate_left
        · exact absurd hc (by decide)
        obtain ⟨c4, h⟩ := ckR_s h
        refine Ev.iinc (q := 7) (ls' := [(0, _), (1, _), (2, _), (3, _), (4, _), (5, _), (7, _), (8, _), (9, _)]) ⟨dX6_joinRemoved_161, rfl⟩ rfl (by decide) c4 rfl ?_
        refine Ev.goto jX6_joinRemoved_164 ?_
        refine Ev.keep [0, 1, 2, 3, 4, 5, 6, 7] rfl ?_
        exact ih _ _ _ _ h k1
      · replace h := (if_neg hc).symm.trans h; clear hc
        refine Ev.aload (q := 4) ⟨dX6_joinRemoved_59, rfl⟩ rfl ?_
        refine Ev.getRk (C2 := 0) (r := (3 * v4 + 2)) fX6_113 rfl (by decide) (by decide) ⟨dX6_joinRemoved_61, rfl⟩ ?_
        refine Ev.aload_n (q := 0) ⟨dX6_joinRemoved_64, rfl⟩ rfl rfl ?_
        refine Ev.getRk (C2 := 4) (r := v0) fX6_18 rfl (by decide) (by decide) ⟨dX6_joinRemoved_65, rfl⟩ ?_
        refine Ev.getRk (C2 := 21) (r := v0) fX6_149 rfl (by decide) (by decide) ⟨dX6_joinRemoved_68, rfl⟩ ?_
        refine Ev.iload (q := 7) ⟨dX6_joinRemoved_71, rfl⟩ rfl ?_
        obtain ⟨c5, h⟩ := ckI_s h
        refine Ev.iaload (by decide) c5.1 c5.2 ⟨dX6_joinRemoved_73, rfl⟩ ?_
        obtain ⟨r7, hv6, h⟩ := bnd_s h
        refine Ev.callV1 (mc1 := mc) (ms1 := ms) (v := vi r7) (h1 := hq D x) vX6_152 (c_X0_has Θ D z _ _ _ _ hv6) rfl rfl (by decide) rfl ⟨by decide, by decide, Nat.le_of_eq (Nat.zero_add _), Nat.le_of_eq (Nat.zero_add _), Nat.le_of_ble_eq_true rfl⟩ ⟨dX6_joinRemoved_74, rfl⟩ ?_
        clear hv6
        refine Ev.if_eq jX6_joinRemoved_77 (fun hc => ?_) (fun hc => ?_)
        · replace h := (if_pos hc).symm.trans h; clear hc
          refine Ev.iconst ⟨dX6_joinRemoved_84, rfl⟩ (inRd rfl) ?_
          refine Ev.istore (i := 9) (ls' := [(0, _), (1, _), (2, _), (3, _), (4, _), (5, _), (7, _), (8, _), (9, _)]) ⟨dX6_joinRemoved_85, rfl⟩ (by decide) rfl ?_
          refine Ev.iload (q := 8) ⟨dX6_joinRemoved_87, rfl⟩ rfl ?_
          refine Ev.if_eq jX6_joinRemoved_89 (fun hc => ?_) (fun hc => ?_)
          rotate_left
          · exact absurd hc (by decide)
          obtain ⟨c8, h⟩ := ckR_s h
          refine Ev.iinc (q := 7) (ls' := [(0, _), (1, _), (2, _), (3, _), (4, _), (5, _), (7, _), (8, _), (9, _)]) ⟨dX6_joinRemoved_161, rfl⟩ rfl (by decide) c8 rfl ?_
          refine Ev.goto jX6_joinRemoved_164 ?_
          refine Ev.keep [0, 1, 2, 3, 4, 5, 6, 7] rfl ?_
          exact ih _ _ _ _ h k1
        · replace h := (if_neg hc).symm.trans h; clear hc
          refine Ev.iconst ⟨dX6_joinRemoved_80, rfl⟩ (inRd rfl) ?_
          refine Ev.goto jX6_joinRemoved_81 ?_
          refine Ev.istore (i := 9) (ls' := [(0, _), (1, _), (2, _), (3, _), (4, _), (5, _), (7, _), (8, _), (9, _)]) ⟨dX6_joinRemoved_85, rfl⟩ (by decide) rfl ?_
          refine Ev.iload (q := 8) ⟨dX6_joinRemoved_87, rfl⟩ rfl ?_
          refine Ev.if_eq jX6_joinRemoved_89 (fun hc => ?_) (fun hc => ?_)
          · exact absurd hc (by decide)
          refine Ev.aload_n (q := 2) ⟨dX6_joinRemoved_92, rfl⟩ rfl rfl ?_
          refine Ev.iload (q := 7) ⟨dX6_joinRemoved_93, rfl⟩ rfl ?_
          obtain ⟨r10, hv9, h⟩ := bnd_s h
          refine Ev.callV1 (mc1 := mc) (ms1 := ms) (v := vi r10) (h1 := hq D x) vX6_152 (c_X0_has Θ D z _ _ _ _ hv9) rfl rfl (by decide) rfl ⟨by decide, by decide, Nat.le_of_eq (Nat.zero_add _), Nat.le_of_eq (Nat.zero_add _), Nat.le_of_ble_eq_true rfl⟩ ⟨dX6_joinRemoved_95, rfl⟩ ?_
          clear hv9
          refine Ev.if_ne jX6_joinRemoved_98 (fun hc => ?_) (fun hc => ?_)
          · replace h := (if_neg hc).symm.trans h; clear hc
            refine Ev.aload_n (q := 0) ⟨dX6_joinRemoved_104, rfl⟩ rfl rfl ?_
            refine Ev.aload (q := 4) ⟨dX6_joinRemoved_105, rfl⟩ rfl ?_
            refine Ev.getRk (C2 := 0) (r := (3 * v4 + 1)) fX6_110 rfl (by decide) (by decide) ⟨dX6_joinRemoved_107, rfl⟩ ?_
            refine Ev.iload (q := 7) ⟨dX6_joinRemoved_110, rfl⟩ rfl ?_
            refine Ev.aload_n (q := 2) ⟨dX6_joinRemoved_112, rfl⟩ rfl rfl ?_
            obtain ⟨r12, hv11, h⟩ := bnd_s h
            refine Ev.callV1 (mc1 := mc) (ms1 := ms) (v := vi r12) (h1 := hq D x) vX6_189 (c_X6_isAsInBase Θ D z _ _ _ _ _ _ hv11) rfl rfl (by decide) rfl ⟨by decide, by decide, Nat.le_of_eq (Nat.zero_add _), Nat.le_of_eq (Nat.zero_add _), Nat.le_of_ble_eq_true rfl⟩ ⟨dX6_joinRemoved_113, rfl⟩ ?_
            clear hv11
            refine Ev.if_eq jX6_joinRemoved_116 (fun hc => ?_) (fun hc => ?_)
            · replace h := (if_pos hc).symm.trans h; clear hc
              refine Ev.aload_n (q := 3) ⟨dX6_joinRemoved_144, rfl⟩ rfl rfl ?_
              refine Ev.iconst ⟨dX6_joinRemoved_145, rfl⟩ (inRd rfl) ?_
              refine Ev.iload (q := 7) ⟨dX6_joinRemoved_146, rfl⟩ rfl ?_
              refine Ev.iconst ⟨dX6_joinRemoved_148, rfl⟩ (inRd rfl) ?_
              refine Ev.iconst ⟨dX6_joinRemoved_149, rfl⟩ (inRd rfl) ?_
              refine Ev.iload_n (q := 1) ⟨dX6_joinRemoved_150, rfl⟩ rfl rfl ?_
              refine Ev.aload_n (q := 0) ⟨dX6_joinRemoved_151, rfl⟩ rfl rfl ?_
              refine Ev.getI fX6_43 (Or.inl rfl) ⟨dX6_joinRemoved_152, rfl⟩ ?_
              obtain ⟨r14, hv13, h⟩ := bnd_s h
              refine Ev.callVN (mc1 := mc) (ms1 := ms) (h1 := hq D r14) vX6_156 (c_X1_add Θ D z _ _ _ _ _ _ _ _ _ hv13) rfl rfl (by decide) rfl ⟨by decide, by decide, Nat.le_of_eq (Nat.zero_add _), Nat.le_of_eq (Nat.zero_add _), Nat.le_of_ble_eq_true rfl⟩ ⟨dX6_joinRemoved_155, rfl⟩ ?_
              clear hv13
              obtain ⟨c15, h⟩ := ckR_s h
              refine Ev.iinc (q := 6) (ls' := [(0, _), (1, _), (2, _), (3, _), (4, _), (5, _), (7, _), (8, _), (9, _)]) ⟨dX6_joinRemoved_158, rfl⟩ rfl (by decide) c15 rfl ?_
              obtain ⟨c16, h⟩ := ckR_s h
              refine Ev.iinc (q := 7) (ls' := [(0, _), (1, _), (2, _), (3, _), (4, _), (5, _), (7, _), (8, _), (9, _)]) ⟨dX6_joinRemoved_161, rfl⟩ rfl (by decide) c16 rfl ?_
              refine Ev.goto jX6_joinRemoved_164 ?_
              refine Ev.keep [0, 1, 2, 3, 4, 5, 6, 7] rfl ?_
              exact ih _ _ _ _ h k1
            · replace h := (if_neg hc).symm.trans h; clear hc
              refine Ev.aload_n (q := 2) ⟨dX6_joinRemoved_119, rfl⟩ rfl rfl ?_
              refine Ev.dup ⟨dX6_joinRemoved_120, rfl⟩ rfl ?_
              refine Ev.getL fX6_91 ⟨dX6_joinRemoved_121, rfl⟩ ?_
              refine Ev.aload_n (q := 0) ⟨dX6_joinRemoved_124, rfl⟩ rfl rfl ?_
              refine Ev.getRk (C2 := 4) (r := v0) fX6_18 rfl (by decide) (by decide) ⟨dX6_joinRemoved_125, rfl⟩ ?_
              refine Ev.iload (q := 7) ⟨dX6_joinRemoved_128, rfl⟩ rfl ?_
              obtain ⟨r18, hv17, h⟩ := bnd_s h
              refine Ev.callV1 (mc1 := mc) (ms1 := ms) (v := vl r18) (h1 := hq D x) vX6_83 (c_X4_atOrBelow Θ D z _ _ _ _ hv17) rfl rfl (by decide) rfl ⟨by decide, by decide, Nat.le_of_eq (Nat.zero_add _), Nat.le_of_eq (Nat.zero_add _), Nat.le_of_ble_eq_true rfl⟩ ⟨dX6_joinRemoved_130, rfl⟩ ?_
              clear hv17
              refine Ev.ldc2 (b := BitVec.ofInt 64 (-1)) ⟨dX6_joinRemoved_133, rfl⟩ wX6_187 ?_
              refine Ev.lxor ⟨dX6_joinRemoved_136, rfl⟩ ?_
              refine Ev.land ⟨dX6_joinRemoved_137, rfl⟩ ?_
              obtain ⟨x19, ex, h⟩ := bnd_s h
              refine Ev.putL fX6_91 ⟨dX6_joinRemoved_138, rfl⟩ ?_
              refine Ev.cast ?_ rfl rfl (hqL ex)
              clear ex
              refine Ev.goto jX6_joinRemoved_141 ?_
              obtain ⟨c20, h⟩ := ckR_s h
              refine Ev.iinc (q := 7) (ls' := [(0, _), (1, _), (2, _), (3, _), (4, _), (5, _), (7, _), (8, _), (9, _)]) ⟨dX6_joinRemoved_161, rfl⟩ rfl (by decide) c20 rfl ?_
              refine Ev.goto jX6_joinRemoved_164 ?_
              refine Ev.keep [0, 1, 2, 3, 4, 5, 6, 7] rfl ?_
              exact ih _ _ _ _ h k1
          · replace h := (if_pos hc).symm.trans h; clear hc
            refine Ev.goto jX6_joinRemoved_101 ?_
            obtain ⟨c21, h⟩ := ckR_s h
            refine Ev.iinc (q := 7) (ls' := [(0, _), (1, _), (2, _), (3, _), (4, _), (5, _), (7, _), (8, _), (9, _)]) ⟨dX6_joinRemoved_161, rfl⟩ rfl (by decide) c21 rfl ?_
            refine Ev.goto jX6_joinRemoved_164 ?_
            refine Ev.keep [0, 1, 2, 3, 4, 5, 6, 7] rfl ?_
            exact ih _ _ _ _ h k1
def F_X6_joinRemoved (z : Nat) (v0 : Nat) (v1 : Int) (v2 : Nat) (v3 : Nat) (x : Mm) : Option (Int × Mm) := ckI v1 5 <| (F_X6_joinRemoved_37 z (v0) (v1) (v2) (v3) ((5 * v0 + (v1).toNat)) (((x.2 0 (3 * (5 * v0 + (v1).toNat) + 1) 0) &&& ((x.2 0 (3 * (5 * v0 + (v1).toNat) + 2) 0) ^^^ (BitVec.ofInt 64 (-1))))) z ((0 : Int)) ((1 : Int)) x).bind fun s22 => some ((s22.1, s22.2))
set_option maxHeartbeats 4000000 in
set_option maxRecDepth 20000 in
theorem c_X6_joinRemoved (Θ : GC) (D : Nat → Nat → Prop) (z : Nat) (v0 : Nat) (v1 : Int) (v2 : Nat) (v3 : Nat) (x : Mm) (y) (h : F_X6_joinRemoved z v0 v1 v2 v3 x = some y) : Cal Θ mX6_joinRemoved 3 72 0 0 [vr 6 (v0 + 1), vi (v1), vr 0 (v2 + 1), vr 1 (v3 + 1)] (hq D x) (Ret (vi y.1) (hq D y.2)) := by
  refine Cal.of (by decide +kernel) rfl rfl (Nat.le_of_ble_eq_true rfl) ?_
  show Ev Θ mX6_joinRemoved 3 72 0 0 0 [(0, vr 6 (v0 + 1)), (1, vi (v1)), (2, vr 0 (v2 + 1)), (3, vr 1 (v3 + 1))] [] (hq D x) (Ret (vi y.1) (hq D y.2))
  unfold F_X6_joinRemoved at h
  refine Ev.aload_n (q := 0) ⟨dX6_joinRemoved_0, rfl⟩ rfl rfl ?_
  refine Ev.getRk (C2 := 11) (r := v0) fX6_31 rfl (by decide) (by decide) ⟨dX6_joinRemoved_1, rfl⟩ ?_
  refine Ev.iload_n (q := 1) ⟨dX6_joinRemoved_4, rfl⟩ rfl rfl ?_
  obtain ⟨c1, h⟩ := ckI_s h
  refine Ev.aaloadk (C := 3) (r := (5 * v0 + (v1).toNat)) (by decide) c1.1 c1.2 (sr11 c1) ⟨dX6_joinRemoved_5, rfl⟩ ?_
  refine Ev.astore (i := 4) (ls' := [(0, _), (1, _), (2, _), (3, _), (4, _)]) ⟨dX6_joinRemoved_6, rfl⟩ (by decide) rfl ?_
  refine Ev.aload (q := 4) ⟨dX6_joinRemoved_8, rfl⟩ rfl ?_
  refine Ev.getRk (C2 := 0) (r := (3 * (5 * v0 + (v1).toNat) + 1)) fX6_110 rfl (by decide) (by decide) ⟨dX6_joinRemoved_10, rfl⟩ ?_
  refine Ev.getL fX6_91 ⟨dX6_joinRemoved_13, rfl⟩ ?_
  refine Ev.aload (q := 4) ⟨dX6_joinRemoved_16, rfl⟩ rfl ?_
  refine Ev.getRk (C2 := 0) (r := (3 * (5 * v0 + (v1).toNat) + 2)) fX6_113 rfl (by decide) (by decide) ⟨dX6_joinRemoved_18, rfl⟩ ?_
  refine Ev.getL fX6_91 ⟨dX6_joinRemoved_21, rfl⟩ ?_
  refine Ev.ldc2 (b := BitVec.ofInt 64 (-1)) ⟨dX6_joinRemoved_24, rfl⟩ wX6_187 ?_
  refine Ev.lxor ⟨dX6_joinRemoved_27, rfl⟩ ?_
  refine Ev.land ⟨dX6_joinRemoved_28, rfl⟩ ?_
  refine Ev.lstore (i := 5) (ls' := [(0, _), (1, _), (2, _), (3, _), (4, _), (5, _)]) ⟨dX6_joinRemoved_29, rfl⟩ (by decide) rfl ?_
  refine Ev.iconst ⟨dX6_joinRemoved_31, rfl⟩ (inRd rfl) ?_
  refine Ev.istore (i := 7) (ls' := [(0, _), (1, _), (2, _), (3, _), (4, _), (5, _), (7, _)]) ⟨dX6_joinRemoved_32, rfl⟩ (by decide) rfl ?_
  refine Ev.iconst ⟨dX6_joinRemoved_34, rfl⟩ (inRd rfl) ?_
  refine Ev.istore (i := 8) (ls' := [(0, _), (1, _), (2, _), (3, _), (4, _), (5, _), (7, _), (8, _)]) ⟨dX6_joinRemoved_35, rfl⟩ (by decide) rfl ?_
  obtain ⟨s22, hl, h⟩ := bnd_s h
  refine e_X6_joinRemoved_37 Θ D z _ _ _ _ _ _ _ _ _ _ _ _ _ _ hl ?_
  clear hl
  refine Ev.iload (q := 6) ⟨dX6_joinRemoved_167, rfl⟩ rfl ?_
  obtain rfl := Option.some.inj h
  exact Ev.ireturn (ty := .int) ⟨dX6_joinRemoved_169, rfl⟩ rfl rfl ⟨rfl, rfl⟩

def F_X6_merge (z : Nat) (v0 : Nat) (v1 : Int) (v2 : Nat) (v3 : Nat) (x : Mm) : Option (Int × Mm) := (F_X6_joinAdded z (v0) (v1) (v2) (v3) x).bind fun r2 => (F_X6_joinChanged z (v0) (v1) (v2) (v3) r2.2).bind fun r4 => ckR ((r2.1 + r4.1)) <| (F_X6_joinRemoved z (v0) (v1) (v2) (v3) r4.2).bind fun r7 => ckR (((r2.1 + r4.1) + r7.1)) <| some ((((r2.1 + r4.1) + r7.1), r7.2))
set_option maxHeartbeats 4000000 in
set_option maxRecDepth 20000 in
theorem c_X6_merge (Θ : GC) (D : Nat → Nat → Prop) (z : Nat) (v0 : Nat) (v1 : Int) (v2 : Nat) (v3 : Nat) (x : Mm) (y) (h : F_X6_merge z v0 v1 v2 v3 x = some y) : Cal Θ mX6_merge 4 107 0 0 [vr 6 (v0 + 1), vi (v1), vr 0 (v2 + 1), vr 1 (v3 + 1)] (hq D x) (Ret (vi y.1) (hq D y.2)) := by
  refine Cal.of (by decide +kernel) rfl rfl (Nat.le_of_ble_eq_true rfl) ?_
  show Ev Θ mX6_merge 4 107 0 0 0 [(0, vr 6 (v0 + 1)), (1, vi (v1)), (2, vr 0 (v2 + 1)), (3, vr 1 (v3 + 1))] [] (hq D x) (Ret (vi y.1) (hq D y.2))
  unfold F_X6_merge at h
  refine Ev.aload_n (q := 0) ⟨dX6_merge_0, rfl⟩ rfl rfl ?_
  refine Ev.iload_n (q := 1) ⟨dX6_merge_1, rfl⟩ rfl rfl ?_
  refine Ev.aload_n (q := 2) ⟨dX6_merge_2, rfl⟩ rfl rfl ?_
  refine Ev.aload_n (q := 3) ⟨dX6_merge_3, rfl⟩ rfl rfl ?_
  obtain ⟨r2, hv1, h⟩ := bnd_s h
  refine Ev.callV1 (mc1 := 0) (ms1 := 0) (v := vi r2.1) (h1 := hq D r2.2) vX6_136 (c_X6_joinAdded Θ D z _ _ _ _ _ _ hv1) rfl rfl (by decide) rfl ⟨by decide, by decide, Nat.le_of_eq (Nat.zero_add _), Nat.le_of_eq (Nat.zero_add _), Nat.le_of_ble_eq_true rfl⟩ ⟨dX6_merge_4, rfl⟩ ?_
  clear hv1
  refine Ev.aload_n (q := 0) ⟨dX6_merge_7, rfl⟩ rfl rfl ?_
  refine Ev.iload_n (q := 1) ⟨dX6_merge_8, rfl⟩ rfl rfl ?_
  refine Ev.aload_n (q := 2) ⟨dX6_merge_9, rfl⟩ rfl rfl ?_
  refine Ev.aload_n (q := 3) ⟨dX6_merge_10, rfl⟩ rfl rfl ?_
  obtain ⟨r4, hv3, h⟩ := bnd_s h
  refine Ev.callV1 (mc1 := 0) (ms1 := 0) (v := vi r4.1) (h1 := hq D r4.2) vX6_139 (c_X6_joinChanged Θ D z _ _ _ _ _ _ hv3) rfl rfl (by decide) rfl ⟨by decide, by decide, Nat.le_of_eq (Nat.zero_add _), Nat.le_of_eq (Nat.zero_add _), Nat.le_of_ble_eq_true rfl⟩ ⟨dX6_merge_11, rfl⟩ ?_
  clear hv3
  obtain ⟨c5, h⟩ := ckR_s h
  refine Ev.iadd ⟨dX6_merge_14, rfl⟩ c5 ?_
  refine Ev.aload_n (q := 0) ⟨dX6_merge_15, rfl⟩ rfl rfl ?_
  refine Ev.iload_n (q := 1) ⟨dX6_merge_16, rfl⟩ rfl rfl ?_
  refine Ev.aload_n (q := 2) ⟨dX6_merge_17, rfl⟩ rfl rfl ?_
  refine Ev.aload_n (q := 3) ⟨dX6_merge_18, rfl⟩ rfl rfl ?_
  obtain ⟨r7, hv6, h⟩ := bnd_s h
  refine Ev.callV1 (mc1 := 0) (ms1 := 0) (v := vi r7.1) (h1 := hq D r7.2) vX6_142 (c_X6_joinRemoved Θ D z _ _ _ _ _ _ hv6) rfl rfl (by decide) rfl ⟨by decide, by decide, Nat.le_of_eq (Nat.zero_add _), Nat.le_of_eq (Nat.zero_add _), Nat.le_of_ble_eq_true rfl⟩ ⟨dX6_merge_19, rfl⟩ ?_
  clear hv6
  obtain ⟨c8, h⟩ := ckR_s h
  refine Ev.iadd ⟨dX6_merge_22, rfl⟩ c8 ?_
  obtain rfl := Option.some.inj h
  exact Ev.ireturn (ty := .int) ⟨dX6_merge_23, rfl⟩ rfl rfl ⟨rfl, rfl⟩

def F_X6_passTick_14 (z : Nat) (v0 : Nat) : Nat → Int → Int → Mm → Option (Int × Mm)
  | 0, _, _, _ => none
  | k + 1, v1, v2, x => if (x.1 6 v0 2) ≤ v2 then (some ((v1, x))) else (ckI v2 5 <| if (x.1 3 (5 * v0 + (v2).toNat) 0) = 0 then (ckR ((v2 + 1)) <| F_X6_passTick_14 z v0 k (v1) ((v2 + 1)) x) else (ckI v2 5 <| if (x.1 3 (5 * v0 + (v2).toNat) 2) = (x.1 6 v0 0) then ((F_X6_merge z (v0) (v2) ((3 * v0)) (v0) x).bind fun r8 => ckI v2 5 <| (some (wI r8.2 3 (5 * v0 + (v2).toNat) 0 ((0 : Int)))).bind fun x10 => ckR ((v1 + 1)) <| ckR ((v2 + 1)) <| F_X6_passTick_14 z v0 k ((v1 + 1)) ((v2 + 1)) x10) else (ckR ((v2 + 1)) <| F_X6_passTick_14 z v0 k (v1) ((v2 + 1)) x)))
set_option maxHeartbeats 4000000 in
set_option maxRecDepth 20000 in
theorem e_X6_passTick_14 (Θ : GC) (D : Nat → Nat → Prop) (z : Nat) (v0 : Nat) (Q : Ro → Hp → Prop) (mc ms : Nat) : ∀ (k : Nat) (v1 : Int) (v2 : Int) (x : Mm) (y), F_X6_passTick_14 z v0 k v1 v2 x = some y → (Ev Θ mX6_passTick 5 130 mc ms 83 [(0, vr 6 (v0 + 1)), (1, vi (y.1))] [] (hq D y.2) Q) → Ev Θ mX6_passTick 5 130 mc ms 14 [(0, vr 6 (v0 + 1)), (1, vi (v1)), (2, vi (v2))] [] (hq D x) Q := by
  intro k
  induction k with
  | zero => intro v1 v2 x y h; exact absurd h (by unfold F_X6_passTick_14; exact nofun)
  | succ k ih =>
    intro v1 v2 x y h k1
    unfold F_X6_passTick_14 at h
    refine Ev.iload_n (q := 2) ⟨dX6_passTick_14, rfl⟩ rfl rfl ?_
    refine Ev.aload_n (q := 0) ⟨dX6_passTick_15, rfl⟩ rfl rfl ?_
    refine Ev.getI fX6_50 (Or.inl rfl) ⟨dX6_passTick_16, rfl⟩ ?_
    refine Ev.icmp_ge jX6_passTick_19 (fun hc => ?_) (fun hc => ?_)
    · replace h := (if_pos hc).symm.trans h; clear hc
      refine Ev.keep [0, 1] rfl ?_
      obtain rfl := Option.some.inj h
      exact k1
    · replace h := (if_neg hc).symm.trans h; clear hc
      refine Ev.aload_n (q := 0) ⟨dX6_passTick_22, rfl⟩ rfl rfl ?_
      refine Ev.getRk (C2 := 11) (r := v0) fX6_31 rfl (by decide) (by decide) ⟨dX6_passTick_23, rfl⟩ ?_
      refine Ev.iload_n (q := 2) ⟨dX6_passTick_26, rfl⟩ rfl rfl ?_
      obtain ⟨c3, h⟩ := ckI_s h
      refine Ev.aaloadk (C := 3) (r := (5 * v0 + (v2).toNat)) (by decide) c3.1 c3.2 (sr11 c3) ⟨dX6_passTick_27, rfl⟩ ?_
      refine Ev.getI fX6_57 (Or.inr rfl) ⟨dX6_passTick_28, rfl⟩ ?_
      refine Ev.if_eq jX6_passTick_31 (fun hc => ?_) (fun hc => ?_)
      · replace h := (if_pos hc).symm.trans h; clear hc
        obtain ⟨c4, h⟩ := ckR_s h
        refine Ev.iinc (q := 2) (ls' := [(0, _), (1, _), (2, _)]) ⟨dX6_passTick_77, rfl⟩ rfl (by decide) c4 rfl ?_
        refine Ev.goto jX6_passTick_80 ?_
        exact ih _ _ _ _ h k1
      · replace h := (if_neg hc).symm.trans h; clear hc
        refine Ev.aload_n (q := 0) ⟨dX6_passTick_34, rfl⟩ rfl rfl ?_
        refine Ev.getRk (C2 := 11) (r := v0) fX6_31 rfl (by decide) (by decide) ⟨dX6_passTick_35, rfl⟩ ?_
        refine Ev.iload_n (q := 2) ⟨dX6_passTick_38, rfl⟩ rfl rfl ?_
        obtain ⟨c5, h⟩ := ckI_s h
        refine Ev.aaloadk (C := 3) (r := (5 * v0 + (v2).toNat)) (by decide) c5.1 c5.2 (sr11 c5) ⟨dX6_passTick_39, rfl⟩ ?_
        refine Ev.getI fX6_104 (Or.inl rfl) ⟨dX6_passTick_40, rfl⟩ ?_
        refine Ev.aload_n (q := 0) ⟨dX6_passTick_43, rfl⟩ rfl rfl ?_
        refine Ev.getI fX6_43 (Or.inl rfl) ⟨dX6_passTick_44, rfl⟩ ?_
        refine Ev.icmp_ne jX6_passTick_47 (fun hc => ?_) (fun hc => ?_)
        · replace h := (if_neg hc).symm.trans h; clear hc
          obtain ⟨c6, h⟩ := ckR_s h
          refine Ev.iinc (q := 2) (ls' := [(0, _), (1, _), (2, _)]) ⟨dX6_passTick_77, rfl⟩ rfl (by decide) c6 rfl ?_
          refine Ev.goto jX6_passTick_80 ?_
          exact ih _ _ _ _ h k1
        · replace h := (if_pos hc).symm.trans h; clear hc
          refine Ev.aload_n (q := 0) ⟨dX6_passTick_50, rfl⟩ rfl rfl ?_
          refine Ev.iload_n (q := 2) ⟨dX6_passTick_51, rfl⟩ rfl rfl ?_
          refine Ev.aload_n (q := 0) ⟨dX6_passTick_52, rfl⟩ rfl rfl ?_
          refine Ev.getRk (C2 := 0) (r := (3 * v0)) fX6_25 rfl (by decide) (by decide) ⟨dX6_passTick_53, rfl⟩ ?_
          refine Ev.aload_n (q := 0) ⟨dX6_passTick_56, rfl⟩ rfl rfl ?_
          refine Ev.getRk (C2 := 1) (r := v0) fX6_38 rfl (by decide) (by decide) ⟨dX6_passTick_57, rfl⟩ ?_
          obtain ⟨r8, hv7, h⟩ := bnd_s h
          refine Ev.callV1 (mc1 := mc) (ms1 := ms) (v := vi r8.1) (h1 := hq D r8.2) vX6_132 (c_X6_merge Θ D z _ _ _ _ _ _ hv7) rfl rfl (by decide) rfl ⟨by decide, by decide, Nat.le_of_eq (Nat.zero_add _), Nat.le_of_eq (Nat.zero_add _), Nat.le_of_ble_eq_true rfl⟩ ⟨dX6_passTick_60, rfl⟩ ?_
          clear hv7
          refine Ev.pop ⟨dX6_passTick_63, rfl⟩ rfl ?_
          refine Ev.aload_n (q := 0) ⟨dX6_passTick_64, rfl⟩ rfl rfl ?_
          refine Ev.getRk (C2 := 11) (r := v0) fX6_31 rfl (by decide) (by decide) ⟨dX6_passTick_65, rfl⟩ ?_
          refine Ev.iload_n (q := 2) ⟨dX6_passTick_68, rfl⟩ rfl rfl ?_
          obtain ⟨c9, h⟩ := ckI_s h
          refine Ev.aaloadk (C := 3) (r := (5 * v0 + (v2).toNat)) (by decide) c9.1 c9.2 (sr11 c9) ⟨dX6_passTick_69, rfl⟩ ?_
          refine Ev.iconst ⟨dX6_passTick_70, rfl⟩ (inRd rfl) ?_
          obtain ⟨x10, ex, h⟩ := bnd_s h
          refine Ev.putZ fX6_57 (by decide) ⟨dX6_passTick_71, rfl⟩ ?_
          refine Ev.cast ?_ rfl rfl (hqI ex)
          clear ex
          obtain ⟨c11, h⟩ := ckR_s h
          refine Ev.iinc (q := 1) (ls' := [(0, _), (1, _), (2, _)]) ⟨dX6_passTick_74, rfl⟩ rfl (by decide) c11 rfl ?_
          obtain ⟨c12, h⟩ := ckR_s h
          refine Ev.iinc (q := 2) (ls' := [(0, _), (1, _), (2, _)]) ⟨dX6_passTick_77, rfl⟩ rfl (by decide) c12 rfl ?_
          refine Ev.goto jX6_passTick_80 ?_
          exact ih _ _ _ _ h k1
def F_X6_passTick (z : Nat) (v0 : Nat) (x : Mm) : Option (Int × Mm) := ckR (((x.1 6 v0 0) + (1 : Int))) <| (some (wI x 6 v0 0 (((x.1 6 v0 0) + (1 : Int))))).bind fun x2 => (F_X6_passTick_14 z (v0) z ((0 : Int)) ((0 : Int)) x2).bind fun s13 => some ((s13.1, s13.2))
set_option maxHeartbeats 4000000 in
set_option maxRecDepth 20000 in
theorem c_X6_passTick (Θ : GC) (D : Nat → Nat → Prop) (z : Nat) (v0 : Nat) (x : Mm) (y) (h : F_X6_passTick z v0 x = some y) : Cal Θ mX6_passTick 5 130 0 0 [vr 6 (v0 + 1)] (hq D x) (Ret (vi y.1) (hq D y.2)) := by
  refine Cal.of (by decide +kernel) rfl rfl (Nat.le_of_ble_eq_true rfl) ?_
  show Ev Θ mX6_passTick 5 130 0 0 0 [(0, vr 6 (v0 + 1))] [] (hq D x) (Ret (vi y.1) (hq D y.2))
  unfold F_X6_passTick at h
  refine Ev.aload_n (q := 0) ⟨dX6_passTick_0, rfl⟩ rfl rfl ?_
  refine Ev.dup ⟨dX6_passTick_1, rfl⟩ rfl ?_
  refine Ev.getI fX6_43 (Or.inl rfl) ⟨dX6_passTick_2, rfl⟩ ?_
  refine Ev.iconst ⟨dX6_passTick_5, rfl⟩ (inRd rfl) ?_
  obtain ⟨c1, h⟩ := ckR_s h
  refine Ev.iadd ⟨dX6_passTick_6, rfl⟩ c1 ?_
  obtain ⟨x2, ex, h⟩ := bnd_s h
  refine Ev.putI fX6_43 ⟨dX6_passTick_7, rfl⟩ ?_
  refine Ev.cast ?_ rfl rfl (hqI ex)
  clear ex
  refine Ev.iconst ⟨dX6_passTick_10, rfl⟩ (inRd rfl) ?_
  refine Ev.istore_n (i := 1) (ls' := [(0, _), (1, _)]) ⟨dX6_passTick_11, rfl⟩ rfl (by decide) rfl ?_
  refine Ev.iconst ⟨dX6_passTick_12, rfl⟩ (inRd rfl) ?_
  refine Ev.istore_n (i := 2) (ls' := [(0, _), (1, _), (2, _)]) ⟨dX6_passTick_13, rfl⟩ rfl (by decide) rfl ?_
  obtain ⟨s13, hl, h⟩ := bnd_s h
  refine e_X6_passTick_14 Θ D z _ _ _ _ _ _ _ _ _ hl ?_
  clear hl
  refine Ev.iload_n (q := 1) ⟨dX6_passTick_83, rfl⟩ rfl rfl ?_
  obtain rfl := Option.some.inj h
  exact Ev.ireturn (ty := .int) ⟨dX6_passTick_84, rfl⟩ rfl rfl ⟨rfl, rfl⟩

def F_X6_canAccept_19 (z : Nat) (v0 : Nat) (v1 : Int) (x : Mm) : Option (Int) := (F_X1_part z (v0) (v1) ((1 : Int)) x).bind fun r4 => (F_X0_has z ((3 * v0)) (r4) x).bind fun r6 => if r6 = 0 then (some ((0 : Int))) else (some ((1 : Int)))
set_option maxHeartbeats 4000000 in
set_option maxRecDepth 20000 in
theorem e_X6_canAccept_19 (Θ : GC) (D : Nat → Nat → Prop) (z : Nat) (v0 : Nat) (v1 : Int) (x : Mm) (y) (h : F_X6_canAccept_19 z v0 v1 x = some y) : Ev Θ mX6_canAccept 2 43 0 0 19 [(0, vr 6 (v0 + 1)), (1, vi (v1))] [] (hq D x) (Ret (vi y) (hq D x)) := by
  unfold F_X6_canAccept_19 at h
  refine Ev.aload_n (q := 0) ⟨dX6_canAccept_19, rfl⟩ rfl rfl ?_
  refine Ev.getRk (C2 := 0) (r := (3 * v0)) fX6_25 rfl (by decide) (by decide) ⟨dX6_canAccept_20, rfl⟩ ?_
  refine Ev.aload_n (q := 0) ⟨dX6_canAccept_23, rfl⟩ rfl rfl ?_
  refine Ev.getRk (C2 := 1) (r := v0) fX6_38 rfl (by decide) (by decide) ⟨dX6_canAccept_24, rfl⟩ ?_
  refine Ev.iload_n (q := 1) ⟨dX6_canAccept_27, rfl⟩ rfl rfl ?_
  refine Ev.iconst ⟨dX6_canAccept_28, rfl⟩ (inRd rfl) ?_
  obtain ⟨r4, hv3, h⟩ := bnd_s h
  refine Ev.callV1 (mc1 := 0) (ms1 := 0) (v := vi r4) (h1 := hq D x) vX6_197 (c_X1_part Θ D z _ _ _ _ _ hv3) rfl rfl (by decide) rfl ⟨by decide, by decide, Nat.le_of_eq (Nat.zero_add _), Nat.le_of_eq (Nat.zero_add _), Nat.le_of_ble_eq_true rfl⟩ ⟨dX6_canAccept_29, rfl⟩ ?_
  clear hv3
  obtain ⟨r6, hv5, h⟩ := bnd_s h
  refine Ev.callV1 (mc1 := 0) (ms1 := 0) (v := vi r6) (h1 := hq D x) vX6_152 (c_X0_has Θ D z _ _ _ _ hv5) rfl rfl (by decide) rfl ⟨by decide, by decide, Nat.le_of_eq (Nat.zero_add _), Nat.le_of_eq (Nat.zero_add _), Nat.le_of_ble_eq_true rfl⟩ ⟨dX6_canAccept_32, rfl⟩ ?_
  clear hv5
  refine Ev.if_eq jX6_canAccept_35 (fun hc => ?_) (fun hc => ?_)
  · replace h := (if_pos hc).symm.trans h; clear hc
    refine Ev.iconst ⟨dX6_canAccept_42, rfl⟩ (inRd rfl) ?_
    obtain rfl := Option.some.inj h
    exact Ev.ireturn (ty := .boolean) ⟨dX6_canAccept_43, rfl⟩ rfl rfl ⟨rfl, rfl⟩
  · replace h := (if_neg hc).symm.trans h; clear hc
    refine Ev.iconst ⟨dX6_canAccept_38, rfl⟩ (inRd rfl) ?_
    refine Ev.goto jX6_canAccept_39 ?_
    obtain rfl := Option.some.inj h
    exact Ev.ireturn (ty := .boolean) ⟨dX6_canAccept_43, rfl⟩ rfl rfl ⟨rfl, rfl⟩
def F_X6_canAccept (z : Nat) (v0 : Nat) (v1 : Int) (x : Mm) : Option (Int) := (F_X1_part z (v0) (v1) ((0 : Int)) x).bind fun r2 => if r2 = 0 then (F_X6_canAccept_19 z (v0) (v1) x) else (if r2 = (4 : Int) then (F_X6_canAccept_19 z (v0) (v1) x) else (some ((0 : Int))))
set_option maxHeartbeats 4000000 in
set_option maxRecDepth 20000 in
theorem c_X6_canAccept (Θ : GC) (D : Nat → Nat → Prop) (z : Nat) (v0 : Nat) (v1 : Int) (x : Mm) (y) (h : F_X6_canAccept z v0 v1 x = some y) : Cal Θ mX6_canAccept 2 43 0 0 [vr 6 (v0 + 1), vi (v1)] (hq D x) (Ret (vi y) (hq D x)) := by
  refine Cal.of (by decide +kernel) rfl rfl (Nat.le_of_ble_eq_true rfl) ?_
  show Ev Θ mX6_canAccept 2 43 0 0 0 [(0, vr 6 (v0 + 1)), (1, vi (v1))] [] (hq D x) (Ret (vi y) (hq D x))
  unfold F_X6_canAccept at h
  refine Ev.aload_n (q := 0) ⟨dX6_canAccept_0, rfl⟩ rfl rfl ?_
  refine Ev.getRk (C2 := 1) (r := v0) fX6_38 rfl (by decide) (by decide) ⟨dX6_canAccept_1, rfl⟩ ?_
  refine Ev.iload_n (q := 1) ⟨dX6_canAccept_4, rfl⟩ rfl rfl ?_
  refine Ev.iconst ⟨dX6_canAccept_5, rfl⟩ (inRd rfl) ?_
  obtain ⟨r2, hv1, h⟩ := bnd_s h
  refine Ev.callV1 (mc1 := 0) (ms1 := 0) (v := vi r2) (h1 := hq D x) vX6_197 (c_X1_part Θ D z _ _ _ _ _ hv1) rfl rfl (by decide) rfl ⟨by decide, by decide, Nat.le_of_eq (Nat.zero_add _), Nat.le_of_eq (Nat.zero_add _), Nat.le_of_ble_eq_true rfl⟩ ⟨dX6_canAccept_6, rfl⟩ ?_
  clear hv1
  refine Ev.istore_n (i := 2) (ls' := [(0, _), (1, _), (2, _)]) ⟨dX6_canAccept_9, rfl⟩ rfl (by decide) rfl ?_
  refine Ev.iload_n (q := 2) ⟨dX6_canAccept_10, rfl⟩ rfl rfl ?_
  refine Ev.if_eq jX6_canAccept_11 (fun hc => ?_) (fun hc => ?_)
  · replace h := (if_pos hc).symm.trans h; clear hc
    refine Ev.keep [0, 1] rfl ?_
    exact e_X6_canAccept_19 Θ D z _ _ _ _ h
  · replace h := (if_neg hc).symm.trans h; clear hc
    refine Ev.iload_n (q := 2) ⟨dX6_canAccept_14, rfl⟩ rfl rfl ?_
    refine Ev.iconst ⟨dX6_canAccept_15, rfl⟩ (inRd rfl) ?_
    refine Ev.icmp_ne jX6_canAccept_16 (fun hc => ?_) (fun hc => ?_)
    · replace h := (if_neg hc).symm.trans h; clear hc
      refine Ev.iconst ⟨dX6_canAccept_42, rfl⟩ (inRd rfl) ?_
      obtain rfl := Option.some.inj h
      exact Ev.ireturn (ty := .boolean) ⟨dX6_canAccept_43, rfl⟩ rfl rfl ⟨rfl, rfl⟩
    · replace h := (if_pos hc).symm.trans h; clear hc
      refine Ev.keep [0, 1] rfl ?_
      exact e_X6_canAccept_19 Θ D z _ _ _ _ h

def F_X6_accept (z : Nat) (v0 : Nat) (v1 : Int) (x : Mm) : Option (Mm) := (F_X1_part z (v0) (v1) ((1 : Int)) x).bind fun r2 => (F_X1_part z (v0) (v1) ((0 : Int)) x).bind fun r4 => if r4 = 0 then ((F_X1_part z (v0) (v1) ((2 : Int)) x).bind fun r9 => (F_X1_part z (v0) (v1) ((3 : Int)) x).bind fun r11 => (F_X0_put z ((3 * v0)) (r2) (r9) (r11) x).bind fun r13 => some (r13)) else ((F_X4_atOrBelow z (v0) (r2) x).bind fun r6 => (some (wL x 0 (3 * v0) 0 (((x.2 0 (3 * v0) 0) &&& (r6 ^^^ (BitVec.ofInt 64 (-1))))))).bind fun x7 => some (x7))
set_option maxHeartbeats 4000000 in
set_option maxRecDepth 20000 in
theorem c_X6_accept (Θ : GC) (D : Nat → Nat → Prop) (z : Nat) (v0 : Nat) (v1 : Int) (x : Mm) (y) (h : F_X6_accept z v0 v1 x = some y) : Cal Θ mX6_accept 2 46 0 0 [vr 6 (v0 + 1), vi (v1)] (hq D x) (RetN (hq D y)) := by
  refine Cal.of (by decide +kernel) rfl rfl (Nat.le_of_ble_eq_true rfl) ?_
  show Ev Θ mX6_accept 2 46 0 0 0 [(0, vr 6 (v0 + 1)), (1, vi (v1))] [] (hq D x) (RetN (hq D y))
  unfold F_X6_accept at h
  refine Ev.aload_n (q := 0) ⟨dX6_accept_0, rfl⟩ rfl rfl ?_
  refine Ev.getRk (C2 := 1) (r := v0) fX6_38 rfl (by decide) (by decide) ⟨dX6_accept_1, rfl⟩ ?_
  refine Ev.iload_n (q := 1) ⟨dX6_accept_4, rfl⟩ rfl rfl ?_
  refine Ev.iconst ⟨dX6_accept_5, rfl⟩ (inRd rfl) ?_
  obtain ⟨r2, hv1, h⟩ := bnd_s h
  refine Ev.callV1 (mc1 := 0) (ms1 := 0) (v := vi r2) (h1 := hq D x) vX6_197 (c_X1_part Θ D z _ _ _ _ _ hv1) rfl rfl (by decide) rfl ⟨by decide, by decide, Nat.le_of_eq (Nat.zero_add _), Nat.le_of_eq (Nat.zero_add _), Nat.le_of_ble_eq_true rfl⟩ ⟨dX6_accept_6, rfl⟩ ?_
  clear hv1
  refine Ev.istore_n (i := 2) (ls' := [(0, _), (1, _), (2, _)]) ⟨dX6_accept_9, rfl⟩ rfl (by decide) rfl ?_
  refine Ev.aload_n (q := 0) ⟨dX6_accept_10, rfl⟩ rfl rfl ?_
  refine Ev.getRk (C2 := 1) (r := v0) fX6_38 rfl (by decide) (by decide) ⟨dX6_accept_11, rfl⟩ ?_
  refine Ev.iload_n (q := 1) ⟨dX6_accept_14, rfl⟩ rfl rfl ?_
  refine Ev.iconst ⟨dX6_accept_15, rfl⟩ (inRd rfl) ?_
  obtain ⟨r4, hv3, h⟩ := bnd_s h
  refine Ev.callV1 (mc1 := 0) (ms1 := 0) (v := vi r4) (h1 := hq D x) vX6_197 (c_X1_part Θ D z _ _ _ _ _ hv3) rfl rfl (by decide) rfl ⟨by decide, by decide, Nat.le_of_eq (Nat.zero_add _), Nat.le_of_eq (Nat.zero_add _), Nat.le_of_ble_eq_true rfl⟩ ⟨dX6_accept_16, rfl⟩ ?_
  clear hv3
  refine Ev.if_ne jX6_accept_19 (fun hc => ?_) (fun hc => ?_)
  · replace h := (if_neg hc).symm.trans h; clear hc
    refine Ev.aload_n (q := 0) ⟨dX6_accept_51, rfl⟩ rfl rfl ?_
    refine Ev.getRk (C2 := 0) (r := (3 * v0)) fX6_25 rfl (by decide) (by decide) ⟨dX6_accept_52, rfl⟩ ?_
    refine Ev.dup ⟨dX6_accept_55, rfl⟩ rfl ?_
    refine Ev.getL fX6_91 ⟨dX6_accept_56, rfl⟩ ?_
    refine Ev.aload_n (q := 0) ⟨dX6_accept_59, rfl⟩ rfl rfl ?_
    refine Ev.getRk (C2 := 4) (r := v0) fX6_18 rfl (by decide) (by decide) ⟨dX6_accept_60, rfl⟩ ?_
    refine Ev.iload_n (q := 2) ⟨dX6_accept_63, rfl⟩ rfl rfl ?_
    obtain ⟨r6, hv5, h⟩ := bnd_s h
    refine Ev.callV1 (mc1 := 0) (ms1 := 0) (v := vl r6) (h1 := hq D x) vX6_83 (c_X4_atOrBelow Θ D z _ _ _ _ hv5) rfl rfl (by decide) rfl ⟨by decide, by decide, Nat.le_of_eq (Nat.zero_add _), Nat.le_of_eq (Nat.zero_add _), Nat.le_of_ble_eq_true rfl⟩ ⟨dX6_accept_64, rfl⟩ ?_
    clear hv5
    refine Ev.ldc2 (b := BitVec.ofInt 64 (-1)) ⟨dX6_accept_67, rfl⟩ wX6_187 ?_
    refine Ev.lxor ⟨dX6_accept_70, rfl⟩ ?_
    refine Ev.land ⟨dX6_accept_71, rfl⟩ ?_
    obtain ⟨x7, ex, h⟩ := bnd_s h
    refine Ev.putL fX6_91 ⟨dX6_accept_72, rfl⟩ ?_
    refine Ev.cast ?_ rfl rfl (hqL ex)
    clear ex
    obtain rfl := Option.some.inj h
    exact Ev.ret ⟨dX6_accept_75, rfl⟩ rfl ⟨rfl, rfl⟩
  · replace h := (if_pos hc).symm.trans h; clear hc
    refine Ev.aload_n (q := 0) ⟨dX6_accept_22, rfl⟩ rfl rfl ?_
    refine Ev.getRk (C2 := 0) (r := (3 * v0)) fX6_25 rfl (by decide) (by decide) ⟨dX6_accept_23, rfl⟩ ?_
    refine Ev.iload_n (q := 2) ⟨dX6_accept_26, rfl⟩ rfl rfl ?_
    refine Ev.aload_n (q := 0) ⟨dX6_accept_27, rfl⟩ rfl rfl ?_
    refine Ev.getRk (C2 := 1) (r := v0) fX6_38 rfl (by decide) (by decide) ⟨dX6_accept_28, rfl⟩ ?_
    refine Ev.iload_n (q := 1) ⟨dX6_accept_31, rfl⟩ rfl rfl ?_
    refine Ev.iconst ⟨dX6_accept_32, rfl⟩ (inRd rfl) ?_
    obtain ⟨r9, hv8, h⟩ := bnd_s h
    refine Ev.callV1 (mc1 := 0) (ms1 := 0) (v := vi r9) (h1 := hq D x) vX6_197 (c_X1_part Θ D z _ _ _ _ _ hv8) rfl rfl (by decide) rfl ⟨by decide, by decide, Nat.le_of_eq (Nat.zero_add _), Nat.le_of_eq (Nat.zero_add _), Nat.le_of_ble_eq_true rfl⟩ ⟨dX6_accept_33, rfl⟩ ?_
    clear hv8
    refine Ev.aload_n (q := 0) ⟨dX6_accept_36, rfl⟩ rfl rfl ?_
    refine Ev.getRk (C2 := 1) (r := v0) fX6_38 rfl (by decide) (by decide) ⟨dX6_accept_37, rfl⟩ ?_
    refine Ev.iload_n (q := 1) ⟨dX6_accept_40, rfl⟩ rfl rfl ?_
    refine Ev.iconst ⟨dX6_accept_41, rfl⟩ (inRd rfl) ?_
    obtain ⟨r11, hv10, h⟩ := bnd_s h
    refine Ev.callV1 (mc1 := 0) (ms1 := 0) (v := vi r11) (h1 := hq D x) vX6_197 (c_X1_part Θ D z _ _ _ _ _ hv10) rfl rfl (by decide) rfl ⟨by decide, by decide, Nat.le_of_eq (Nat.zero_add _), Nat.le_of_eq (Nat.zero_add _), Nat.le_of_ble_eq_true rfl⟩ ⟨dX6_accept_42, rfl⟩ ?_
    clear hv10
    obtain ⟨r13, hv12, h⟩ := bnd_s h
    refine Ev.callVN (mc1 := 0) (ms1 := 0) (h1 := hq D r13) vX6_183 (c_X0_put Θ D z _ _ _ _ _ _ hv12) rfl rfl (by decide) rfl ⟨by decide, by decide, Nat.le_of_eq (Nat.zero_add _), Nat.le_of_eq (Nat.zero_add _), Nat.le_of_ble_eq_true rfl⟩ ⟨dX6_accept_45, rfl⟩ ?_
    clear hv12
    refine Ev.goto jX6_accept_48 ?_
    obtain rfl := Option.some.inj h
    exact Ev.ret ⟨dX6_accept_75, rfl⟩ rfl ⟨rfl, rfl⟩

def F_X7_countBytes_5 (z : Nat) (v0 : Int) (x : Mm) : Nat → Int → Int → Option (Int)
  | 0, _, _ => none
  | k + 1, v1, v2 => if v2 < 0 then (some (v1)) else (ckI v2 32 <| if (biand (w32 (v0 % 4294967296 / 2 ^ (v2).toNat)) (255 : Int)) = 0 then (ckR ((v2 + (-8))) <| F_X7_countBytes_5 z v0 x k (v1) ((v2 + (-8)))) else (ckR ((v1 + 1)) <| ckR ((v2 + (-8))) <| F_X7_countBytes_5 z v0 x k ((v1 + 1)) ((v2 + (-8)))))
set_option maxHeartbeats 4000000 in
set_option maxRecDepth 20000 in
theorem e_X7_countBytes_5 (Θ : GC) (D : Nat → Nat → Prop) (z : Nat) (v0 : Int) (x : Mm) (Q : Ro → Hp → Prop) (mc ms : Nat) : ∀ (k : Nat) (v1 : Int) (v2 : Int) (y), F_X7_countBytes_5 z v0 x k v1 v2 = some y → (Ev Θ mX7_countBytes 0 0 mc ms 28 [(0, vi (v0)), (1, vi (y))] [] (hq D x) Q) → Ev Θ mX7_countBytes 0 0 mc ms 5 [(0, vi (v0)), (1, vi (v1)), (2, vi (v2))] [] (hq D x) Q := by
  intro k
  induction k with
  | zero => intro v1 v2 y h; exact absurd h (by unfold F_X7_countBytes_5; exact nofun)
  | succ k ih =>
    intro v1 v2 y h k1
    unfold F_X7_countBytes_5 at h
    refine Ev.iload_n (q := 2) ⟨dX7_countBytes_5, rfl⟩ rfl rfl ?_
    refine Ev.if_lt jX7_countBytes_6 (fun hc => ?_) (fun hc => ?_)
    · replace h := (if_pos hc).symm.trans h; clear hc
      refine Ev.keep [0, 1] rfl ?_
      obtain rfl := Option.some.inj h
      exact k1
    · replace h := (if_neg hc).symm.trans h; clear hc
      refine Ev.iload_n (q := 0) ⟨dX7_countBytes_9, rfl⟩ rfl rfl ?_
      refine Ev.iload_n (q := 2) ⟨dX7_countBytes_10, rfl⟩ rfl rfl ?_
      obtain ⟨c1, h⟩ := ckI_s h
      refine Ev.iushr ⟨dX7_countBytes_11, rfl⟩ c1.1 c1.2 ?_
      refine Ev.sipush ⟨dX7_countBytes_12, rfl⟩ (inRd rfl) (by decide) ?_
      refine Ev.iand ⟨dX7_countBytes_15, rfl⟩ ?_
      refine Ev.if_eq jX7_countBytes_16 (fun hc => ?_) (fun hc => ?_)
      · replace h := (if_pos hc).symm.trans h; clear hc
        obtain ⟨c2, h⟩ := ckR_s h
        refine Ev.iinc (q := 2) (ls' := [(0, _), (1, _), (2, _)]) ⟨dX7_countBytes_22, rfl⟩ rfl (by decide) c2 rfl ?_
        refine Ev.goto jX7_countBytes_25 ?_
        exact ih _ _ _ h k1
      · replace h := (if_neg hc).symm.trans h; clear hc
        obtain ⟨c3, h⟩ := ckR_s h
        refine Ev.iinc (q := 1) (ls' := [(0, _), (1, _), (2, _)]) ⟨dX7_countBytes_19, rfl⟩ rfl (by decide) c3 rfl ?_
        obtain ⟨c4, h⟩ := ckR_s h
        refine Ev.iinc (q := 2) (ls' := [(0, _), (1, _), (2, _)]) ⟨dX7_countBytes_22, rfl⟩ rfl (by decide) c4 rfl ?_
        refine Ev.goto jX7_countBytes_25 ?_
        exact ih _ _ _ h k1
def F_X7_countBytes (z : Nat) (v0 : Int) (x : Mm) : Option (Int) := (F_X7_countBytes_5 z (v0) x z ((0 : Int)) ((24 : Int))).bind fun s5 => some (s5)
set_option maxHeartbeats 4000000 in
set_option maxRecDepth 20000 in
theorem c_X7_countBytes (Θ : GC) (D : Nat → Nat → Prop) (z : Nat) (v0 : Int) (x : Mm) (y) (h : F_X7_countBytes z v0 x = some y) : Cal Θ mX7_countBytes 0 0 0 0 [vi (v0)] (hq D x) (Ret (vi y) (hq D x)) := by
  refine Cal.of (by decide +kernel) rfl rfl (Nat.le_of_ble_eq_true rfl) ?_
  show Ev Θ mX7_countBytes 0 0 0 0 0 [(0, vi (v0))] [] (hq D x) (Ret (vi y) (hq D x))
  unfold F_X7_countBytes at h
  refine Ev.iconst ⟨dX7_countBytes_0, rfl⟩ (inRd rfl) ?_
  refine Ev.istore_n (i := 1) (ls' := [(0, _), (1, _)]) ⟨dX7_countBytes_1, rfl⟩ rfl (by decide) rfl ?_
  refine Ev.bipush ⟨dX7_countBytes_2, rfl⟩ (inRd rfl) (by decide) ?_
  refine Ev.istore_n (i := 2) (ls' := [(0, _), (1, _), (2, _)]) ⟨dX7_countBytes_4, rfl⟩ rfl (by decide) rfl ?_
  obtain ⟨s5, hl, h⟩ := bnd_s h
  refine e_X7_countBytes_5 Θ D z _ _ _ _ _ _ _ _ _ hl ?_
  clear hl
  refine Ev.iload_n (q := 1) ⟨dX7_countBytes_28, rfl⟩ rfl rfl ?_
  obtain rfl := Option.some.inj h
  exact Ev.ireturn (ty := .int) ⟨dX7_countBytes_29, rfl⟩ rfl rfl ⟨rfl, rfl⟩
