set_option maxHeartbeats 4000000 in
set_option maxRecDepth 20000 in
theorem c0_X7_bit (Θ : GC) (D : Nat → Nat → Prop) (x : Mm) (n : Int) (h0 : 0 ≤ n) (h1 : n < 64) : Cal Θ mX7_bit 0 0 0 0 [vi n] (hq D x) (Ret (vl (bt n)) (hq D x)) := by
  refine Cal.of (by decide +kernel) rfl rfl (Nat.le_of_ble_eq_true rfl) ?_
  show Ev Θ mX7_bit 0 0 0 0 0 [(0, vi n)] [] (hq D x) (Ret (vl (bt n)) (hq D x))
  refine Ev.lconst (b := BitVec.ofInt 64 1) ⟨dX7_bit_0, rfl⟩ (by decide) ?_
  refine Ev.iload_n (q := 0) ⟨dX7_bit_1, rfl⟩ rfl rfl ?_
  refine Ev.lshl ⟨dX7_bit_2, rfl⟩ (by omega) (by omega) ?_
  refine Ev.lreturn ⟨dX7_bit_3, rfl⟩ rfl ?_
  exact ⟨rfl, rfl⟩

set_option maxHeartbeats 4000000 in
set_option maxRecDepth 20000 in
theorem c0_X7_contains (Θ : GC) (D : Nat → Nat → Prop) (x : Mm) (s : BitVec 64) (n : Int) (h0 : 0 ≤ n) (h1 : n < 64) : Cal Θ mX7_contains 0 0 0 0 [vl s, vi n] (hq D x) (Ret (vi (b2i (has s n))) (hq D x)) := by
  refine Cal.of (by decide +kernel) rfl rfl (Nat.le_of_ble_eq_true rfl) ?_
  show Ev Θ mX7_contains 0 0 0 0 0 [(0, vl s), (2, vi n)] [] (hq D x) (Ret (vi (b2i (has s n))) (hq D x))
  have e := @has_lcm s n.toNat
  refine Ev.lload_n (q := 0) ⟨dX7_contains_0, rfl⟩ rfl rfl ?_
  refine Ev.iload_n (q := 1) ⟨dX7_contains_1, rfl⟩ rfl rfl ?_
  refine Ev.lushr ⟨dX7_contains_2, rfl⟩ (by omega) (by omega) ?_
  refine Ev.lconst (b := BitVec.ofInt 64 1) ⟨dX7_contains_3, rfl⟩ (by decide) ?_
  refine Ev.land ⟨dX7_contains_4, rfl⟩ ?_
  refine Ev.lconst (b := BitVec.ofInt 64 0) ⟨dX7_contains_5, rfl⟩ (by decide) ?_
  refine Ev.lcmp ⟨dX7_contains_6, rfl⟩ ?_
  refine Ev.if_eq jX7_contains_7 (fun hc7 => ?_) (fun hc7 => ?_)
  ·
    refine Ev.iconst ⟨dX7_contains_14, rfl⟩ (inRd rfl) ?_
    refine Ev.ireturn (ty := .boolean) ⟨dX7_contains_15, rfl⟩ rfl (by first | rfl | exact nb _) ?_
    refine ⟨?_, rfl⟩
    rw [e] at hc7
    first
      | (rw [show has s n = false from b2i_0.mp hc7]; rfl)
      | (rw [show has s n = true from b2i_1.mp hc7]; rfl)
  ·
    refine Ev.iconst ⟨dX7_contains_10, rfl⟩ (inRd rfl) ?_
    refine Ev.goto jX7_contains_11 ?_
    refine Ev.ireturn (ty := .boolean) ⟨dX7_contains_15, rfl⟩ rfl (by first | rfl | exact nb _) ?_
    refine ⟨?_, rfl⟩
    rw [e] at hc7
    first
      | (rw [show has s n = false from b2i_0.mp hc7]; rfl)
      | (rw [show has s n = true from b2i_1.mp hc7]; rfl)

def F_X7_bit (_z : Nat) (n : Int) (_x : Mm) : Option (BitVec 64) := ckI n 64 (some (bt n))
theorem c_X7_bit (Θ : GC) (D : Nat → Nat → Prop) (z : Nat) (n : Int) (x : Mm) (y) (h : F_X7_bit z n x = some y) : Cal Θ mX7_bit 0 0 0 0 [vi n] (hq D x) (Ret (vl y) (hq D x)) := by
  obtain ⟨c, h⟩ := ckI_s h
  obtain rfl := Option.some.inj h
  exact c0_X7_bit Θ D x n c.1 c.2
def F_X7_contains (_z : Nat) (s : BitVec 64) (n : Int) (_x : Mm) : Option Int := ckI n 64 (some (b2i (has s n)))
theorem c_X7_contains (Θ : GC) (D : Nat → Nat → Prop) (z : Nat) (s : BitVec 64) (n : Int) (x : Mm) (y) (h : F_X7_contains z s n x = some y) : Cal Θ mX7_contains 0 0 0 0 [vl s, vi n] (hq D x) (Ret (vi y) (hq D x)) := by
  obtain ⟨c, h⟩ := ckI_s h
  obtain rfl := Option.some.inj h
  exact c0_X7_contains Θ D x s n c.1 c.2

def F_X0_has (z : Nat) (v0 : Nat) (v1 : Int) (x : Mm) : Option (Int) := (F_X7_contains z ((x.2 0 v0 0)) (v1) x).bind fun r2 => ckZ (r2) <| some (r2)
set_option maxHeartbeats 4000000 in
set_option maxRecDepth 20000 in
theorem c_X0_has (Θ : GC) (D : Nat → Nat → Prop) (z : Nat) (v0 : Nat) (v1 : Int) (x : Mm) (y) (h : F_X0_has z v0 v1 x = some y) : Cal Θ mX0_has 1 22 0 0 [vr 0 (v0 + 1), vi (v1)] (hq D x) (Ret (vi y) (hq D x)) := by
  refine Cal.of (by decide +kernel) rfl rfl (Nat.le_of_ble_eq_true rfl) ?_
  show Ev Θ mX0_has 1 22 0 0 0 [(0, vr 0 (v0 + 1)), (1, vi (v1))] [] (hq D x) (Ret (vi y) (hq D x))
  unfold F_X0_has at h
  refine Ev.aload_n (q := 0) ⟨dX0_has_0, rfl⟩ rfl rfl ?_
  refine Ev.getL fX0_19 ⟨dX0_has_1, rfl⟩ ?_
  refine Ev.iload_n (q := 1) ⟨dX0_has_4, rfl⟩ rfl rfl ?_
  obtain ⟨r2, hv1, h⟩ := bnd_s h
  refine Ev.callN1 (mc1 := 0) (ms1 := 0) (v := vi r2) (h1 := hq D x) nX0_35 (c_X7_contains Θ D z _ _ _ _ hv1) rfl rfl ⟨by decide, by decide, Nat.le_of_eq (Nat.zero_add _), Nat.le_of_eq (Nat.zero_add _), Nat.le_of_ble_eq_true rfl⟩ ⟨dX0_has_5, rfl⟩ ?_
  clear hv1
  obtain ⟨c3, h⟩ := ckZ_s h
  obtain rfl := Option.some.inj h
  exact Ev.ireturn (ty := .boolean) ⟨dX0_has_8, rfl⟩ rfl (nz c3) ⟨rfl, rfl⟩

def F_X0_valueOf (z : Nat) (v0 : Nat) (v1 : Int) (v2 : Int) (x : Mm) : Option (Int) := ckR ((v1 * (6 : Int))) <| ckR (((v1 * (6 : Int)) + v2)) <| ckI ((v1 * (6 : Int)) + v2) 360 <| some ((x.1 23 v0 (((v1 * (6 : Int)) + v2)).toNat))
set_option maxHeartbeats 4000000 in
set_option maxRecDepth 20000 in
theorem c_X0_valueOf (Θ : GC) (D : Nat → Nat → Prop) (z : Nat) (v0 : Nat) (v1 : Int) (v2 : Int) (x : Mm) (y) (h : F_X0_valueOf z v0 v1 v2 x = some y) : Cal Θ mX0_valueOf 0 0 0 0 [vr 0 (v0 + 1), vi (v1), vi (v2)] (hq D x) (Ret (vi y) (hq D x)) := by
  refine Cal.of (by decide +kernel) rfl rfl (Nat.le_of_ble_eq_true rfl) ?_
  show Ev Θ mX0_valueOf 0 0 0 0 0 [(0, vr 0 (v0 + 1)), (1, vi (v1)), (2, vi (v2))] [] (hq D x) (Ret (vi y) (hq D x))
  unfold F_X0_valueOf at h
  refine Ev.aload_n (q := 0) ⟨dX0_valueOf_0, rfl⟩ rfl rfl ?_
  refine Ev.getRk (C2 := 23) (r := v0) fX0_9 rfl (by decide) (by decide) ⟨dX0_valueOf_1, rfl⟩ ?_
  refine Ev.iload_n (q := 1) ⟨dX0_valueOf_4, rfl⟩ rfl rfl ?_
  refine Ev.bipush ⟨dX0_valueOf_5, rfl⟩ (inRd rfl) (by decide) ?_
  obtain ⟨c1, h⟩ := ckR_s h
  refine Ev.imul ⟨dX0_valueOf_7, rfl⟩ c1 ?_
  refine Ev.iload_n (q := 2) ⟨dX0_valueOf_8, rfl⟩ rfl rfl ?_
  obtain ⟨c2, h⟩ := ckR_s h
  refine Ev.iadd ⟨dX0_valueOf_9, rfl⟩ c2 ?_
  obtain ⟨c3, h⟩ := ckI_s h
  refine Ev.iaload (by decide) c3.1 c3.2 ⟨dX0_valueOf_10, rfl⟩ ?_
  obtain rfl := Option.some.inj h
  exact Ev.ireturn (ty := .int) ⟨dX0_valueOf_11, rfl⟩ rfl rfl ⟨rfl, rfl⟩

def F_X0_put (z : Nat) (v0 : Nat) (v1 : Int) (v2 : Int) (v3 : Int) (x : Mm) : Option (Mm) := ckR ((v1 * (6 : Int))) <| ckR (((v1 * (6 : Int)) + v2)) <| ckI ((v1 * (6 : Int)) + v2) 360 <| (some (wI x 23 v0 (((v1 * (6 : Int)) + v2)).toNat (v3))).bind fun x4 => some (x4)
set_option maxHeartbeats 4000000 in
set_option maxRecDepth 20000 in
theorem c_X0_put (Θ : GC) (D : Nat → Nat → Prop) (z : Nat) (v0 : Nat) (v1 : Int) (v2 : Int) (v3 : Int) (x : Mm) (y) (h : F_X0_put z v0 v1 v2 v3 x = some y) : Cal Θ mX0_put 0 0 0 0 [vr 0 (v0 + 1), vi (v1), vi (v2), vi (v3)] (hq D x) (RetN (hq D y)) := by
  refine Cal.of (by decide +kernel) rfl rfl (Nat.le_of_ble_eq_true rfl) ?_
  show Ev Θ mX0_put 0 0 0 0 0 [(0, vr 0 (v0 + 1)), (1, vi (v1)), (2, vi (v2)), (3, vi (v3))] [] (hq D x) (RetN (hq D y))
  unfold F_X0_put at h
  refine Ev.aload_n (q := 0) ⟨dX0_put_0, rfl⟩ rfl rfl ?_
  refine Ev.getRk (C2 := 23) (r := v0) fX0_9 rfl (by decide) (by decide) ⟨dX0_put_1, rfl⟩ ?_
  refine Ev.iload_n (q := 1) ⟨dX0_put_4, rfl⟩ rfl rfl ?_
  refine Ev.bipush ⟨dX0_put_5, rfl⟩ (inRd rfl) (by decide) ?_
  obtain ⟨c1, h⟩ := ckR_s h
  refine Ev.imul ⟨dX0_put_7, rfl⟩ c1 ?_
  refine Ev.iload_n (q := 2) ⟨dX0_put_8, rfl⟩ rfl rfl ?_
  obtain ⟨c2, h⟩ := ckR_s h
  refine Ev.iadd ⟨dX0_put_9, rfl⟩ c2 ?_
  refine Ev.iload_n (q := 3) ⟨dX0_put_10, rfl⟩ rfl rfl ?_
  obtain ⟨c3, h⟩ := ckI_s h
  obtain ⟨x4, ex, h⟩ := bnd_s h
  refine Ev.iastore (by decide) c3.1 c3.2 ⟨dX0_put_11, rfl⟩ ?_
  refine Ev.cast ?_ rfl rfl (hqI ex)
  clear ex
  obtain rfl := Option.some.inj h
  exact Ev.ret ⟨dX0_put_12, rfl⟩ rfl ⟨rfl, rfl⟩

def F_X0_takeFields (z : Nat) (v0 : Nat) (v1 : Nat) (v2 : Int) (x : Mm) : Option (Mm) := ckR ((v2 * (6 : Int))) <| ckR ((v2 * (6 : Int))) <| ckC (v2 * (6 : Int)) (v2 * (6 : Int)) (6 : Int) 360 <| (some (wC x 23 v1 ((v2 * (6 : Int))).toNat v0 ((v2 * (6 : Int))).toNat ((6 : Int)).toNat)).bind fun x4 => some (x4)
set_option maxHeartbeats 4000000 in
set_option maxRecDepth 20000 in
theorem c_X0_takeFields (Θ : GC) (D : Nat → Nat → Prop) (z : Nat) (v0 : Nat) (v1 : Nat) (v2 : Int) (x : Mm) (y) (h : F_X0_takeFields z v0 v1 v2 x = some y) : Cal Θ mX0_takeFields 1 26 0 0 [vr 0 (v0 + 1), vr 0 (v1 + 1), vi (v2)] (hq D x) (RetN (hq D y)) := by
  refine Cal.of (by decide +kernel) rfl rfl (Nat.le_of_ble_eq_true rfl) ?_
  show Ev Θ mX0_takeFields 1 26 0 0 0 [(0, vr 0 (v0 + 1)), (1, vr 0 (v1 + 1)), (2, vi (v2))] [] (hq D x) (RetN (hq D y))
  unfold F_X0_takeFields at h
  refine Ev.aload_n (q := 1) ⟨dX0_takeFields_0, rfl⟩ rfl rfl ?_
  refine Ev.getRk (C2 := 23) (r := v1) fX0_9 rfl (by decide) (by decide) ⟨dX0_takeFields_1, rfl⟩ ?_
  refine Ev.iload_n (q := 2) ⟨dX0_takeFields_4, rfl⟩ rfl rfl ?_
  refine Ev.bipush ⟨dX0_takeFields_5, rfl⟩ (inRd rfl) (by decide) ?_
  obtain ⟨c1, h⟩ := ckR_s h
  refine Ev.imul ⟨dX0_takeFields_7, rfl⟩ c1 ?_
  refine Ev.aload_n (q := 0) ⟨dX0_takeFields_8, rfl⟩ rfl rfl ?_
  refine Ev.getRk (C2 := 23) (r := v0) fX0_9 rfl (by decide) (by decide) ⟨dX0_takeFields_9, rfl⟩ ?_
  refine Ev.iload_n (q := 2) ⟨dX0_takeFields_12, rfl⟩ rfl rfl ?_
  refine Ev.bipush ⟨dX0_takeFields_13, rfl⟩ (inRd rfl) (by decide) ?_
  obtain ⟨c2, h⟩ := ckR_s h
  refine Ev.imul ⟨dX0_takeFields_15, rfl⟩ c2 ?_
  refine Ev.bipush ⟨dX0_takeFields_16, rfl⟩ (inRd rfl) (by decide) ?_
  obtain ⟨c3, h⟩ := ckC_s h
  obtain ⟨x4, ex, h⟩ := bnd_s h
  refine Ev.copyI (by decide) (by decide) aX0_29 c3.1 c3.2.1 c3.2.2.1 c3.2.2.2.1 c3.2.2.2.2 (by decide) (Nat.le_of_ble_eq_true rfl) ⟨dX0_takeFields_18, rfl⟩ ?_
  refine Ev.cast ?_ rfl rfl (hqC ex)
  clear ex
  obtain rfl := Option.some.inj h
  exact Ev.ret ⟨dX0_takeFields_21, rfl⟩ rfl ⟨rfl, rfl⟩

def F_X0_copyFrom (z : Nat) (v0 : Nat) (v1 : Nat) (x : Mm) : Option (Mm) := (some (wL x 0 v0 0 ((x.2 0 v1 0)))).bind fun x1 => ckC (0 : Int) (0 : Int) (360 : Int) 360 <| (some (wC x1 23 v1 ((0 : Int)).toNat v0 ((0 : Int)).toNat ((360 : Int)).toNat)).bind fun x3 => some (x3)
set_option maxHeartbeats 4000000 in
set_option maxRecDepth 20000 in
theorem c_X0_copyFrom (Θ : GC) (D : Nat → Nat → Prop) (z : Nat) (v0 : Nat) (v1 : Nat) (x : Mm) (y) (h : F_X0_copyFrom z v0 v1 x = some y) : Cal Θ mX0_copyFrom 1 26 0 0 [vr 0 (v0 + 1), vr 0 (v1 + 1)] (hq D x) (RetN (hq D y)) := by
  refine Cal.of (by decide +kernel) rfl rfl (Nat.le_of_ble_eq_true rfl) ?_
  show Ev Θ mX0_copyFrom 1 26 0 0 0 [(0, vr 0 (v0 + 1)), (1, vr 0 (v1 + 1))] [] (hq D x) (RetN (hq D y))
  unfold F_X0_copyFrom at h
  refine Ev.aload_n (q := 0) ⟨dX0_copyFrom_0, rfl⟩ rfl rfl ?_
  refine Ev.aload_n (q := 1) ⟨dX0_copyFrom_1, rfl⟩ rfl rfl ?_
  refine Ev.getL fX0_19 ⟨dX0_copyFrom_2, rfl⟩ ?_
  obtain ⟨x1, ex, h⟩ := bnd_s h
  refine Ev.putL fX0_19 ⟨dX0_copyFrom_5, rfl⟩ ?_
  refine Ev.cast ?_ rfl rfl (hqL ex)
  clear ex
  refine Ev.aload_n (q := 1) ⟨dX0_copyFrom_8, rfl⟩ rfl rfl ?_
  refine Ev.getRk (C2 := 23) (r := v1) fX0_9 rfl (by decide) (by decide) ⟨dX0_copyFrom_9, rfl⟩ ?_
  refine Ev.iconst ⟨dX0_copyFrom_12, rfl⟩ (inRd rfl) ?_
  refine Ev.aload_n (q := 0) ⟨dX0_copyFrom_13, rfl⟩ rfl rfl ?_
  refine Ev.getRk (C2 := 23) (r := v0) fX0_9 rfl (by decide) (by decide) ⟨dX0_copyFrom_14, rfl⟩ ?_
  refine Ev.iconst ⟨dX0_copyFrom_17, rfl⟩ (inRd rfl) ?_
  refine Ev.aload_n (q := 0) ⟨dX0_copyFrom_18, rfl⟩ rfl rfl ?_
  refine Ev.getRk (C2 := 23) (r := v0) fX0_9 rfl (by decide) (by decide) ⟨dX0_copyFrom_19, rfl⟩ ?_
  refine Ev.alen (by decide) ⟨dX0_copyFrom_22, rfl⟩ ?_
  obtain ⟨c2, h⟩ := ckC_s h
  obtain ⟨x3, ex, h⟩ := bnd_s h
  refine Ev.copyI (by decide) (by decide) aX0_29 c2.1 c2.2.1 c2.2.2.1 c2.2.2.2.1 c2.2.2.2.2 (by decide) (Nat.le_of_ble_eq_true rfl) ⟨dX0_copyFrom_23, rfl⟩ ?_
  refine Ev.cast ?_ rfl rfl (hqC ex)
  clear ex
  obtain rfl := Option.some.inj h
  exact Ev.ret ⟨dX0_copyFrom_26, rfl⟩ rfl ⟨rfl, rfl⟩

def F_X0_clearFields_2 (z : Nat) (v0 : Nat) (v1 : Int) : Nat → Int → Mm → Option (Mm)
  | 0, _, _ => none
  | k + 1, v2, x => if (6 : Int) ≤ v2 then (some (x)) else ((F_X0_put z (v0) (v1) (v2) ((0 : Int)) x).bind fun r2 => ckR ((v2 + 1)) <| F_X0_clearFields_2 z v0 v1 k ((v2 + 1)) r2)
set_option maxHeartbeats 4000000 in
set_option maxRecDepth 20000 in
theorem e_X0_clearFields_2 (Θ : GC) (D : Nat → Nat → Prop) (z : Nat) (v0 : Nat) (v1 : Int) (Q : Ro → Hp → Prop) (mc ms : Nat) : ∀ (k : Nat) (v2 : Int) (x : Mm) (y), F_X0_clearFields_2 z v0 v1 k v2 x = some y → (Ev Θ mX0_clearFields 1 23 mc ms 21 [(0, vr 0 (v0 + 1)), (1, vi (v1))] [] (hq D y) Q) → Ev Θ mX0_clearFields 1 23 mc ms 2 [(0, vr 0 (v0 + 1)), (1, vi (v1)), (2, vi (v2))] [] (hq D x) Q := by
  intro k
  induction k with
  | zero => intro v2 x y h; exact absurd h (by unfold F_X0_clearFields_2; exact nofun)
  | succ k ih =>
    intro v2 x y h k1
    unfold F_X0_clearFields_2 at h
    refine Ev.iload_n (q := 2) ⟨dX0_clearFields_2, rfl⟩ rfl rfl ?_
    refine Ev.bipush ⟨dX0_clearFields_3, rfl⟩ (inRd rfl) (by decide) ?_
    refine Ev.icmp_ge jX0_clearFields_5 (fun hc => ?_) (fun hc => ?_)
    · replace h := (if_pos hc).symm.trans h; clear hc
      refine Ev.keep [0, 1] rfl ?_
      obtain rfl := Option.some.inj h
      exact k1
    · replace h := (if_neg hc).symm.trans h; clear hc
      refine Ev.aload_n (q := 0) ⟨dX0_clearFields_8, rfl⟩ rfl rfl ?_
      refine Ev.iload_n (q := 1) ⟨dX0_clearFields_9, rfl⟩ rfl rfl ?_
      refine Ev.iload_n (q := 2) ⟨dX0_clearFields_10, rfl⟩ rfl rfl ?_
      refine Ev.iconst ⟨dX0_clearFields_11, rfl⟩ (inRd rfl) ?_
      obtain ⟨r2, hv1, h⟩ := bnd_s h
      refine Ev.callVN (mc1 := mc) (ms1 := ms) (h1 := hq D r2) vX0_39 (c_X0_put Θ D z _ _ _ _ _ _ hv1) rfl rfl (by decide) rfl ⟨by decide, by decide, Nat.le_of_eq (Nat.zero_add _), Nat.le_of_eq (Nat.zero_add _), Nat.le_of_ble_eq_true rfl⟩ ⟨dX0_clearFields_12, rfl⟩ ?_
      clear hv1
      obtain ⟨c3, h⟩ := ckR_s h
      refine Ev.iinc (q := 2) (ls' := [(0, _), (1, _), (2, _)]) ⟨dX0_clearFields_15, rfl⟩ rfl (by decide) c3 rfl ?_
      refine Ev.goto jX0_clearFields_18 ?_
      exact ih _ _ _ h k1
def F_X0_clearFields (z : Nat) (v0 : Nat) (v1 : Int) (x : Mm) : Option (Mm) := (F_X0_clearFields_2 z (v0) (v1) z ((0 : Int)) x).bind fun s4 => some (s4)
set_option maxHeartbeats 4000000 in
set_option maxRecDepth 20000 in
theorem c_X0_clearFields (Θ : GC) (D : Nat → Nat → Prop) (z : Nat) (v0 : Nat) (v1 : Int) (x : Mm) (y) (h : F_X0_clearFields z v0 v1 x = some y) : Cal Θ mX0_clearFields 1 23 0 0 [vr 0 (v0 + 1), vi (v1)] (hq D x) (RetN (hq D y)) := by
  refine Cal.of (by decide +kernel) rfl rfl (Nat.le_of_ble_eq_true rfl) ?_
  show Ev Θ mX0_clearFields 1 23 0 0 0 [(0, vr 0 (v0 + 1)), (1, vi (v1))] [] (hq D x) (RetN (hq D y))
  unfold F_X0_clearFields at h
  refine Ev.iconst ⟨dX0_clearFields_0, rfl⟩ (inRd rfl) ?_
  refine Ev.istore_n (i := 2) (ls' := [(0, _), (1, _), (2, _)]) ⟨dX0_clearFields_1, rfl⟩ rfl (by decide) rfl ?_
  obtain ⟨s4, hl, h⟩ := bnd_s h
  refine e_X0_clearFields_2 Θ D z _ _ _ _ _ _ _ _ _ hl ?_
  clear hl
  obtain rfl := Option.some.inj h
  exact Ev.ret ⟨dX0_clearFields_21, rfl⟩ rfl ⟨rfl, rfl⟩

def F_X0_countDifferent_5 (z : Nat) (v0 : Nat) (v1 : Nat) (v2 : Int) (x : Mm) : Nat → Int → Int → Option (Int)
  | 0, _, _ => none
  | k + 1, v3, v4 => if (6 : Int) ≤ v4 then (some (v3)) else ((F_X0_valueOf z (v0) (v2) (v4) x).bind fun r2 => (F_X0_valueOf z (v1) (v2) (v4) x).bind fun r4 => if r2 = r4 then (ckR ((v4 + 1)) <| F_X0_countDifferent_5 z v0 v1 v2 x k (v3) ((v4 + 1))) else (ckR ((v3 + 1)) <| ckR ((v4 + 1)) <| F_X0_countDifferent_5 z v0 v1 v2 x k ((v3 + 1)) ((v4 + 1))))
set_option maxHeartbeats 4000000 in
set_option maxRecDepth 20000 in
theorem e_X0_countDifferent_5 (Θ : GC) (D : Nat → Nat → Prop) (z : Nat) (v0 : Nat) (v1 : Nat) (v2 : Int) (x : Mm) (Q : Ro → Hp → Prop) (mc ms : Nat) : ∀ (k : Nat) (v3 : Int) (v4 : Int) (y), F_X0_countDifferent_5 z v0 v1 v2 x k v3 v4 = some y → (Ev Θ mX0_countDifferent 1 22 mc ms 38 [(0, vr 0 (v0 + 1)), (1, vr 0 (v1 + 1)), (2, vi (v2)), (3, vi (y))] [] (hq D x) Q) → Ev Θ mX0_countDifferent 1 22 mc ms 5 [(0, vr 0 (v0 + 1)), (1, vr 0 (v1 + 1)), (2, vi (v2)), (3, vi (v3)), (4, vi (v4))] [] (hq D x) Q := by
  intro k
  induction k with
  | zero => intro v3 v4 y h; exact absurd h (by unfold F_X0_countDifferent_5; exact nofun)
  | succ k ih =>
    intro v3 v4 y h k1
    unfold F_X0_countDifferent_5 at h
    refine Ev.iload (q := 4) ⟨dX0_countDifferent_5, rfl⟩ rfl ?_
    refine Ev.bipush ⟨dX0_countDifferent_7, rfl⟩ (inRd rfl) (by decide) ?_
    refine Ev.icmp_ge jX0_countDifferent_9 (fun hc => ?_) (fun hc => ?_)
    · replace h := (if_pos hc).symm.trans h; clear hc
      refine Ev.keep [0, 1, 2, 3] rfl ?_
      obtain rfl := Option.some.inj h
      exact k1
    · replace h := (if_neg hc).symm.trans h; clear hc
      refine Ev.aload_n (q := 0) ⟨dX0_countDifferent_12, rfl⟩ rfl rfl ?_
      refine Ev.iload_n (q := 2) ⟨dX0_countDifferent_13, rfl⟩ rfl rfl ?_
      refine Ev.iload (q := 4) ⟨dX0_countDifferent_14, rfl⟩ rfl ?_
      obtain ⟨r2, hv1, h⟩ := bnd_s h
      refine Ev.callV1 (mc1 := mc) (ms1 := ms) (v := vi r2) (h1 := hq D x) vX0_43 (c_X0_valueOf Θ D z _ _ _ _ _ hv1) rfl rfl (by decide) rfl ⟨by decide, by decide, Nat.le_of_eq (Nat.zero_add _), Nat.le_of_eq (Nat.zero_add _), Nat.le_of_ble_eq_true rfl⟩ ⟨dX0_countDifferent_16, rfl⟩ ?_
      clear hv1
      refine Ev.aload_n (q := 1) ⟨dX0_countDifferent_19, rfl⟩ rfl rfl ?_
      refine Ev.iload_n (q := 2) ⟨dX0_countDifferent_20, rfl⟩ rfl rfl ?_
      refine Ev.iload (q := 4) ⟨dX0_countDifferent_21, rfl⟩ rfl ?_
      obtain ⟨r4, hv3, h⟩ := bnd_s h
      refine Ev.callV1 (mc1 := mc) (ms1 := ms) (v := vi r4) (h1 := hq D x) vX0_43 (c_X0_valueOf Θ D z _ _ _ _ _ hv3) rfl rfl (by decide) rfl ⟨by decide, by decide, Nat.le_of_eq (Nat.zero_add _), Nat.le_of_eq (Nat.zero_add _), Nat.le_of_ble_eq_true rfl⟩ ⟨dX0_countDifferent_23, rfl⟩ ?_
      clear hv3
      refine Ev.icmp_eq jX0_countDifferent_26 (fun hc => ?_) (fun hc => ?_)
      · replace h := (if_pos hc).symm.trans h; clear hc
        obtain ⟨c5, h⟩ := ckR_s h
        refine Ev.iinc (q := 4) (ls' := [(0, _), (1, _), (2, _), (3, _), (4, _)]) ⟨dX0_countDifferent_32, rfl⟩ rfl (by decide) c5 rfl ?_
        refine Ev.goto jX0_countDifferent_35 ?_
        exact ih _ _ _ h k1
      · replace h := (if_neg hc).symm.trans h; clear hc
        obtain ⟨c6, h⟩ := ckR_s h
        refine Ev.iinc (q := 3) (ls' := [(0, _), (1, _), (2, _), (3, _), (4, _)]) ⟨dX0_countDifferent_29, rfl⟩ rfl (by decide) c6 rfl ?_
        obtain ⟨c7, h⟩ := ckR_s h
        refine Ev.iinc (q := 4) (ls' := [(0, _), (1, _), (2, _), (3, _), (4, _)]) ⟨dX0_countDifferent_32, rfl⟩ rfl (by decide) c7 rfl ?_
        refine Ev.goto jX0_countDifferent_35 ?_
        exact ih _ _ _ h k1
def F_X0_countDifferent (z : Nat) (v0 : Nat) (v1 : Nat) (v2 : Int) (x : Mm) : Option (Int) := (F_X0_countDifferent_5 z (v0) (v1) (v2) x z ((0 : Int)) ((0 : Int))).bind fun s8 => some (s8)
set_option maxHeartbeats 4000000 in
set_option maxRecDepth 20000 in
theorem c_X0_countDifferent (Θ : GC) (D : Nat → Nat → Prop) (z : Nat) (v0 : Nat) (v1 : Nat) (v2 : Int) (x : Mm) (y) (h : F_X0_countDifferent z v0 v1 v2 x = some y) : Cal Θ mX0_countDifferent 1 22 0 0 [vr 0 (v0 + 1), vr 0 (v1 + 1), vi (v2)] (hq D x) (Ret (vi y) (hq D x)) := by
  refine Cal.of (by decide +kernel) rfl rfl (Nat.le_of_ble_eq_true rfl) ?_
  show Ev Θ mX0_countDifferent 1 22 0 0 0 [(0, vr 0 (v0 + 1)), (1, vr 0 (v1 + 1)), (2, vi (v2))] [] (hq D x) (Ret (vi y) (hq D x))
  unfold F_X0_countDifferent at h
  refine Ev.iconst ⟨dX0_countDifferent_0, rfl⟩ (inRd rfl) ?_
  refine Ev.istore_n (i := 3) (ls' := [(0, _), (1, _), (2, _), (3, _)]) ⟨dX0_countDifferent_1, rfl⟩ rfl (by decide) rfl ?_
  refine Ev.iconst ⟨dX0_countDifferent_2, rfl⟩ (inRd rfl) ?_
  refine Ev.istore (i := 4) (ls' := [(0, _), (1, _), (2, _), (3, _), (4, _)]) ⟨dX0_countDifferent_3, rfl⟩ (by decide) rfl ?_
  obtain ⟨s8, hl, h⟩ := bnd_s h
  refine e_X0_countDifferent_5 Θ D z _ _ _ _ _ _ _ _ _ _ _ hl ?_
  clear hl
  refine Ev.iload_n (q := 3) ⟨dX0_countDifferent_38, rfl⟩ rfl rfl ?_
  obtain rfl := Option.some.inj h
  exact Ev.ireturn (ty := .int) ⟨dX0_countDifferent_39, rfl⟩ rfl rfl ⟨rfl, rfl⟩

def F_X0_sameAs_16 (z : Nat) (v0 : Nat) (v1 : Nat) (x : Mm) : Nat → Int → Option ((Unit) ⊕ (Int))
  | 0, _ => none
  | k + 1, v2 => if (60 : Int) ≤ v2 then (some (.inl ())) else ((F_X0_has z (v0) (v2) x).bind fun r2 => if r2 = 0 then (ckR ((v2 + 1)) <| F_X0_sameAs_16 z v0 v1 x k ((v2 + 1))) else ((F_X0_countDifferent z (v0) (v1) (v2) x).bind fun r5 => if r5 ≤ 0 then (ckR ((v2 + 1)) <| F_X0_sameAs_16 z v0 v1 x k ((v2 + 1))) else (some (.inr (0 : Int)))))
set_option maxHeartbeats 4000000 in
set_option maxRecDepth 20000 in
theorem e_X0_sameAs_16 (Θ : GC) (D : Nat → Nat → Prop) (z : Nat) (v0 : Nat) (v1 : Nat) (x : Mm) (Q : Ro → Hp → Prop) (mc ms : Nat) : ∀ (k : Nat) (v2 : Int) (y), F_X0_sameAs_16 z v0 v1 x k v2 = some y → (∀ s, y = .inl s → Ev Θ mX0_sameAs 2 46 mc ms 47 [(0, vr 0 (v0 + 1)), (1, vr 0 (v1 + 1))] [] (hq D x) Q) → (∀ r, y = .inr r → Q (.inl (some (vi r))) (hq D x)) → Ev Θ mX0_sameAs 2 46 mc ms 16 [(0, vr 0 (v0 + 1)), (1, vr 0 (v1 + 1)), (2, vi (v2))] [] (hq D x) Q := by
  intro k
  induction k with
  | zero => intro v2 y h; exact absurd h (by unfold F_X0_sameAs_16; exact nofun)
  | succ k ih =>
    intro v2 y h k1 k2
    unfold F_X0_sameAs_16 at h
    refine Ev.iload_n (q := 2) ⟨dX0_sameAs_16, rfl⟩ rfl rfl ?_
    refine Ev.bipush ⟨dX0_sameAs_17, rfl⟩ (inRd rfl) (by decide) ?_
    refine Ev.icmp_ge jX0_sameAs_19 (fun hc => ?_) (fun hc => ?_)
    · replace h := (if_pos hc).symm.trans h; clear hc
      refine Ev.keep [0, 1] rfl ?_
      obtain rfl := Option.some.inj h
      exact k1 _ rfl
    · replace h := (if_neg hc).symm.trans h; clear hc
      refine Ev.aload_n (q := 0) ⟨dX0_sameAs_22, rfl⟩ rfl rfl ?_
      refine Ev.iload_n (q := 2) ⟨dX0_sameAs_23, rfl⟩ rfl rfl ?_
      obtain ⟨r2, hv1, h⟩ := bnd_s h
      refine Ev.callV1 (mc1 := mc) (ms1 := ms) (v := vi r2) (h1 := hq D x) vX0_47 (c_X0_has Θ D z _ _ _ _ hv1) rfl rfl (by decide) rfl ⟨by decide, by decide, Nat.le_of_eq (Nat.zero_add _), Nat.le_of_eq (Nat.zero_add _), Nat.le_of_ble_eq_true rfl⟩ ⟨dX0_sameAs_24, rfl⟩ ?_
      clear hv1
      refine Ev.if_eq jX0_sameAs_27 (fun hc => ?_) (fun hc => ?_)
      · replace h := (if_pos hc).symm.trans h; clear hc
        obtain ⟨c3, h⟩ := ckR_s h
        refine Ev.iinc (q := 2) (ls' := [(0, _), (1, _), (2, _)]) ⟨dX0_sameAs_41, rfl⟩ rfl (by decide) c3 rfl ?_
        refine Ev.goto jX0_sameAs_44 ?_
        exact ih _ _ h k1 k2
      · replace h := (if_neg hc).symm.trans h; clear hc
        refine Ev.aload_n (q := 0) ⟨dX0_sameAs_30, rfl⟩ rfl rfl ?_
        refine Ev.aload_n (q := 1) ⟨dX0_sameAs_31, rfl⟩ rfl rfl ?_
        refine Ev.iload_n (q := 2) ⟨dX0_sameAs_32, rfl⟩ rfl rfl ?_
        obtain ⟨r5, hv4, h⟩ := bnd_s h
        refine Ev.callV1 (mc1 := mc) (ms1 := ms) (v := vi r5) (h1 := hq D x) vX0_51 (c_X0_countDifferent Θ D z _ _ _ _ _ hv4) rfl rfl (by decide) rfl ⟨by decide, by decide, Nat.le_of_eq (Nat.zero_add _), Nat.le_of_eq (Nat.zero_add _), Nat.le_of_ble_eq_true rfl⟩ ⟨dX0_sameAs_33, rfl⟩ ?_
        clear hv4
        refine Ev.if_le jX0_sameAs_36 (fun hc => ?_) (fun hc => ?_)
        · replace h := (if_pos hc).symm.trans h; clear hc
          obtain ⟨c6, h⟩ := ckR_s h
          refine Ev.iinc (q := 2) (ls' := [(0, _), (1, _), (2, _)]) ⟨dX0_sameAs_41, rfl⟩ rfl (by decide) c6 rfl ?_
          refine Ev.goto jX0_sameAs_44 ?_
          exact ih _ _ h k1 k2
        · replace h := (if_neg hc).symm.trans h; clear hc
          refine Ev.iconst ⟨dX0_sameAs_39, rfl⟩ (inRd rfl) ?_
          obtain rfl := Option.some.inj h
          exact Ev.ireturn (ty := .boolean) ⟨dX0_sameAs_40, rfl⟩ rfl rfl (k2 _ rfl)
def F_X0_sameAs (z : Nat) (v0 : Nat) (v1 : Nat) (x : Mm) : Option (Int) := if (lcm (x.2 0 v0 0) (x.2 0 v1 0)) = 0 then (bndE (fun r => r) (F_X0_sameAs_16 z (v0) (v1) x z ((0 : Int))) fun s7 => some ((1 : Int))) else (some ((0 : Int)))
set_option maxHeartbeats 4000000 in
set_option maxRecDepth 20000 in
theorem c_X0_sameAs (Θ : GC) (D : Nat → Nat → Prop) (z : Nat) (v0 : Nat) (v1 : Nat) (x : Mm) (y) (h : F_X0_sameAs z v0 v1 x = some y) : Cal Θ mX0_sameAs 2 46 0 0 [vr 0 (v0 + 1), vr 0 (v1 + 1)] (hq D x) (Ret (vi y) (hq D x)) := by
  refine Cal.of (by decide +kernel) rfl rfl (Nat.le_of_ble_eq_true rfl) ?_
  show Ev Θ mX0_sameAs 2 46 0 0 0 [(0, vr 0 (v0 + 1)), (1, vr 0 (v1 + 1))] [] (hq D x) (Ret (vi y) (hq D x))
  unfold F_X0_sameAs at h
  refine Ev.aload_n (q := 0) ⟨dX0_sameAs_0, rfl⟩ rfl rfl ?_
  refine Ev.getL fX0_19 ⟨dX0_sameAs_1, rfl⟩ ?_
  refine Ev.aload_n (q := 1) ⟨dX0_sameAs_4, rfl⟩ rfl rfl ?_
  refine Ev.getL fX0_19 ⟨dX0_sameAs_5, rfl⟩ ?_
  refine Ev.lcmp ⟨dX0_sameAs_8, rfl⟩ ?_
  refine Ev.if_eq jX0_sameAs_9 (fun hc => ?_) (fun hc => ?_)
  · replace h := (if_pos hc).symm.trans h; clear hc
    refine Ev.iconst ⟨dX0_sameAs_14, rfl⟩ (inRd rfl) ?_
    refine Ev.istore_n (i := 2) (ls' := [(0, _), (1, _), (2, _)]) ⟨dX0_sameAs_15, rfl⟩ rfl (by decide) rfl ?_
    rcases bndE_s h with ⟨s7, hl, h⟩ | ⟨r1, hl, rfl⟩
    rotate_left
    · exact e_X0_sameAs_16 Θ D z _ _ _ _ _ _ _ _ _ hl (fun s2 e2 => by cases e2) (fun r2 e2 => by cases e2; exact ⟨rfl, rfl⟩)
    refine e_X0_sameAs_16 Θ D z _ _ _ _ _ _ _ _ _ hl (fun s2 e2 => ?_) (fun r2 e2 => by cases e2)
    cases e2
    clear hl
    refine Ev.iconst ⟨dX0_sameAs_47, rfl⟩ (inRd rfl) ?_
    obtain rfl := Option.some.inj h
    exact Ev.ireturn (ty := .boolean) ⟨dX0_sameAs_48, rfl⟩ rfl rfl ⟨rfl, rfl⟩
  · replace h := (if_neg hc).symm.trans h; clear hc
    refine Ev.iconst ⟨dX0_sameAs_12, rfl⟩ (inRd rfl) ?_
    obtain rfl := Option.some.inj h
    exact Ev.ireturn (ty := .boolean) ⟨dX0_sameAs_13, rfl⟩ rfl rfl ⟨rfl, rfl⟩

def F_X4_touch (z : Nat) (v0 : Nat) (v1 : Int) (v2 : Int) (x : Mm) : Option (Int) := ckI v1 60 <| (F_X7_contains z ((x.2 30 v0 (v1).toNat)) (v2) x).bind fun r3 => if r3 = 0 then (ckI v2 60 <| (F_X7_contains z ((x.2 30 v0 (v2).toNat)) (v1) x).bind fun r6 => if r6 = 0 then (some ((0 : Int))) else (some ((1 : Int)))) else (some ((1 : Int)))
set_option maxHeartbeats 4000000 in
set_option maxRecDepth 20000 in
theorem c_X4_touch (Θ : GC) (D : Nat → Nat → Prop) (z : Nat) (v0 : Nat) (v1 : Int) (v2 : Int) (x : Mm) (y) (h : F_X4_touch z v0 v1 v2 x = some y) : Cal Θ mX4_touch 1 22 0 0 [vr 4 (v0 + 1), vi (v1), vi (v2)] (hq D x) (Ret (vi y) (hq D x)) := by
  refine Cal.of (by decide +kernel) rfl rfl (Nat.le_of_ble_eq_true rfl) ?_
  show Ev Θ mX4_touch 1 22 0 0 0 [(0, vr 4 (v0 + 1)), (1, vi (v1)), (2, vi (v2))] [] (hq D x) (Ret (vi y) (hq D x))
  unfold F_X4_touch at h
  refine Ev.aload_n (q := 0) ⟨dX4_touch_0, rfl⟩ rfl rfl ?_
  refine Ev.getRk (C2 := 30) (r := v0) fX4_18 rfl (by decide) (by decide) ⟨dX4_touch_1, rfl⟩ ?_
  refine Ev.iload_n (q := 1) ⟨dX4_touch_4, rfl⟩ rfl rfl ?_
  obtain ⟨c1, h⟩ := ckI_s h
  refine Ev.laload (by decide) c1.1 c1.2 ⟨dX4_touch_5, rfl⟩ ?_
  refine Ev.iload_n (q := 2) ⟨dX4_touch_6, rfl⟩ rfl rfl ?_
  obtain ⟨r3, hv2, h⟩ := bnd_s h
  refine Ev.callN1 (mc1 := 0) (ms1 := 0) (v := vi r3) (h1 := hq D x) nX4_40 (c_X7_contains Θ D z _ _ _ _ hv2) rfl rfl ⟨by decide, by decide, Nat.le_of_eq (Nat.zero_add _), Nat.le_of_eq (Nat.zero_add _), Nat.le_of_ble_eq_true rfl⟩ ⟨dX4_touch_7, rfl⟩ ?_
  clear hv2
  refine Ev.if_ne jX4_touch_10 (fun hc => ?_) (fun hc => ?_)
  · replace h := (if_neg hc).symm.trans h; clear hc
    refine Ev.iconst ⟨dX4_touch_26, rfl⟩ (inRd rfl) ?_
    refine Ev.goto jX4_touch_27 ?_
    obtain rfl := Option.some.inj h
    exact Ev.ireturn (ty := .boolean) ⟨dX4_touch_31, rfl⟩ rfl rfl ⟨rfl, rfl⟩
  · replace h := (if_pos hc).symm.trans h; clear hc
    refine Ev.aload_n (q := 0) ⟨dX4_touch_13, rfl⟩ rfl rfl ?_
    refine Ev.getRk (C2 := 30) (r := v0) fX4_18 rfl (by decide) (by decide) ⟨dX4_touch_14, rfl⟩ ?_
    refine Ev.iload_n (q := 2) ⟨dX4_touch_17, rfl⟩ rfl rfl ?_
    obtain ⟨c4, h⟩ := ckI_s h
    refine Ev.laload (by decide) c4.1 c4.2 ⟨dX4_touch_18, rfl⟩ ?_
    refine Ev.iload_n (q := 1) ⟨dX4_touch_19, rfl⟩ rfl rfl ?_
    obtain ⟨r6, hv5, h⟩ := bnd_s h
    refine Ev.callN1 (mc1 := 0) (ms1 := 0) (v := vi r6) (h1 := hq D x) nX4_40 (c_X7_contains Θ D z _ _ _ _ hv5) rfl rfl ⟨by decide, by decide, Nat.le_of_eq (Nat.zero_add _), Nat.le_of_eq (Nat.zero_add _), Nat.le_of_ble_eq_true rfl⟩ ⟨dX4_touch_20, rfl⟩ ?_
    clear hv5
    refine Ev.if_eq jX4_touch_23 (fun hc => ?_) (fun hc => ?_)
    · replace h := (if_pos hc).symm.trans h; clear hc
      refine Ev.iconst ⟨dX4_touch_30, rfl⟩ (inRd rfl) ?_
      obtain rfl := Option.some.inj h
      exact Ev.ireturn (ty := .boolean) ⟨dX4_touch_31, rfl⟩ rfl rfl ⟨rfl, rfl⟩
    · replace h := (if_neg hc).symm.trans h; clear hc
      refine Ev.iconst ⟨dX4_touch_26, rfl⟩ (inRd rfl) ?_
      refine Ev.goto jX4_touch_27 ?_
      obtain rfl := Option.some.inj h
      exact Ev.ireturn (ty := .boolean) ⟨dX4_touch_31, rfl⟩ rfl rfl ⟨rfl, rfl⟩

def F_X4_atOrBelow_5 (z : Nat) (v0 : Nat) (v1 : Int) (x : Mm) : Nat → BitVec 64 → Int → Option (BitVec 64)
  | 0, _, _ => none
  | k + 1, v2, v4 => if (x.1 4 v0 0) ≤ v4 then (some (v2)) else (ckI v4 60 <| (F_X7_contains z ((x.2 30 v0 (v4).toNat)) (v1) x).bind fun r3 => if r3 = 0 then (ckR ((v4 + 1)) <| F_X4_atOrBelow_5 z v0 v1 x k (v2) ((v4 + 1))) else ((F_X7_bit z (v4) x).bind fun r6 => ckR ((v4 + 1)) <| F_X4_atOrBelow_5 z v0 v1 x k ((v2 ||| r6)) ((v4 + 1))))
set_option maxHeartbeats 4000000 in
set_option maxRecDepth 20000 in
theorem e_X4_atOrBelow_5 (Θ : GC) (D : Nat → Nat → Prop) (z : Nat) (v0 : Nat) (v1 : Int) (x : Mm) (Q : Ro → Hp → Prop) (mc ms : Nat) : ∀ (k : Nat) (v2 : BitVec 64) (v4 : Int) (y), F_X4_atOrBelow_5 z v0 v1 x k v2 v4 = some y → (Ev Θ mX4_atOrBelow 1 22 mc ms 42 [(0, vr 4 (v0 + 1)), (1, vi (v1)), (2, vl (y))] [] (hq D x) Q) → Ev Θ mX4_atOrBelow 1 22 mc ms 5 [(0, vr 4 (v0 + 1)), (1, vi (v1)), (2, vl (v2)), (4, vi (v4))] [] (hq D x) Q := by
  intro k
  induction k with
  | zero => intro v2 v4 y h; exact absurd h (by unfold F_X4_atOrBelow_5; exact nofun)
  | succ k ih =>
    intro v2 v4 y h k1
    unfold F_X4_atOrBelow_5 at h
    refine Ev.iload (q := 3) ⟨dX4_atOrBelow_5, rfl⟩ rfl ?_
    refine Ev.aload_n (q := 0) ⟨dX4_atOrBelow_7, rfl⟩ rfl rfl ?_
    refine Ev.getI fX4_22 (Or.inl rfl) ⟨dX4_atOrBelow_8, rfl⟩ ?_
    refine Ev.icmp_ge jX4_atOrBelow_11 (fun hc => ?_) (fun hc => ?_)
    · replace h := (if_pos hc).symm.trans h; clear hc
      refine Ev.keep [0, 1, 2] rfl ?_
      obtain rfl := Option.some.inj h
      exact k1
    · replace h := (if_neg hc).symm.trans h; clear hc
      refine Ev.aload_n (q := 0) ⟨dX4_atOrBelow_14, rfl⟩ rfl rfl ?_
      refine Ev.getRk (C2 := 30) (r := v0) fX4_18 rfl (by decide) (by decide) ⟨dX4_atOrBelow_15, rfl⟩ ?_
      refine Ev.iload (q := 3) ⟨dX4_atOrBelow_18, rfl⟩ rfl ?_
      obtain ⟨c1, h⟩ := ckI_s h
      refine Ev.laload (by decide) c1.1 c1.2 ⟨dX4_atOrBelow_20, rfl⟩ ?_
      refine Ev.iload_n (q := 1) ⟨dX4_atOrBelow_21, rfl⟩ rfl rfl ?_
      obtain ⟨r3, hv2, h⟩ := bnd_s h
      refine Ev.callN1 (mc1 := mc) (ms1 := ms) (v := vi r3) (h1 := hq D x) nX4_40 (c_X7_contains Θ D z _ _ _ _ hv2) rfl rfl ⟨by decide, by decide, Nat.le_of_eq (Nat.zero_add _), Nat.le_of_eq (Nat.zero_add _), Nat.le_of_ble_eq_true rfl⟩ ⟨dX4_atOrBelow_22, rfl⟩ ?_
      clear hv2
      refine Ev.if_eq jX4_atOrBelow_25 (fun hc => ?_) (fun hc => ?_)
      · replace h := (if_pos hc).symm.trans h; clear hc
        obtain ⟨c4, h⟩ := ckR_s h
        refine Ev.iinc (q := 3) (ls' := [(0, _), (1, _), (2, _), (4, _)]) ⟨dX4_atOrBelow_36, rfl⟩ rfl (by decide) c4 rfl ?_
        refine Ev.goto jX4_atOrBelow_39 ?_
        exact ih _ _ _ h k1
      · replace h := (if_neg hc).symm.trans h; clear hc
        refine Ev.lload_n (q := 2) ⟨dX4_atOrBelow_28, rfl⟩ rfl rfl ?_
        refine Ev.iload (q := 3) ⟨dX4_atOrBelow_29, rfl⟩ rfl ?_
        obtain ⟨r6, hv5, h⟩ := bnd_s h
        refine Ev.callN1 (mc1 := mc) (ms1 := ms) (v := vl r6) (h1 := hq D x) nX4_30 (c_X7_bit Θ D z _ _ _ hv5) rfl rfl ⟨by decide, by decide, Nat.le_of_eq (Nat.zero_add _), Nat.le_of_eq (Nat.zero_add _), Nat.le_of_ble_eq_true rfl⟩ ⟨dX4_atOrBelow_31, rfl⟩ ?_
        clear hv5
        refine Ev.lor ⟨dX4_atOrBelow_34, rfl⟩ ?_
        refine Ev.lstore_n (i := 2) (ls' := [(0, _), (1, _), (2, _), (4, _)]) ⟨dX4_atOrBelow_35, rfl⟩ rfl (by decide) rfl ?_
        obtain ⟨c7, h⟩ := ckR_s h
        refine Ev.iinc (q := 3) (ls' := [(0, _), (1, _), (2, _), (4, _)]) ⟨dX4_atOrBelow_36, rfl⟩ rfl (by decide) c7 rfl ?_
        refine Ev.goto jX4_atOrBelow_39 ?_
        exact ih _ _ _ h k1
def F_X4_atOrBelow (z : Nat) (v0 : Nat) (v1 : Int) (x : Mm) : Option (BitVec 64) := (F_X4_atOrBelow_5 z (v0) (v1) x z ((0#64)) ((0 : Int))).bind fun s8 => some (s8)
set_option maxHeartbeats 4000000 in
set_option maxRecDepth 20000 in
theorem c_X4_atOrBelow (Θ : GC) (D : Nat → Nat → Prop) (z : Nat) (v0 : Nat) (v1 : Int) (x : Mm) (y) (h : F_X4_atOrBelow z v0 v1 x = some y) : Cal Θ mX4_atOrBelow 1 22 0 0 [vr 4 (v0 + 1), vi (v1)] (hq D x) (Ret (vl y) (hq D x)) := by
  refine Cal.of (by decide +kernel) rfl rfl (Nat.le_of_ble_eq_true rfl) ?_
  show Ev Θ mX4_atOrBelow 1 22 0 0 0 [(0, vr 4 (v0 + 1)), (1, vi (v1))] [] (hq D x) (Ret (vl y) (hq D x))
  unfold F_X4_atOrBelow at h
  refine Ev.lconst (b := BitVec.ofInt 64 0) ⟨dX4_atOrBelow_0, rfl⟩ (by decide) ?_
  refine Ev.lstore_n (i := 2) (ls' := [(0, _), (1, _), (2, _)]) ⟨dX4_atOrBelow_1, rfl⟩ rfl (by decide) rfl ?_
  refine Ev.iconst ⟨dX4_atOrBelow_2, rfl⟩ (inRd rfl) ?_
  refine Ev.istore (i := 4) (ls' := [(0, _), (1, _), (2, _), (4, _)]) ⟨dX4_atOrBelow_3, rfl⟩ (by decide) rfl ?_
  obtain ⟨s8, hl, h⟩ := bnd_s h
  refine e_X4_atOrBelow_5 Θ D z _ _ _ _ _ _ _ _ _ _ hl ?_
  clear hl
  refine Ev.lload_n (q := 2) ⟨dX4_atOrBelow_42, rfl⟩ rfl rfl ?_
  obtain rfl := Option.some.inj h
  exact Ev.lreturn ⟨dX4_atOrBelow_43, rfl⟩ rfl ⟨rfl, rfl⟩

def F_X4_countChildren_6 (z : Nat) (v0 : Nat) (v1 : BitVec 64) (v3 : Int) (x : Mm) : Nat → Int → Int → Option (Int)
  | 0, _, _ => none
  | k + 1, v4, v5 => if (x.1 4 v0 0) ≤ v5 then (some (v4)) else (ckI v5 60 <| if (x.1 21 v0 (v5).toNat) = v3 then ((F_X7_contains z (v1) (v5) x).bind fun r4 => if r4 = 0 then (ckR ((v5 + 1)) <| F_X4_countChildren_6 z v0 v1 v3 x k (v4) ((v5 + 1))) else (ckR ((v4 + 1)) <| ckR ((v5 + 1)) <| F_X4_countChildren_6 z v0 v1 v3 x k ((v4 + 1)) ((v5 + 1)))) else (ckR ((v5 + 1)) <| F_X4_countChildren_6 z v0 v1 v3 x k (v4) ((v5 + 1))))
set_option maxHeartbeats 4000000 in
set_option maxRecDepth 20000 in
theorem e_X4_countChildren_6 (Θ : GC) (D : Nat → Nat → Prop) (z : Nat) (v0 : Nat) (v1 : BitVec 64) (v3 : Int) (x : Mm) (Q : Ro → Hp → Prop) (mc ms : Nat) : ∀ (k : Nat) (v4 : Int) (v5 : Int) (y), F_X4_countChildren_6 z v0 v1 v3 x k v4 v5 = some y → (Ev Θ mX4_countChildren 1 22 mc ms 44 [(0, vr 4 (v0 + 1)), (1, vl (v1)), (3, vi (v3)), (4, vi (y))] [] (hq D x) Q) → Ev Θ mX4_countChildren 1 22 mc ms 6 [(0, vr 4 (v0 + 1)), (1, vl (v1)), (3, vi (v3)), (4, vi (v4)), (5, vi (v5))] [] (hq D x) Q := by
  intro k
  induction k with
  | zero => intro v4 v5 y h; exact absurd h (by unfold F_X4_countChildren_6; exact nofun)
  | succ k ih =>
    intro v4 v5 y h k1
    unfold F_X4_countChildren_6 at h
    refine Ev.iload (q := 4) ⟨dX4_countChildren_6, rfl⟩ rfl ?_
    refine Ev.aload_n (q := 0) ⟨dX4_countChildren_8, rfl⟩ rfl rfl ?_
    refine Ev.getI fX4_22 (Or.inl rfl) ⟨dX4_countChildren_9, rfl⟩ ?_
    refine Ev.icmp_ge jX4_countChildren_12 (fun hc => ?_) (fun hc => ?_)
    · replace h := (if_pos hc).symm.trans h; clear hc
      refine Ev.keep [0, 1, 2, 3] rfl ?_
      obtain rfl := Option.some.inj h
      exact k1
    · replace h := (if_neg hc).symm.trans h; clear hc
      refine Ev.aload_n (q := 0) ⟨dX4_countChildren_15, rfl⟩ rfl rfl ?_
      refine Ev.getRk (C2 := 21) (r := v0) fX4_9 rfl (by decide) (by decide) ⟨dX4_countChildren_16, rfl⟩ ?_
      refine Ev.iload (q := 4) ⟨dX4_countChildren_19, rfl⟩ rfl ?_
      obtain ⟨c1, h⟩ := ckI_s h
      refine Ev.iaload (by decide) c1.1 c1.2 ⟨dX4_countChildren_21, rfl⟩ ?_
      refine Ev.iload_n (q := 2) ⟨dX4_countChildren_22, rfl⟩ rfl rfl ?_
      refine Ev.icmp_ne jX4_countChildren_23 (fun hc => ?_) (fun hc => ?_)
      · replace h := (if_neg hc).symm.trans h; clear hc
        obtain ⟨c2, h⟩ := ckR_s h
        refine Ev.iinc (q := 4) (ls' := [(0, _), (1, _), (3, _), (4, _), (5, _)]) ⟨dX4_countChildren_38, rfl⟩ rfl (by decide) c2 rfl ?_
        refine Ev.goto jX4_countChildren_41 ?_
        exact ih _ _ _ h k1
      · replace h := (if_pos hc).symm.trans h; clear hc
        refine Ev.lload_n (q := 1) ⟨dX4_countChildren_26, rfl⟩ rfl rfl ?_
        refine Ev.iload (q := 4) ⟨dX4_countChildren_27, rfl⟩ rfl ?_
        obtain ⟨r4, hv3, h⟩ := bnd_s h
        refine Ev.callN1 (mc1 := mc) (ms1 := ms) (v := vi r4) (h1 := hq D x) nX4_40 (c_X7_contains Θ D z _ _ _ _ hv3) rfl rfl ⟨by decide, by decide, Nat.le_of_eq (Nat.zero_add _), Nat.le_of_eq (Nat.zero_add _), Nat.le_of_ble_eq_true rfl⟩ ⟨dX4_countChildren_29, rfl⟩ ?_
        clear hv3
        refine Ev.if_eq jX4_countChildren_32 (fun hc => ?_) (fun hc => ?_)
        · replace h := (if_pos hc).symm.trans h; clear hc
          obtain ⟨c5, h⟩ := ckR_s h
          refine Ev.iinc (q := 4) (ls' := [(0, _), (1, _), (3, _), (4, _), (5, _)]) ⟨dX4_countChildren_38, rfl⟩ rfl (by decide) c5 rfl ?_
          refine Ev.goto jX4_countChildren_41 ?_
          exact ih _ _ _ h k1
        · replace h := (if_neg hc).symm.trans h; clear hc
          obtain ⟨c6, h⟩ := ckR_s h
          refine Ev.iinc (q := 3) (ls' := [(0, _), (1, _), (3, _), (4, _), (5, _)]) ⟨dX4_countChildren_35, rfl⟩ rfl (by decide) c6 rfl ?_
          obtain ⟨c7, h⟩ := ckR_s h
          refine Ev.iinc (q := 4) (ls' := [(0, _), (1, _), (3, _), (4, _), (5, _)]) ⟨dX4_countChildren_38, rfl⟩ rfl (by decide) c7 rfl ?_
          refine Ev.goto jX4_countChildren_41 ?_
          exact ih _ _ _ h k1
def F_X4_countChildren (z : Nat) (v0 : Nat) (v1 : BitVec 64) (v3 : Int) (x : Mm) : Option (Int) := (F_X4_countChildren_6 z (v0) (v1) (v3) x z ((0 : Int)) ((0 : Int))).bind fun s8 => some (s8)
set_option maxHeartbeats 4000000 in
set_option maxRecDepth 20000 in
theorem c_X4_countChildren (Θ : GC) (D : Nat → Nat → Prop) (z : Nat) (v0 : Nat) (v1 : BitVec 64) (v3 : Int) (x : Mm) (y) (h : F_X4_countChildren z v0 v1 v3 x = some y) : Cal Θ mX4_countChildren 1 22 0 0 [vr 4 (v0 + 1), vl (v1), vi (v3)] (hq D x) (Ret (vi y) (hq D x)) := by
  refine Cal.of (by decide +kernel) rfl rfl (Nat.le_of_ble_eq_true rfl) ?_
  show Ev Θ mX4_countChildren 1 22 0 0 0 [(0, vr 4 (v0 + 1)), (1, vl (v1)), (3, vi (v3))] [] (hq D x) (Ret (vi y) (hq D x))
  unfold F_X4_countChildren at h
  refine Ev.iconst ⟨dX4_countChildren_0, rfl⟩ (inRd rfl) ?_
  refine Ev.istore (i := 4) (ls' := [(0, _), (1, _), (3, _), (4, _)]) ⟨dX4_countChildren_1, rfl⟩ (by decide) rfl ?_
  refine Ev.iconst ⟨dX4_countChildren_3, rfl⟩ (inRd rfl) ?_
  refine Ev.istore (i := 5) (ls' := [(0, _), (1, _), (3, _), (4, _), (5, _)]) ⟨dX4_countChildren_4, rfl⟩ (by decide) rfl ?_
  obtain ⟨s8, hl, h⟩ := bnd_s h
  refine e_X4_countChildren_6 Θ D z _ _ _ _ _ _ _ _ _ _ _ hl ?_
  clear hl
  refine Ev.iload (q := 3) ⟨dX4_countChildren_44, rfl⟩ rfl ?_
  obtain rfl := Option.some.inj h
  exact Ev.ireturn (ty := .int) ⟨dX4_countChildren_46, rfl⟩ rfl rfl ⟨rfl, rfl⟩

def F_X4_childWith_3 (z : Nat) (v0 : Nat) (v1 : BitVec 64) (v3 : Int) (v4 : Int) (x : Mm) : Nat → Int → Option ((Unit) ⊕ (Int))
  | 0, _ => none
  | k + 1, v5 => if (x.1 4 v0 0) ≤ v5 then (some (.inl ())) else (ckI v5 60 <| if (x.1 21 v0 (v5).toNat) = v3 then (ckI v5 60 <| if (x.1 22 v0 (v5).toNat) = v4 then ((F_X7_contains z (v1) (v5) x).bind fun r6 => if r6 = 0 then (ckR ((v5 + 1)) <| F_X4_childWith_3 z v0 v1 v3 v4 x k ((v5 + 1))) else (some (.inr v5))) else (ckR ((v5 + 1)) <| F_X4_childWith_3 z v0 v1 v3 v4 x k ((v5 + 1)))) else (ckR ((v5 + 1)) <| F_X4_childWith_3 z v0 v1 v3 v4 x k ((v5 + 1))))
set_option maxHeartbeats 4000000 in
set_option maxRecDepth 20000 in
theorem e_X4_childWith_3 (Θ : GC) (D : Nat → Nat → Prop) (z : Nat) (v0 : Nat) (v1 : BitVec 64) (v3 : Int) (v4 : Int) (x : Mm) (Q : Ro → Hp → Prop) (mc ms : Nat) : ∀ (k : Nat) (v5 : Int) (y), F_X4_childWith_3 z v0 v1 v3 v4 x k v5 = some y → (∀ s, y = .inl s → Ev Θ mX4_childWith 1 22 mc ms 53 [(0, vr 4 (v0 + 1)), (1, vl (v1)), (3, vi (v3)), (4, vi (v4))] [] (hq D x) Q) → (∀ r, y = .inr r → Q (.inl (some (vi r))) (hq D x)) → Ev Θ mX4_childWith 1 22 mc ms 3 [(0, vr 4 (v0 + 1)), (1, vl (v1)), (3, vi (v3)), (4, vi (v4)), (5, vi (v5))] [] (hq D x) Q := by
  intro k
  induction k with
  | zero => intro v5 y h; exact absurd h (by unfold F_X4_childWith_3; exact nofun)
  | succ k ih =>
    intro v5 y h k1 k2
    unfold F_X4_childWith_3 at h
    refine Ev.iload (q := 4) ⟨dX4_childWith_3, rfl⟩ rfl ?_
    refine Ev.aload_n (q := 0) ⟨dX4_childWith_5, rfl⟩ rfl rfl ?_
    refine Ev.getI fX4_22 (Or.inl rfl) ⟨dX4_childWith_6, rfl⟩ ?_
    refine Ev.icmp_ge jX4_childWith_9 (fun hc => ?_) (fun hc => ?_)
    · replace h := (if_pos hc).symm.trans h; clear hc
      refine Ev.keep [0, 1, 2, 3] rfl ?_
      obtain rfl := Option.some.inj h
      exact k1 _ rfl
    · replace h := (if_neg hc).symm.trans h; clear hc
      refine Ev.aload_n (q := 0) ⟨dX4_childWith_12, rfl⟩ rfl rfl ?_
      refine Ev.getRk (C2 := 21) (r := v0) fX4_9 rfl (by decide) (by decide) ⟨dX4_childWith_13, rfl⟩ ?_
      refine Ev.iload (q := 4) ⟨dX4_childWith_16, rfl⟩ rfl ?_
      obtain ⟨c1, h⟩ := ckI_s h
      refine Ev.iaload (by decide) c1.1 c1.2 ⟨dX4_childWith_18, rfl⟩ ?_
      refine Ev.iload_n (q := 2) ⟨dX4_childWith_19, rfl⟩ rfl rfl ?_
      refine Ev.icmp_ne jX4_childWith_20 (fun hc => ?_) (fun hc => ?_)
      · replace h := (if_neg hc).symm.trans h; clear hc
        obtain ⟨c2, h⟩ := ckR_s h
        refine Ev.iinc (q := 4) (ls' := [(0, _), (1, _), (3, _), (4, _), (5, _)]) ⟨dX4_childWith_47, rfl⟩ rfl (by decide) c2 rfl ?_
        refine Ev.goto jX4_childWith_50 ?_
        exact ih _ _ h k1 k2
      · replace h := (if_pos hc).symm.trans h; clear hc
        refine Ev.aload_n (q := 0) ⟨dX4_childWith_23, rfl⟩ rfl rfl ?_
        refine Ev.getRk (C2 := 22) (r := v0) fX4_15 rfl (by decide) (by decide) ⟨dX4_childWith_24, rfl⟩ ?_
        refine Ev.iload (q := 4) ⟨dX4_childWith_27, rfl⟩ rfl ?_
        obtain ⟨c3, h⟩ := ckI_s h
        refine Ev.iaload (by decide) c3.1 c3.2 ⟨dX4_childWith_29, rfl⟩ ?_
        refine Ev.iload (q := 3) ⟨dX4_childWith_30, rfl⟩ rfl ?_
        refine Ev.icmp_ne jX4_childWith_32 (fun hc => ?_) (fun hc => ?_)
        · replace h := (if_neg hc).symm.trans h; clear hc
          obtain ⟨c4, h⟩ := ckR_s h
          refine Ev.iinc (q := 4) (ls' := [(0, _), (1, _), (3, _), (4, _), (5, _)]) ⟨dX4_childWith_47, rfl⟩ rfl (by decide) c4 rfl ?_
          refine Ev.goto jX4_childWith_50 ?_
          exact ih _ _ h k1 k2
        · replace h := (if_pos hc).symm.trans h; clear hc
          refine Ev.lload_n (q := 1) ⟨dX4_childWith_35, rfl⟩ rfl rfl ?_
          refine Ev.iload (q := 4) ⟨dX4_childWith_36, rfl⟩ rfl ?_
          obtain ⟨r6, hv5, h⟩ := bnd_s h
          refine Ev.callN1 (mc1 := mc) (ms1 := ms) (v := vi r6) (h1 := hq D x) nX4_40 (c_X7_contains Θ D z _ _ _ _ hv5) rfl rfl ⟨by decide, by decide, Nat.le_of_eq (Nat.zero_add _), Nat.le_of_eq (Nat.zero_add _), Nat.le_of_ble_eq_true rfl⟩ ⟨dX4_childWith_38, rfl⟩ ?_
          clear hv5
          refine Ev.if_eq jX4_childWith_41 (fun hc => ?_) (fun hc => ?_)
          · replace h := (if_pos hc).symm.trans h; clear hc
            obtain ⟨c7, h⟩ := ckR_s h
            refine Ev.iinc (q := 4) (ls' := [(0, _), (1, _), (3, _), (4, _), (5, _)]) ⟨dX4_childWith_47, rfl⟩ rfl (by decide) c7 rfl ?_
            refine Ev.goto jX4_childWith_50 ?_
            exact ih _ _ h k1 k2
          · replace h := (if_neg hc).symm.trans h; clear hc
            refine Ev.iload (q := 4) ⟨dX4_childWith_44, rfl⟩ rfl ?_
            obtain rfl := Option.some.inj h
            exact Ev.ireturn (ty := .int) ⟨dX4_childWith_46, rfl⟩ rfl rfl (k2 _ rfl)
def F_X4_childWith (z : Nat) (v0 : Nat) (v1 : BitVec 64) (v3 : Int) (v4 : Int) (x : Mm) : Option (Int) := bndE (fun r => r) (F_X4_childWith_3 z (v0) (v1) (v3) (v4) x z ((0 : Int))) fun s8 => some ((-1 : Int))
set_option maxHeartbeats 4000000 in
set_option maxRecDepth 20000 in
theorem c_X4_childWith (Θ : GC) (D : Nat → Nat → Prop) (z : Nat) (v0 : Nat) (v1 : BitVec 64) (v3 : Int) (v4 : Int) (x : Mm) (y) (h : F_X4_childWith z v0 v1 v3 v4 x = some y) : Cal Θ mX4_childWith 1 22 0 0 [vr 4 (v0 + 1), vl (v1), vi (v3), vi (v4)] (hq D x) (Ret (vi y) (hq D x)) := by
  refine Cal.of (by decide +kernel) rfl rfl (Nat.le_of_ble_eq_true rfl) ?_
  show Ev Θ mX4_childWith 1 22 0 0 0 [(0, vr 4 (v0 + 1)), (1, vl (v1)), (3, vi (v3)), (4, vi (v4))] [] (hq D x) (Ret (vi y) (hq D x))
  unfold F_X4_childWith at h
  refine Ev.iconst ⟨dX4_childWith_0, rfl⟩ (inRd rfl) ?_
  refine Ev.istore (i := 5) (ls' := [(0, _), (1, _), (3, _), (4, _), (5, _)]) ⟨dX4_childWith_1, rfl⟩ (by decide) rfl ?_
  rcases bndE_s h with ⟨s8, hl, h⟩ | ⟨r1, hl, rfl⟩
  rotate_left
  · exact e_X4_childWith_3 Θ D z _ _ _ _ _ _ _ _ _ _ _ hl (fun s2 e2 => by cases e2) (fun r2 e2 => by cases e2; exact ⟨rfl, rfl⟩)
  refine e_X4_childWith_3 Θ D z _ _ _ _ _ _ _ _ _ _ _ hl (fun s2 e2 => ?_) (fun r2 e2 => by cases e2)
  cases e2
  clear hl
  refine Ev.iconst ⟨dX4_childWith_53, rfl⟩ (inRd rfl) ?_
  obtain rfl := Option.some.inj h
  exact Ev.ireturn (ty := .int) ⟨dX4_childWith_54, rfl⟩ rfl rfl ⟨rfl, rfl⟩

def F_X4_nextChild_6 (z : Nat) (v0 : Nat) (v1 : BitVec 64) (v3 : Int) (v4 : Int) (x : Mm) : Nat → Int → Int → Option (Int)
  | 0, _, _ => none
  | k + 1, v5, v6 => if (x.1 4 v0 0) ≤ v6 then (some (v5)) else (ckI v6 60 <| if (x.1 21 v0 (v6).toNat) = v3 then ((F_X7_contains z (v1) (v6) x).bind fun r4 => if r4 = 0 then (ckR ((v6 + 1)) <| F_X4_nextChild_6 z v0 v1 v3 v4 x k (v5) ((v6 + 1))) else (ckI v6 60 <| if (x.1 22 v0 (v6).toNat) ≤ v4 then (ckR ((v6 + 1)) <| F_X4_nextChild_6 z v0 v1 v3 v4 x k (v5) ((v6 + 1))) else (if v5 = (-1 : Int) then (ckR ((v6 + 1)) <| F_X4_nextChild_6 z v0 v1 v3 v4 x k (v6) ((v6 + 1))) else (ckI v6 60 <| ckI v5 60 <| if (x.1 22 v0 (v5).toNat) ≤ (x.1 22 v0 (v6).toNat) then (ckR ((v6 + 1)) <| F_X4_nextChild_6 z v0 v1 v3 v4 x k (v5) ((v6 + 1))) else (ckR ((v6 + 1)) <| F_X4_nextChild_6 z v0 v1 v3 v4 x k (v6) ((v6 + 1))))))) else (ckR ((v6 + 1)) <| F_X4_nextChild_6 z v0 v1 v3 v4 x k (v5) ((v6 + 1))))
set_option maxHeartbeats 4000000 in
set_option maxRecDepth 20000 in
theorem e_X4_nextChild_6 (Θ : GC) (D : Nat → Nat → Prop) (z : Nat) (v0 : Nat) (v1 : BitVec 64) (v3 : Int) (v4 : Int) (x : Mm) (Q : Ro → Hp → Prop) (mc ms : Nat) : ∀ (k : Nat) (v5 : Int) (v6 : Int) (y), F_X4_nextChild_6 z v0 v1 v3 v4 x k v5 v6 = some y → (Ev Θ mX4_nextChild 1 22 mc ms 80 [(0, vr 4 (v0 + 1)), (1, vl (v1)), (3, vi (v3)), (4, vi (v4)), (5, vi (y))] [] (hq D x) Q) → Ev Θ mX4_nextChild 1 22 mc ms 6 [(0, vr 4 (v0 + 1)), (1, vl (v1)), (3, vi (v3)), (4, vi (v4)), (5, vi (v5)), (6, vi (v6))] [] (hq D x) Q := by
  intro k
  induction k with
  | zero => intro v5 v6 y h; exact absurd h (by unfold F_X4_nextChild_6; exact nofun)
  | succ k ih =>
    intro v5 v6 y h k1
    unfold F_X4_nextChild_6 at h
    refine Ev.iload (q := 5) ⟨dX4_nextChild_6, rfl⟩ rfl ?_
    refine Ev.aload_n (q := 0) ⟨dX4_nextChild_8, rfl⟩ rfl rfl ?_
    refine Ev.getI fX4_22 (Or.inl rfl) ⟨dX4_nextChild_9, rfl⟩ ?_
    refine Ev.icmp_ge jX4_nextChild_12 (fun hc => ?_) (fun hc => ?_)
    · replace h := (if_pos hc).symm.trans h; clear hc
      refine Ev.keep [0, 1, 2, 3, 4] rfl ?_
      obtain rfl := Option.some.inj h
      exact k1
    · replace h := (if_neg hc).symm.trans h; clear hc
      refine Ev.aload_n (q := 0) ⟨dX4_nextChild_15, rfl⟩ rfl rfl ?_
      refine Ev.getRk (C2 := 21) (r := v0) fX4_9 rfl (by decide) (by decide) ⟨dX4_nextChild_16, rfl⟩ ?_
      refine Ev.iload (q := 5) ⟨dX4_nextChild_19, rfl⟩ rfl ?_
      obtain ⟨c1, h⟩ := ckI_s h
      refine Ev.iaload (by decide) c1.1 c1.2 ⟨dX4_nextChild_21, rfl⟩ ?_
      refine Ev.iload_n (q := 2) ⟨dX4_nextChild_22, rfl⟩ rfl rfl ?_
      refine Ev.icmp_ne jX4_nextChild_23 (fun hc => ?_) (fun hc => ?_)
      · replace h := (if_neg hc).symm.trans h; clear hc
        obtain ⟨c2, h⟩ := ckR_s h
        refine Ev.iinc (q := 5) (ls' := [(0, _), (1, _), (3, _), (4, _), (5, _), (6, _)]) ⟨dX4_nextChild_74, rfl⟩ rfl (by decide) c2 rfl ?_
        refine Ev.goto jX4_nextChild_77 ?_
        exact ih _ _ _ h k1
      · replace h := (if_pos hc).symm.trans h; clear hc
        refine Ev.lload_n (q := 1) ⟨dX4_nextChild_26, rfl⟩ rfl rfl ?_
        refine Ev.iload (q := 5) ⟨dX4_nextChild_27, rfl⟩ rfl ?_
        obtain ⟨r4, hv3, h⟩ := bnd_s h
        refine Ev.callN1 (mc1 := mc) (ms1 := ms) (v := vi r4) (h1 := hq D x) nX4_40 (c_X7_contains Θ D z _ _ _ _ hv3) rfl rfl ⟨by decide, by decide, Nat.le_of_eq (Nat.zero_add _), Nat.le_of_eq (Nat.zero_add _), Nat.le_of_ble_eq_true rfl⟩ ⟨dX4_nextChild_29, rfl⟩ ?_
        clear hv3
        refine Ev.if_eq jX4_nextChild_32 (fun hc => ?_) (fun hc => ?_)
        · replace h := (if_pos hc).symm.trans h; clear hc
          obtain ⟨c5, h⟩ := ckR_s h
          refine Ev.iinc (q := 5) (ls' := [(0, _), (1, _), (3, _), (4, _), (5, _), (6, _)]) ⟨dX4_nextChild_74, rfl⟩ rfl (by decide) c5 rfl ?_
          refine Ev.goto jX4_nextChild_77 ?_
          exact ih _ _ _ h k1
        · replace h := (if_neg hc).symm.trans h; clear hc
          refine Ev.aload_n (q := 0) ⟨dX4_nextChild_35, rfl⟩ rfl rfl ?_
          refine Ev.getRk (C2 := 22) (r := v0) fX4_15 rfl (by decide) (by decide) ⟨dX4_nextChild_36, rfl⟩ ?_
          refine Ev.iload (q := 5) ⟨dX4_nextChild_39, rfl⟩ rfl ?_
          obtain ⟨c6, h⟩ := ckI_s h
          refine Ev.iaload (by decide) c6.1 c6.2 ⟨dX4_nextChild_41, rfl⟩ ?_
          refine Ev.iload (q := 3) ⟨dX4_nextChild_42, rfl⟩ rfl ?_
          refine Ev.icmp_le jX4_nextChild_44 (fun hc => ?_) (fun hc => ?_)
          · replace h := (if_pos hc).symm.trans h; clear hc
            obtain ⟨c7, h⟩ := ckR_s h
            refine Ev.iinc (q := 5) (ls' := [(0, _), (1, _), (3, _), (4, _), (5, _), (6, _)]) ⟨dX4_nextChild_74, rfl⟩ rfl (by decide) c7 rfl ?_
            refine Ev.goto jX4_nextChild_77 ?_
            exact ih _ _ _ h k1
          · replace h := (if_neg hc).symm.trans h; clear hc
            refine Ev.iload (q := 4) ⟨dX4_nextChild_47, rfl⟩ rfl ?_
            refine Ev.iconst ⟨dX4_nextChild_49, rfl⟩ (inRd rfl) ?_
            refine Ev.icmp_eq jX4_nextChild_50 (fun hc => ?_) (fun hc => ?_)
            · replace h := (if_pos hc).symm.trans h; clear hc
              refine Ev.iload (q := 5) ⟨dX4_nextChild_70, rfl⟩ rfl ?_
              refine Ev.istore (i := 5) (ls' := [(0, _), (1, _), (3, _), (4, _), (5, _), (6, _)]) ⟨dX4_nextChild_72, rfl⟩ (by decide) rfl ?_
              obtain ⟨c8, h⟩ := ckR_s h
              refine Ev.iinc (q := 5) (ls' := [(0, _), (1, _), (3, _), (4, _), (5, _), (6, _)]) ⟨dX4_nextChild_74, rfl⟩ rfl (by decide) c8 rfl ?_
              refine Ev.goto jX4_nextChild_77 ?_
              exact ih _ _ _ h k1
            · replace h := (if_neg hc).symm.trans h; clear hc
              refine Ev.aload_n (q := 0) ⟨dX4_nextChild_53, rfl⟩ rfl rfl ?_
              refine Ev.getRk (C2 := 22) (r := v0) fX4_15 rfl (by decide) (by decide) ⟨dX4_nextChild_54, rfl⟩ ?_
              refine Ev.iload (q := 5) ⟨dX4_nextChild_57, rfl⟩ rfl ?_
              obtain ⟨c9, h⟩ := ckI_s h
              refine Ev.iaload (by decide) c9.1 c9.2 ⟨dX4_nextChild_59, rfl⟩ ?_
              refine Ev.aload_n (q := 0) ⟨dX4_nextChild_60, rfl⟩ rfl rfl ?_
              refine Ev.getRk (C2 := 22) (r := v0) fX4_15 rfl (by decide) (by decide) ⟨dX4_nextChild_61, rfl⟩ ?_
              refine Ev.iload (q := 4) ⟨dX4_nextChild_64, rfl⟩ rfl ?_
              obtain ⟨c10, h⟩ := ckI_s h
              refine Ev.iaload (by decide) c10.1 c10.2 ⟨dX4_nextChild_66, rfl⟩ ?_
              refine Ev.icmp_ge jX4_nextChild_67 (fun hc => ?_) (fun hc => ?_)
              · replace h := (if_pos hc).symm.trans h; clear hc
                obtain ⟨c11, h⟩ := ckR_s h
                refine Ev.iinc (q := 5) (ls' := [(0, _), (1, _), (3, _), (4, _), (5, _), (6, _)]) ⟨dX4_nextChild_74, rfl⟩ rfl (by decide) c11 rfl ?_
                refine Ev.goto jX4_nextChild_77 ?_
                exact ih _ _ _ h k1
              · replace h := (if_neg hc).symm.trans h; clear hc
                refine Ev.iload (q := 5) ⟨dX4_nextChild_70, rfl⟩ rfl ?_
                refine Ev.istore (i := 5) (ls' := [(0, _), (1, _), (3, _), (4, _), (5, _), (6, _)]) ⟨dX4_nextChild_72, rfl⟩ (by decide) rfl ?_
                obtain ⟨c12, h⟩ := ckR_s h
                refine Ev.iinc (q := 5) (ls' := [(0, _), (1, _), (3, _), (4, _), (5, _), (6, _)]) ⟨dX4_nextChild_74, rfl⟩ rfl (by decide) c12 rfl ?_
                refine Ev.goto jX4_nextChild_77 ?_
                exact ih _ _ _ h k1
def F_X4_nextChild (z : Nat) (v0 : Nat) (v1 : BitVec 64) (v3 : Int) (v4 : Int) (x : Mm) : Option (Int) := (F_X4_nextChild_6 z (v0) (v1) (v3) (v4) x z ((-1 : Int)) ((0 : Int))).bind fun s13 => some (s13)
set_option maxHeartbeats 4000000 in
set_option maxRecDepth 20000 in
theorem c_X4_nextChild (Θ : GC) (D : Nat → Nat → Prop) (z : Nat) (v0 : Nat) (v1 : BitVec 64) (v3 : Int) (v4 : Int) (x : Mm) (y) (h : F_X4_nextChild z v0 v1 v3 v4 x = some y) : Cal Θ mX4_nextChild 1 22 0 0 [vr 4 (v0 + 1), vl (v1), vi (v3), vi (v4)] (hq D x) (Ret (vi y) (hq D x)) := by
  refine Cal.of (by decide +kernel) rfl rfl (Nat.le_of_ble_eq_true rfl) ?_
  show Ev Θ mX4_nextChild 1 22 0 0 0 [(0, vr 4 (v0 + 1)), (1, vl (v1)), (3, vi (v3)), (4, vi (v4))] [] (hq D x) (Ret (vi y) (hq D x))
  unfold F_X4_nextChild at h
  refine Ev.iconst ⟨dX4_nextChild_0, rfl⟩ (inRd rfl) ?_
  refine Ev.istore (i := 5) (ls' := [(0, _), (1, _), (3, _), (4, _), (5, _)]) ⟨dX4_nextChild_1, rfl⟩ (by decide) rfl ?_
  refine Ev.iconst ⟨dX4_nextChild_3, rfl⟩ (inRd rfl) ?_
  refine Ev.istore (i := 6) (ls' := [(0, _), (1, _), (3, _), (4, _), (5, _), (6, _)]) ⟨dX4_nextChild_4, rfl⟩ (by decide) rfl ?_
  obtain ⟨s13, hl, h⟩ := bnd_s h
  refine e_X4_nextChild_6 Θ D z _ _ _ _ _ _ _ _ _ _ _ _ hl ?_
  clear hl
  refine Ev.iload (q := 4) ⟨dX4_nextChild_80, rfl⟩ rfl ?_
  obtain rfl := Option.some.inj h
  exact Ev.ireturn (ty := .int) ⟨dX4_nextChild_82, rfl⟩ rfl rfl ⟨rfl, rfl⟩

def F_X7_requireClient (z : Nat) (v0 : Nat) (v1 : Int) (x : Mm) : Option ((Unit ⊕ String) × Mm) := if v1 < 0 then (some (.inr "java/lang/IndexOutOfBoundsException", x)) else (if v1 < (x.1 6 0 2) then (some ((.inl (), x))) else (some (.inr "java/lang/IndexOutOfBoundsException", x)))
set_option maxHeartbeats 4000000 in
set_option maxRecDepth 20000 in
theorem c_X7_requireClient (Θ : GC) (D : Nat → Nat → Prop) (z : Nat) (v0 : Nat) (v1 : Int) (x : Mm) (y) (h : F_X7_requireClient z v0 v1 x = some y) : Cal Θ mX7_requireClient 6 90 1 6 [vr 7 (v0 + 1), vi (v1)] (hq D x) (ThrU D y) := by
  refine Cal.of (by decide +kernel) rfl rfl (Nat.le_of_ble_eq_true rfl) ?_
  show Ev Θ mX7_requireClient 6 90 1 6 0 [(0, vr 7 (v0 + 1)), (1, vi (v1))] [] (hq D x) (ThrU D y)
  unfold F_X7_requireClient at h
  refine Ev.iload_n (q := 1) ⟨dX7_requireClient_0, rfl⟩ rfl rfl ?_
  refine Ev.if_lt jX7_requireClient_1 (fun hc => ?_) (fun hc => ?_)
  · replace h := (if_pos hc).symm.trans h; clear hc
    obtain rfl := Option.some.inj h
    exact Ev.throwSW eX7_IndexOutOfBoundsException tX7_348 rfl dX7_requireClient_15 dX7_requireClient_18 dX7_requireClient_19 dX7_requireClient_22 dX7_requireClient_25 (by decide) (Nat.le_of_ble_eq_true rfl) (by decide) (by decide) ⟨rfl, rfl⟩
  · replace h := (if_neg hc).symm.trans h; clear hc
    refine Ev.iload_n (q := 1) ⟨dX7_requireClient_4, rfl⟩ rfl rfl ?_
    refine Ev.aload_n (q := 0) ⟨dX7_requireClient_5, rfl⟩ rfl rfl ?_
    refine Ev.getRk (C2 := 6) (r := 0) fX7_10 rfl (by decide) (by decide) ⟨dX7_requireClient_6, rfl⟩ ?_
    refine Ev.getI fX7_267 (Or.inl rfl) ⟨dX7_requireClient_9, rfl⟩ ?_
    refine Ev.icmp_lt jX7_requireClient_12 (fun hc => ?_) (fun hc => ?_)
    · replace h := (if_pos hc).symm.trans h; clear hc
      obtain rfl := Option.some.inj h
      exact Ev.ret ⟨dX7_requireClient_26, rfl⟩ rfl ⟨rfl, rfl⟩
    · replace h := (if_neg hc).symm.trans h; clear hc
      obtain rfl := Option.some.inj h
      exact Ev.throwSW eX7_IndexOutOfBoundsException tX7_348 rfl dX7_requireClient_15 dX7_requireClient_18 dX7_requireClient_19 dX7_requireClient_22 dX7_requireClient_25 (by decide) (Nat.le_of_ble_eq_true rfl) (by decide) (by decide) ⟨rfl, rfl⟩

def F_X1_add (z : Nat) (v0 : Nat) (v1 : Int) (v2 : Int) (v3 : Int) (v4 : Int) (v5 : Int) (v6 : Int) (x : Mm) : Option (Mm) := if (x.1 1 v0 0) < (40 : Int) then (ckR (((x.1 1 v0 0) * (6 : Int))) <| ckR ((((x.1 1 v0 0) * (6 : Int)) + (0 : Int))) <| ckI (((x.1 1 v0 0) * (6 : Int)) + (0 : Int)) 240 <| (some (wI x 24 v0 ((((x.1 1 v0 0) * (6 : Int)) + (0 : Int))).toNat (v1))).bind fun x4 => ckR ((((x.1 1 v0 0) * (6 : Int)) + (1 : Int))) <| ckI (((x.1 1 v0 0) * (6 : Int)) + (1 : Int)) 240 <| (some (wI x4 24 v0 ((((x.1 1 v0 0) * (6 : Int)) + (1 : Int))).toNat (v2))).bind fun x7 => ckR ((((x.1 1 v0 0) * (6 : Int)) + (2 : Int))) <| ckI (((x.1 1 v0 0) * (6 : Int)) + (2 : Int)) 240 <| (some (wI x7 24 v0 ((((x.1 1 v0 0) * (6 : Int)) + (2 : Int))).toNat (v3))).bind fun x10 => ckR ((((x.1 1 v0 0) * (6 : Int)) + (3 : Int))) <| ckI (((x.1 1 v0 0) * (6 : Int)) + (3 : Int)) 240 <| (some (wI x10 24 v0 ((((x.1 1 v0 0) * (6 : Int)) + (3 : Int))).toNat (v4))).bind fun x13 => ckR ((((x.1 1 v0 0) * (6 : Int)) + (4 : Int))) <| ckI (((x.1 1 v0 0) * (6 : Int)) + (4 : Int)) 240 <| (some (wI x13 24 v0 ((((x.1 1 v0 0) * (6 : Int)) + (4 : Int))).toNat (v5))).bind fun x16 => ckR ((((x.1 1 v0 0) * (6 : Int)) + (5 : Int))) <| ckI (((x.1 1 v0 0) * (6 : Int)) + (5 : Int)) 240 <| (some (wI x16 24 v0 ((((x.1 1 v0 0) * (6 : Int)) + (5 : Int))).toNat (v6))).bind fun x19 => ckR (((x19.1 1 v0 0) + (1 : Int))) <| (some (wI x19 1 v0 0 (((x19.1 1 v0 0) + (1 : Int))))).bind fun x21 => some (x21)) else (ckC (6 : Int) (0 : Int) ((240 : Int) - (6 : Int)) 240 <| (some (wC x 24 v0 ((6 : Int)).toNat v0 ((0 : Int)).toNat (((240 : Int) - (6 : Int))).toNat)).bind fun x23 => ckR (((x23.1 1 v0 0) - (1 : Int))) <| (some (wI x23 1 v0 0 (((x23.1 1 v0 0) - (1 : Int))))).bind fun x25 => ckR (((x25.1 1 v0 0) * (6 : Int))) <| ckR ((((x25.1 1 v0 0) * (6 : Int)) + (0 : Int))) <| ckI (((x25.1 1 v0 0) * (6 : Int)) + (0 : Int)) 240 <| (some (wI x25 24 v0 ((((x25.1 1 v0 0) * (6 : Int)) + (0 : Int))).toNat (v1))).bind fun x29 => ckR ((((x25.1 1 v0 0) * (6 : Int)) + (1 : Int))) <| ckI (((x25.1 1 v0 0) * (6 : Int)) + (1 : Int)) 240 <| (some (wI x29 24 v0 ((((x25.1 1 v0 0) * (6 : Int)) + (1 : Int))).toNat (v2))).bind fun x32 => ckR ((((x25.1 1 v0 0) * (6 : Int)) + (2 : Int))) <| ckI (((x25.1 1 v0 0) * (6 : Int)) + (2 : Int)) 240 <| (some (wI x32 24 v0 ((((x25.1 1 v0 0) * (6 : Int)) + (2 : Int))).toNat (v3))).bind fun x35 => ckR ((((x25.1 1 v0 0) * (6 : Int)) + (3 : Int))) <| ckI (((x25.1 1 v0 0) * (6 : Int)) + (3 : Int)) 240 <| (some (wI x35 24 v0 ((((x25.1 1 v0 0) * (6 : Int)) + (3 : Int))).toNat (v4))).bind fun x38 => ckR ((((x25.1 1 v0 0) * (6 : Int)) + (4 : Int))) <| ckI (((x25.1 1 v0 0) * (6 : Int)) + (4 : Int)) 240 <| (some (wI x38 24 v0 ((((x25.1 1 v0 0) * (6 : Int)) + (4 : Int))).toNat (v5))).bind fun x41 => ckR ((((x25.1 1 v0 0) * (6 : Int)) + (5 : Int))) <| ckI (((x25.1 1 v0 0) * (6 : Int)) + (5 : Int)) 240 <| (some (wI x41 24 v0 ((((x25.1 1 v0 0) * (6 : Int)) + (5 : Int))).toNat (v6))).bind fun x44 => ckR (((x44.1 1 v0 0) + (1 : Int))) <| (some (wI x44 1 v0 0 (((x44.1 1 v0 0) + (1 : Int))))).bind fun x46 => some (x46))
set_option maxHeartbeats 4000000 in
set_option maxRecDepth 20000 in
theorem c_X1_add (Θ : GC) (D : Nat → Nat → Prop) (z : Nat) (v0 : Nat) (v1 : Int) (v2 : Int) (v3 : Int) (v4 : Int) (v5 : Int) (v6 : Int) (x : Mm) (y) (h : F_X1_add z v0 v1 v2 v3 v4 v5 v6 x = some y) : Cal Θ mX1_add 1 26 0 0 [vr 1 (v0 + 1), vi (v1), vi (v2), vi (v3), vi (v4), vi (v5), vi (v6)] (hq D x) (RetN (hq D y)) := by
  refine Cal.of (by decide +kernel) rfl rfl (Nat.le_of_ble_eq_true rfl) ?_
  show Ev Θ mX1_add 1 26 0 0 0 [(0, vr 1 (v0 + 1)), (1, vi (v1)), (2, vi (v2)), (3, vi (v3)), (4, vi (v4)), (5, vi (v5)), (6, vi (v6))] [] (hq D x) (RetN (hq D y))
  unfold F_X1_add at h
  refine Ev.aload_n (q := 0) ⟨dX1_add_0, rfl⟩ rfl rfl ?_
  refine Ev.getI fX1_15 (Or.inl rfl) ⟨dX1_add_1, rfl⟩ ?_
  refine Ev.bipush ⟨dX1_add_4, rfl⟩ (inRd rfl) (by decide) ?_
  refine Ev.icmp_lt jX1_add_6 (fun hc => ?_) (fun hc => ?_)
  · replace h := (if_pos hc).symm.trans h; clear hc
    refine Ev.aload_n (q := 0) ⟨dX1_add_41, rfl⟩ rfl rfl ?_
    refine Ev.getI fX1_15 (Or.inl rfl) ⟨dX1_add_42, rfl⟩ ?_
    refine Ev.bipush ⟨dX1_add_45, rfl⟩ (inRd rfl) (by decide) ?_
    obtain ⟨c1, h⟩ := ckR_s h
    refine Ev.imul ⟨dX1_add_47, rfl⟩ c1 ?_
    refine Ev.istore (i := 7) (ls' := [(0, _), (1, _), (2, _), (3, _), (4, _), (5, _), (6, _), (7, _)]) ⟨dX1_add_48, rfl⟩ (by decide) rfl ?_
    refine Ev.aload_n (q := 0) ⟨dX1_add_50, rfl⟩ rfl rfl ?_
    refine Ev.getRk (C2 := 24) (r := v0) fX1_9 rfl (by decide) (by decide) ⟨dX1_add_51, rfl⟩ ?_
    refine Ev.iload (q := 7) ⟨dX1_add_54, rfl⟩ rfl ?_
    refine Ev.iconst ⟨dX1_add_56, rfl⟩ (inRd rfl) ?_
    obtain ⟨c2, h⟩ := ckR_s h
    refine Ev.iadd ⟨dX1_add_57, rfl⟩ c2 ?_
    refine Ev.iload_n (q := 1) ⟨dX1_add_58, rfl⟩ rfl rfl ?_
    obtain ⟨c3, h⟩ := ckI_s h
    obtain ⟨x4, ex, h⟩ := bnd_s h
    refine Ev.iastore (by decide) c3.1 c3.2 ⟨dX1_add_59, rfl⟩ ?_
    refine Ev.cast ?_ rfl rfl (hqI ex)
    clear ex
    refine Ev.aload_n (q := 0) ⟨dX1_add_60, rfl⟩ rfl rfl ?_
    refine Ev.getRk (C2 := 24) (r := v0) fX1_9 rfl (by decide) (by decide) ⟨dX1_add_61, rfl⟩ ?_
    refine Ev.iload (q := 7) ⟨dX1_add_64, rfl⟩ rfl ?_
    refine Ev.iconst ⟨dX1_add_66, rfl⟩ (inRd rfl) ?_
    obtain ⟨c5, h⟩ := ckR_s h
    refine Ev.iadd ⟨dX1_add_67, rfl⟩ c5 ?_
    refine Ev.iload_n (q := 2) ⟨dX1_add_68, rfl⟩ rfl rfl ?_
    obtain ⟨c6, h⟩ := ckI_s h
    obtain ⟨x7, ex, h⟩ := bnd_s h
    refine Ev.iastore (by decide) c6.1 c6.2 ⟨dX1_add_69, rfl⟩ ?_
    refine Ev.cast ?_ rfl rfl (hqI ex)
    clear ex
    refine Ev.aload_n (q := 0) ⟨dX1_add_70, rfl⟩ rfl rfl ?_
    refine Ev.getRk (C2 := 24) (r := v0) fX1_9 rfl (by decide) (by decide) ⟨dX1_add_71, rfl⟩ ?_
    refine Ev.iload (q := 7) ⟨dX1_add_74, rfl⟩ rfl ?_
    refine Ev.iconst ⟨dX1_add_76, rfl⟩ (inRd rfl) ?_
    obtain ⟨c8, h⟩ := ckR_s h
    refine Ev.iadd ⟨dX1_add_77, rfl⟩ c8 ?_
    refine Ev.iload_n (q := 3) ⟨dX1_add_78, rfl⟩ rfl rfl ?_
    obtain ⟨c9, h⟩ := ckI_s h
    obtain ⟨x10, ex, h⟩ := bnd_s h
    refine Ev.iastore (by decide) c9.1 c9.2 ⟨dX1_add_79, rfl⟩ ?_
    refine Ev.cast ?_ rfl rfl (hqI ex)
    clear ex
    refine Ev.aload_n (q := 0) ⟨dX1_add_80, rfl⟩ rfl rfl ?_
    refine Ev.getRk (C2 := 24) (r := v0) fX1_9 rfl (by decide) (by decide) ⟨dX1_add_81, rfl⟩ ?_
    refine Ev.iload (q := 7) ⟨dX1_add_84, rfl⟩ rfl ?_
    refine Ev.iconst ⟨dX1_add_86, rfl⟩ (inRd rfl) ?_
    obtain ⟨c11, h⟩ := ckR_s h
    refine Ev.iadd ⟨dX1_add_87, rfl⟩ c11 ?_
    refine Ev.iload (q := 4) ⟨dX1_add_88, rfl⟩ rfl ?_
    obtain ⟨c12, h⟩ := ckI_s h
    obtain ⟨x13, ex, h⟩ := bnd_s h
    refine Ev.iastore (by decide) c12.1 c12.2 ⟨dX1_add_90, rfl⟩ ?_
    refine Ev.cast ?_ rfl rfl (hqI ex)
    clear ex
    refine Ev.aload_n (q := 0) ⟨dX1_add_91, rfl⟩ rfl rfl ?_
    refine Ev.getRk (C2 := 24) (r := v0) fX1_9 rfl (by decide) (by decide) ⟨dX1_add_92, rfl⟩ ?_
    refine Ev.iload (q := 7) ⟨dX1_add_95, rfl⟩ rfl ?_
    refine Ev.iconst ⟨dX1_add_97, rfl⟩ (inRd rfl) ?_
    obtain ⟨c14, h⟩ := ckR_s h
    refine Ev.iadd ⟨dX1_add_98, rfl⟩ c14 ?_
    refine Ev.iload (q := 5) ⟨dX1_add_99, rfl⟩ rfl ?_
    obtain ⟨c15, h⟩ := ckI_s h
    obtain ⟨x16, ex, h⟩ := bnd_s h
    refine Ev.iastore (by decide) c15.1 c15.2 ⟨dX1_add_101, rfl⟩ ?_
    refine Ev.cast ?_ rfl rfl (hqI ex)
    clear ex
    refine Ev.aload_n (q := 0) ⟨dX1_add_102, rfl⟩ rfl rfl ?_
    refine Ev.getRk (C2 := 24) (r := v0) fX1_9 rfl (by decide) (by decide) ⟨dX1_add_103, rfl⟩ ?_
    refine Ev.iload (q := 7) ⟨dX1_add_106, rfl⟩ rfl ?_
    refine Ev.iconst ⟨dX1_add_108, rfl⟩ (inRd rfl) ?_
    obtain ⟨c17, h⟩ := ckR_s h
    refine Ev.iadd ⟨dX1_add_109, rfl⟩ c17 ?_
    refine Ev.iload (q := 6) ⟨dX1_add_110, rfl⟩ rfl ?_
    obtain ⟨c18, h⟩ := ckI_s h
    obtain ⟨x19, ex, h⟩ := bnd_s h
    refine Ev.iastore (by decide) c18.1 c18.2 ⟨dX1_add_112, rfl⟩ ?_
    refine Ev.cast ?_ rfl rfl (hqI ex)
    clear ex
    refine Ev.aload_n (q := 0) ⟨dX1_add_113, rfl⟩ rfl rfl ?_
    refine Ev.dup ⟨dX1_add_114, rfl⟩ rfl ?_
    refine Ev.getI fX1_15 (Or.inl rfl) ⟨dX1_add_115, rfl⟩ ?_
    refine Ev.iconst ⟨dX1_add_118, rfl⟩ (inRd rfl) ?_
    obtain ⟨c20, h⟩ := ckR_s h
    refine Ev.iadd ⟨dX1_add_119, rfl⟩ c20 ?_
    obtain ⟨x21, ex, h⟩ := bnd_s h
    refine Ev.putI fX1_15 ⟨dX1_add_120, rfl⟩ ?_
    refine Ev.cast ?_ rfl rfl (hqI ex)
    clear ex
    obtain rfl := Option.some.inj h
    exact Ev.ret ⟨dX1_add_123, rfl⟩ rfl ⟨rfl, rfl⟩
  · replace h := (if_neg hc).symm.trans h; clear hc
    refine Ev.aload_n (q := 0) ⟨dX1_add_9, rfl⟩ rfl rfl ?_
    refine Ev.getRk (C2 := 24) (r := v0) fX1_9 rfl (by decide) (by decide) ⟨dX1_add_10, rfl⟩ ?_
    refine Ev.bipush ⟨dX1_add_13, rfl⟩ (inRd rfl) (by decide) ?_
    refine Ev.aload_n (q := 0) ⟨dX1_add_15, rfl⟩ rfl rfl ?_
    refine Ev.getRk (C2 := 24) (r := v0) fX1_9 rfl (by decide) (by decide) ⟨dX1_add_16, rfl⟩ ?_
    refine Ev.iconst ⟨dX1_add_19, rfl⟩ (inRd rfl) ?_
    refine Ev.aload_n (q := 0) ⟨dX1_add_20, rfl⟩ rfl rfl ?_
    refine Ev.getRk (C2 := 24) (r := v0) fX1_9 rfl (by decide) (by decide) ⟨dX1_add_21, rfl⟩ ?_
    refine Ev.alen (by decide) ⟨dX1_add_24, rfl⟩ ?_
    refine Ev.bipush ⟨dX1_add_25, rfl⟩ (inRd rfl) (by decide) ?_
    refine Ev.isub ⟨dX1_add_27, rfl⟩ (inRd rfl) ?_
    obtain ⟨c22, h⟩ := ckC_s h
    obtain ⟨x23, ex, h⟩ := bnd_s h
    refine Ev.copyI (by decide) (by decide) aX1_19 c22.1 c22.2.1 c22.2.2.1 c22.2.2.2.1 c22.2.2.2.2 (by decide) (Nat.le_of_ble_eq_true rfl) ⟨dX1_add_28, rfl⟩ ?_
    refine Ev.cast ?_ rfl rfl (hqC ex)
    clear ex
    refine Ev.aload_n (q := 0) ⟨dX1_add_31, rfl⟩ rfl rfl ?_
    refine Ev.dup ⟨dX1_add_32, rfl⟩ rfl ?_
    refine Ev.getI fX1_15 (Or.inl rfl) ⟨dX1_add_33, rfl⟩ ?_
    refine Ev.iconst ⟨dX1_add_36, rfl⟩ (inRd rfl) ?_
    obtain ⟨c24, h⟩ := ckR_s h
    refine Ev.isub ⟨dX1_add_37, rfl⟩ c24 ?_
    obtain ⟨x25, ex, h⟩ := bnd_s h
    refine Ev.putI fX1_15 ⟨dX1_add_38, rfl⟩ ?_
    refine Ev.cast ?_ rfl rfl (hqI ex)
    clear ex
    refine Ev.aload_n (q := 0) ⟨dX1_add_41, rfl⟩ rfl rfl ?_
    refine Ev.getI fX1_15 (Or.inl rfl) ⟨dX1_add_42, rfl⟩ ?_
    refine Ev.bipush ⟨dX1_add_45, rfl⟩ (inRd rfl) (by decide) ?_
    obtain ⟨c26, h⟩ := ckR_s h
    refine Ev.imul ⟨dX1_add_47, rfl⟩ c26 ?_
    refine Ev.istore (i := 7) (ls' := [(0, _), (1, _), (2, _), (3, _), (4, _), (5, _), (6, _), (7, _)]) ⟨dX1_add_48, rfl⟩ (by decide) rfl ?_
    refine Ev.aload_n (q := 0) ⟨dX1_add_50, rfl⟩ rfl rfl ?_
    refine Ev.getRk (C2 := 24) (r := v0) fX1_9 rfl (by decide) (by decide) ⟨dX1_add_51, rfl⟩ ?_
    refine Ev.iload (q := 7) ⟨dX1_add_54, rfl⟩ rfl ?_
    refine Ev.iconst ⟨dX1_add_56, rfl⟩ (inRd rfl) ?_
    obtain ⟨c27, h⟩ := ckR_s h
    refine Ev.iadd ⟨dX1_add_57, rfl⟩ c27 ?_
    refine Ev.iload_n (q := 1) ⟨dX1_add_58, rfl⟩ rfl rfl ?_
    obtain ⟨c28, h⟩ := ckI_s h
    obtain ⟨x29, ex, h⟩ := bnd_s h
    refine Ev.iastore (by decide) c28.1 c28.2 ⟨dX1_add_59, rfl⟩ ?_
    refine Ev.cast ?_ rfl rfl (hqI ex)
    clear ex
    refine Ev.aload_n (q := 0) ⟨dX1_add_60, rfl⟩ rfl rfl ?_
    refine Ev.getRk (C2 := 24) (r := v0) fX1_9 rfl (by decide) (by decide) ⟨dX1_add_61, rfl⟩ ?_
    refine Ev.iload (q := 7) ⟨dX1_add_64, rfl⟩ rfl ?_
    refine Ev.iconst ⟨dX1_add_66, rfl⟩ (inRd rfl) ?_
    obtain ⟨c30, h⟩ := ckR_s h
    refine Ev.iadd ⟨dX1_add_67, rfl⟩ c30 ?_
    refine Ev.iload_n (q := 2) ⟨dX1_add_68, rfl⟩ rfl rfl ?_
    obtain ⟨c31, h⟩ := ckI_s h
    obtain ⟨x32, ex, h⟩ := bnd_s h
    refine Ev.iastore (by decide) c31.1 c31.2 ⟨dX1_add_69, rfl⟩ ?_
    refine Ev.cast ?_ rfl rfl (hqI ex)
    clear ex
    refine Ev.aload_n (q := 0) ⟨dX1_add_70, rfl⟩ rfl rfl ?_
    refine Ev.getRk (C2 := 24) (r := v0) fX1_9 rfl (by decide) (by decide) ⟨dX1_add_71, rfl⟩ ?_
    refine Ev.iload (q := 7) ⟨dX1_add_74, rfl⟩ rfl ?_
    refine Ev.iconst ⟨dX1_add_76, rfl⟩ (inRd rfl) ?_
    obtain ⟨c33, h⟩ := ckR_s h
    refine Ev.iadd ⟨dX1_add_77, rfl⟩ c33 ?_
    refine Ev.iload_n (q := 3) ⟨dX1_add_78, rfl⟩ rfl rfl ?_
    obtain ⟨c34, h⟩ := ckI_s h
    obtain ⟨x35, ex, h⟩ := bnd_s h
    refine Ev.iastore (by decide) c34.1 c34.2 ⟨dX1_add_79, rfl⟩ ?_
    refine Ev.cast ?_ rfl rfl (hqI ex)
    clear ex
    refine Ev.aload_n (q := 0) ⟨dX1_add_80, rfl⟩ rfl rfl ?_
    refine Ev.getRk (C2 := 24) (r := v0) fX1_9 rfl (by decide) (by decide) ⟨dX1_add_81, rfl⟩ ?_
    refine Ev.iload (q := 7) ⟨dX1_add_84, rfl⟩ rfl ?_
    refine Ev.iconst ⟨dX1_add_86, rfl⟩ (inRd rfl) ?_
    obtain ⟨c36, h⟩ := ckR_s h
    refine Ev.iadd ⟨dX1_add_87, rfl⟩ c36 ?_
    refine Ev.iload (q := 4) ⟨dX1_add_88, rfl⟩ rfl ?_
    obtain ⟨c37, h⟩ := ckI_s h
    obtain ⟨x38, ex, h⟩ := bnd_s h
    refine Ev.iastore (by decide) c37.1 c37.2 ⟨dX1_add_90, rfl⟩ ?_
    refine Ev.cast ?_ rfl rfl (hqI ex)
    clear ex
    refine Ev.aload_n (q := 0) ⟨dX1_add_91, rfl⟩ rfl rfl ?_
    refine Ev.getRk (C2 := 24) (r := v0) fX1_9 rfl (by decide) (by decide) ⟨dX1_add_92, rfl⟩ ?_
    refine Ev.iload (q := 7) ⟨dX1_add_95, rfl⟩ rfl ?_
    refine Ev.iconst ⟨dX1_add_97, rfl⟩ (inRd rfl) ?_
    obtain ⟨c39, h⟩ := ckR_s h
    refine Ev.iadd ⟨dX1_add_98, rfl⟩ c39 ?_
    refine Ev.iload (q := 5) ⟨dX1_add_99, rfl⟩ rfl ?_
    obtain ⟨c40, h⟩ := ckI_s h
    obtain ⟨x41, ex, h⟩ := bnd_s h
    refine Ev.iastore (by decide) c40.1 c40.2 ⟨dX1_add_101, rfl⟩ ?_
    refine Ev.cast ?_ rfl rfl (hqI ex)
    clear ex
    refine Ev.aload_n (q := 0) ⟨dX1_add_102, rfl⟩ rfl rfl ?_
    refine Ev.getRk (C2 := 24) (r := v0) fX1_9 rfl (by decide) (by decide) ⟨dX1_add_103, rfl⟩ ?_
    refine Ev.iload (q := 7) ⟨dX1_add_106, rfl⟩ rfl ?_
    refine Ev.iconst ⟨dX1_add_108, rfl⟩ (inRd rfl) ?_
    obtain ⟨c42, h⟩ := ckR_s h
    refine Ev.iadd ⟨dX1_add_109, rfl⟩ c42 ?_
    refine Ev.iload (q := 6) ⟨dX1_add_110, rfl⟩ rfl ?_
    obtain ⟨c43, h⟩ := ckI_s h
    obtain ⟨x44, ex, h⟩ := bnd_s h
    refine Ev.iastore (by decide) c43.1 c43.2 ⟨dX1_add_112, rfl⟩ ?_
    refine Ev.cast ?_ rfl rfl (hqI ex)
    clear ex
    refine Ev.aload_n (q := 0) ⟨dX1_add_113, rfl⟩ rfl rfl ?_
    refine Ev.dup ⟨dX1_add_114, rfl⟩ rfl ?_
    refine Ev.getI fX1_15 (Or.inl rfl) ⟨dX1_add_115, rfl⟩ ?_
    refine Ev.iconst ⟨dX1_add_118, rfl⟩ (inRd rfl) ?_
    obtain ⟨c45, h⟩ := ckR_s h
    refine Ev.iadd ⟨dX1_add_119, rfl⟩ c45 ?_
    obtain ⟨x46, ex, h⟩ := bnd_s h
    refine Ev.putI fX1_15 ⟨dX1_add_120, rfl⟩ ?_
    refine Ev.cast ?_ rfl rfl (hqI ex)
    clear ex
    obtain rfl := Option.some.inj h
    exact Ev.ret ⟨dX1_add_123, rfl⟩ rfl ⟨rfl, rfl⟩

def F_X1_drop (z : Nat) (v0 : Nat) (v1 : Int) (x : Mm) : Option (Mm) := ckR (((x.1 1 v0 0) - v1)) <| ckR ((((x.1 1 v0 0) - v1) - (1 : Int))) <| ckR (((((x.1 1 v0 0) - v1) - (1 : Int)) * (6 : Int))) <| ckR ((v1 + (1 : Int))) <| ckR (((v1 + (1 : Int)) * (6 : Int))) <| ckR ((v1 * (6 : Int))) <| ckC ((v1 + (1 : Int)) * (6 : Int)) (v1 * (6 : Int)) ((((x.1 1 v0 0) - v1) - (1 : Int)) * (6 : Int)) 240 <| (some (wC x 24 v0 (((v1 + (1 : Int)) * (6 : Int))).toNat v0 ((v1 * (6 : Int))).toNat (((((x.1 1 v0 0) - v1) - (1 : Int)) * (6 : Int))).toNat)).bind fun x8 => ckR (((x8.1 1 v0 0) - (1 : Int))) <| (some (wI x8 1 v0 0 (((x8.1 1 v0 0) - (1 : Int))))).bind fun x10 => some (x10)
set_option maxHeartbeats 4000000 in
set_option maxRecDepth 20000 in
theorem c_X1_drop (Θ : GC) (D : Nat → Nat → Prop) (z : Nat) (v0 : Nat) (v1 : Int) (x : Mm) (y) (h : F_X1_drop z v0 v1 x = some y) : Cal Θ mX1_drop 1 26 0 0 [vr 1 (v0 + 1), vi (v1)] (hq D x) (RetN (hq D y)) := by
  refine Cal.of (by decide +kernel) rfl rfl (Nat.le_of_ble_eq_true rfl) ?_
  show Ev Θ mX1_drop 1 26 0 0 0 [(0, vr 1 (v0 + 1)), (1, vi (v1))] [] (hq D x) (RetN (hq D y))
  unfold F_X1_drop at h
  refine Ev.aload_n (q := 0) ⟨dX1_drop_0, rfl⟩ rfl rfl ?_
  refine Ev.getI fX1_15 (Or.inl rfl) ⟨dX1_drop_1, rfl⟩ ?_
  refine Ev.iload_n (q := 1) ⟨dX1_drop_4, rfl⟩ rfl rfl ?_
  obtain ⟨c1, h⟩ := ckR_s h
  refine Ev.isub ⟨dX1_drop_5, rfl⟩ c1 ?_
  refine Ev.iconst ⟨dX1_drop_6, rfl⟩ (inRd rfl) ?_
  obtain ⟨c2, h⟩ := ckR_s h
  refine Ev.isub ⟨dX1_drop_7, rfl⟩ c2 ?_
  refine Ev.bipush ⟨dX1_drop_8, rfl⟩ (inRd rfl) (by decide) ?_
  obtain ⟨c3, h⟩ := ckR_s h
  refine Ev.imul ⟨dX1_drop_10, rfl⟩ c3 ?_
  refine Ev.istore_n (i := 2) (ls' := [(0, _), (1, _), (2, _)]) ⟨dX1_drop_11, rfl⟩ rfl (by decide) rfl ?_
  refine Ev.aload_n (q := 0) ⟨dX1_drop_12, rfl⟩ rfl rfl ?_
  refine Ev.getRk (C2 := 24) (r := v0) fX1_9 rfl (by decide) (by decide) ⟨dX1_drop_13, rfl⟩ ?_
  refine Ev.iload_n (q := 1) ⟨dX1_drop_16, rfl⟩ rfl rfl ?_
  refine Ev.iconst ⟨dX1_drop_17, rfl⟩ (inRd rfl) ?_
  obtain ⟨c4, h⟩ := ckR_s h
  refine Ev.iadd ⟨dX1_drop_18, rfl⟩ c4 ?_
  refine Ev.bipush ⟨dX1_drop_19, rfl⟩ (inRd rfl) (by decide) ?_
  obtain ⟨c5, h⟩ := ckR_s h
  refine Ev.imul ⟨dX1_drop_21, rfl⟩ c5 ?_
  refine Ev.aload_n (q := 0) ⟨dX1_drop_22, rfl⟩ rfl rfl ?_
  refine Ev.getRk (C2 := 24) (r := v0) fX1_9 rfl (by decide) (by decide) ⟨dX1_drop_23, rfl⟩ ?_
  refine Ev.iload_n (q := 1) ⟨dX1_drop_26, rfl⟩ rfl rfl ?_
  refine Ev.bipush ⟨dX1_drop_27, rfl⟩ (inRd rfl) (by decide) ?_
  obtain ⟨c6, h⟩ := ckR_s h
  refine Ev.imul ⟨dX1_drop_29, rfl⟩ c6 ?_
  refine Ev.iload_n (q := 2) ⟨dX1_drop_30, rfl⟩ rfl rfl ?_
  obtain ⟨c7, h⟩ := ckC_s h
  obtain ⟨x8, ex, h⟩ := bnd_s h
  refine Ev.copyI (by decide) (by decide) aX1_19 c7.1 c7.2.1 c7.2.2.1 c7.2.2.2.1 c7.2.2.2.2 (by decide) (Nat.le_of_ble_eq_true rfl) ⟨dX1_drop_31, rfl⟩ ?_
  refine Ev.cast ?_ rfl rfl (hqC ex)
  clear ex
  refine Ev.aload_n (q := 0) ⟨dX1_drop_34, rfl⟩ rfl rfl ?_
  refine Ev.dup ⟨dX1_drop_35, rfl⟩ rfl ?_
  refine Ev.getI fX1_15 (Or.inl rfl) ⟨dX1_drop_36, rfl⟩ ?_
  refine Ev.iconst ⟨dX1_drop_39, rfl⟩ (inRd rfl) ?_
  obtain ⟨c9, h⟩ := ckR_s h
  refine Ev.isub ⟨dX1_drop_40, rfl⟩ c9 ?_
  obtain ⟨x10, ex, h⟩ := bnd_s h
  refine Ev.putI fX1_15 ⟨dX1_drop_41, rfl⟩ ?_
  refine Ev.cast ?_ rfl rfl (hqI ex)
  clear ex
  obtain rfl := Option.some.inj h
  exact Ev.ret ⟨dX1_drop_44, rfl⟩ rfl ⟨rfl, rfl⟩
