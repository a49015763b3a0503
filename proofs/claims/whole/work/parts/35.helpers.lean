section
variable {Θ : GC} {M : MD} {fr lc mc ms pc pc' : Nat} {ls ls' : List (Nat × Vv)} {st st' st0 : List Vv} {h h1 h2 : Hp} {Q : Ro → Hp → Prop}
theorem Ev.callVH {N : MD} {ix C j n fr' lc' mc' ms' mc1 ms1 : Nat} {Cn : String} {T : u_T} {nf : Nat} {as : List Vv} {E : String} (f : VOK (mO M) ix N Cn n) (hM : Cal Θ N fr' lc' mc' ms' (vr C (j + 1) :: as) h (fun o h' => o = .inr E ∧ h' = h1)) (hst0 : st0 = as.reverse ++ vr C (j + 1) :: st) (hc0 : vwCl[C]? = some (Cn, T, nf)) (h9 : C < 9) (hn : as.length = n) (hb : Bud N fr lc mc ms fr' lc' mc' ms' mc1 ms1 st) (d : Dq (mB M) pc (.invokevirtual ix) 3 pc')
    (kx : Exn Θ M fr lc mc1 ms1 pc ls h1 E Q) : Ev Θ M fr lc mc ms pc ls st0 h Q :=
  Ev.callV f hc0 h9 hst0 hn hM hb.1 hb.2.1 hb.2.2.1 hb.2.2.2.1 hb.2.2.2.2 d (fun r h' q => by cases q.1) (fun E' h' q => by cases q.1; cases q.2; exact kx)
end
/-- what a helper of the law answers: 0 and the value in out[0], or the place of what was thrown -/
def hcodeA : Int → List String → String → Option Int
  | _, [], _ => none
  | n, e :: r, E => if E = e then some n else hcodeA (n + 1) r E
def hcode (L : List String) (E : String) : Option Int := hcodeA 1 L E
def hresI (L : List String) (y : (Int ⊕ String) × Mm) : Option (Int × Mm) := match y with
  | (.inl v, x1) => some (0, wL x1 31 0 0 (BitVec.ofInt 64 v))
  | (.inr E, x1) => (hcode L E).map (fun k => (k, x1))
def hresL (L : List String) (y : (BitVec 64 ⊕ String) × Mm) : Option (Int × Mm) := match y with
  | (.inl v, x1) => some (0, wL x1 31 0 0 v)
  | (.inr E, x1) => (hcode L E).map (fun k => (k, x1))
def hresZ (L : List String) (y : (Int ⊕ String) × Mm) : Option (Int × Mm) := match y with
  | (.inl v, x1) => some (0, wL x1 31 0 0 (BitVec.ofInt 64 (if v = 0 then 0 else 1)))
  | (.inr E, x1) => (hcode L E).map (fun k => (k, x1))

def F_L_append (z : Nat) (v1 : Int) (v2 : Int) (v3 : Int) (v4 : Int) (v5 : Int) (x : Mm) : Option (Int × Mm) := (F_X7_append z 0 v1 v2 v3 v4 v5 x).bind (hresI ["java/lang/IllegalStateException"])
set_option maxHeartbeats 4000000 in
theorem c_L_append (Θ : GC) (D : Nat → Nat → Prop) (z : Nat) (v1 : Int) (v2 : Int) (v3 : Int) (v4 : Int) (v5 : Int) (x : Mm) (y) (h : F_L_append z v1 v2 v3 v4 v5 x = some y) : Cal Θ mL_append 7 116 1 6 [vr 7 (0 + 1), vi v1, vi v2, vi v3, vi v4, vi v5, vr 31 (0 + 1)] (hq D x) (Ret (vi y.1) (hq D y.2)) := by
  refine Cal.ofH (by decide +kernel) rfl (by decide) (Nat.le_of_ble_eq_true rfl) ?_
  show Ev Θ mL_append 7 116 1 6 0 [(0, vr 7 (0 + 1)), (1, vi v1), (2, vi v2), (3, vi v3), (4, vi v4), (5, vi v5), (6, vr 31 (0 + 1))] [] (hq D x) (Ret (vi y.1) (hq D y.2))
  unfold F_L_append at h
  obtain ⟨⟨r, x1⟩, hv, h⟩ := bnd_s h
  refine Ev.aload (q := 6) ⟨dL_append_0, rfl⟩ rfl ?_
  refine Ev.iconst ⟨dL_append_2, rfl⟩ (inRd rfl) ?_
  refine Ev.aload_n (q := 0) ⟨dL_append_3, rfl⟩ rfl rfl ?_
  refine Ev.iload_n (q := 1) ⟨dL_append_4, rfl⟩ rfl rfl ?_
  refine Ev.iload_n (q := 2) ⟨dL_append_5, rfl⟩ rfl rfl ?_
  refine Ev.iload_n (q := 3) ⟨dL_append_6, rfl⟩ rfl rfl ?_
  refine Ev.iload (q := 4) ⟨dL_append_7, rfl⟩ rfl ?_
  refine Ev.iload (q := 5) ⟨dL_append_9, rfl⟩ rfl ?_
  rcases r with v | E
  · obtain rfl := Option.some.inj h
    refine Ev.callV1 (mc1 := 0) (ms1 := 0) (v := vi v) (h1 := hq D x1) vL_7 (c_X7_append Θ D z _ _ _ _ _ _ x _ hv) rfl rfl (by decide) rfl ⟨by decide, by decide, by decide, by decide, Nat.le_of_ble_eq_true rfl⟩ ⟨dL_append_11, rfl⟩ ?_
    refine Ev.i2l ⟨dL_append_14, rfl⟩ ?_
    refine Ev.lastore (by decide) (by decide) (show (0 : Int) < ((1 : Nat) : Int) by decide) ⟨dL_append_15, rfl⟩ ?_
    refine Ev.cast ?_ rfl rfl (hqL (v := BitVec.ofInt 64 v) rfl)
    refine Ev.goto jL_append_16 ?_
    refine Ev.iconst ⟨dL_append_23, rfl⟩ (inRd rfl) ?_
    exact Ev.ireturn (ty := .int) ⟨dL_append_24, rfl⟩ rfl rfl ⟨rfl, rfl⟩
  · refine Ev.callVH (mc1 := 0) (ms1 := 0) (E := E) (h1 := hq D x1) vL_7 (c_X7_append Θ D z _ _ _ _ _ _ x _ hv) rfl rfl (by decide) rfl ⟨by decide, by decide, by decide, by decide, Nat.le_of_ble_eq_true rfl⟩ ⟨dL_append_11, rfl⟩ ?_
    by_cases h0 : E = "java/lang/IllegalStateException"
    · subst h0
      have e : (hcode ["java/lang/IllegalStateException"] "java/lang/IllegalStateException").map (fun k => (k, x1)) = some y := h
      simp [hcode, hcodeA] at e
      subst e
      refine Exn.catch (pre := []) (x := (0, 16, 19, 13)) (suf := []) (i := 7) (ls' := []) rfl (fun w hw => by cases hw) (by decide) (by decide) kL_13 cast_IllegalStateException (by decide) (Or.inr ⟨dL_append_19, rfl⟩) [] rfl rfl ?_
      refine Ev.iconst ⟨dL_append_21, rfl⟩ (inRd rfl) ?_
      exact Ev.ireturn (ty := .int) ⟨dL_append_22, rfl⟩ rfl rfl ⟨rfl, rfl⟩
    exfalso
    have e : (hcode ["java/lang/IllegalStateException"] E).map (fun k => (k, x1)) = some y := h
    simp [hcode, hcodeA, h0] at e

def F_L_truncate (z : Nat) (v1 : Int) (x : Mm) : Option (Int × Mm) := (F_X7_truncate z 0 v1 x).bind (hresI ["java/lang/IllegalArgumentException"])
set_option maxHeartbeats 4000000 in
theorem c_L_truncate (Θ : GC) (D : Nat → Nat → Prop) (z : Nat) (v1 : Int) (x : Mm) (y) (h : F_L_truncate z v1 x = some y) : Cal Θ mL_truncate 7 111 1 6 [vr 7 (0 + 1), vi v1, vr 31 (0 + 1)] (hq D x) (Ret (vi y.1) (hq D y.2)) := by
  refine Cal.ofH (by decide +kernel) rfl (by decide) (Nat.le_of_ble_eq_true rfl) ?_
  show Ev Θ mL_truncate 7 111 1 6 0 [(0, vr 7 (0 + 1)), (1, vi v1), (2, vr 31 (0 + 1))] [] (hq D x) (Ret (vi y.1) (hq D y.2))
  unfold F_L_truncate at h
  obtain ⟨⟨r, x1⟩, hv, h⟩ := bnd_s h
  refine Ev.aload_n (q := 2) ⟨dL_truncate_0, rfl⟩ rfl rfl ?_
  refine Ev.iconst ⟨dL_truncate_1, rfl⟩ (inRd rfl) ?_
  refine Ev.aload_n (q := 0) ⟨dL_truncate_2, rfl⟩ rfl rfl ?_
  refine Ev.iload_n (q := 1) ⟨dL_truncate_3, rfl⟩ rfl rfl ?_
  rcases r with v | E
  · obtain rfl := Option.some.inj h
    refine Ev.callV1 (mc1 := 0) (ms1 := 0) (v := vi v) (h1 := hq D x1) vL_15 (c_X7_truncate Θ D z _ _ x _ hv) rfl rfl (by decide) rfl ⟨by decide, by decide, by decide, by decide, Nat.le_of_ble_eq_true rfl⟩ ⟨dL_truncate_4, rfl⟩ ?_
    refine Ev.i2l ⟨dL_truncate_7, rfl⟩ ?_
    refine Ev.lastore (by decide) (by decide) (show (0 : Int) < ((1 : Nat) : Int) by decide) ⟨dL_truncate_8, rfl⟩ ?_
    refine Ev.cast ?_ rfl rfl (hqL (v := BitVec.ofInt 64 v) rfl)
    refine Ev.goto jL_truncate_9 ?_
    refine Ev.iconst ⟨dL_truncate_15, rfl⟩ (inRd rfl) ?_
    exact Ev.ireturn (ty := .int) ⟨dL_truncate_16, rfl⟩ rfl rfl ⟨rfl, rfl⟩
  · refine Ev.callVH (mc1 := 0) (ms1 := 0) (E := E) (h1 := hq D x1) vL_15 (c_X7_truncate Θ D z _ _ x _ hv) rfl rfl (by decide) rfl ⟨by decide, by decide, by decide, by decide, Nat.le_of_ble_eq_true rfl⟩ ⟨dL_truncate_4, rfl⟩ ?_
    by_cases h0 : E = "java/lang/IllegalArgumentException"
    · subst h0
      have e : (hcode ["java/lang/IllegalArgumentException"] "java/lang/IllegalArgumentException").map (fun k => (k, x1)) = some y := h
      simp [hcode, hcodeA] at e
      subst e
      refine Exn.catch (pre := []) (x := (0, 9, 12, 19)) (suf := []) (i := 3) (ls' := []) rfl (fun w hw => by cases hw) (by decide) (by decide) kL_19 cast_IllegalArgumentException (by decide) (Or.inl ⟨⟨3, by decide⟩, rfl, ⟨dL_truncate_12, rfl⟩⟩) [] rfl rfl ?_
      refine Ev.iconst ⟨dL_truncate_13, rfl⟩ (inRd rfl) ?_
      exact Ev.ireturn (ty := .int) ⟨dL_truncate_14, rfl⟩ rfl rfl ⟨rfl, rfl⟩
    exfalso
    have e : (hcode ["java/lang/IllegalArgumentException"] E).map (fun k => (k, x1)) = some y := h
    simp [hcode, hcodeA, h0] at e

def F_L_load (z : Nat)  (x : Mm) : Option (Int × Mm) := (F_X7_load z 0  x).bind (hresI ["java/lang/IllegalArgumentException"])
set_option maxHeartbeats 4000000 in
theorem c_L_load (Θ : GC) (D : Nat → Nat → Prop) (z : Nat)  (x : Mm) (y) (h : F_L_load z  x = some y) : Cal Θ mL_load 10 209 1 6 [vr 7 (0 + 1), vr 31 (0 + 1)] (hq D x) (Ret (vi y.1) (hq D y.2)) := by
  refine Cal.ofH (by decide +kernel) rfl (by decide) (Nat.le_of_ble_eq_true rfl) ?_
  show Ev Θ mL_load 10 209 1 6 0 [(0, vr 7 (0 + 1)), (1, vr 31 (0 + 1))] [] (hq D x) (Ret (vi y.1) (hq D y.2))
  unfold F_L_load at h
  obtain ⟨⟨r, x1⟩, hv, h⟩ := bnd_s h
  refine Ev.aload_n (q := 1) ⟨dL_load_0, rfl⟩ rfl rfl ?_
  refine Ev.iconst ⟨dL_load_1, rfl⟩ (inRd rfl) ?_
  refine Ev.aload_n (q := 0) ⟨dL_load_2, rfl⟩ rfl rfl ?_
  rcases r with v | E
  · obtain rfl := Option.some.inj h
    refine Ev.callV1 (mc1 := 0) (ms1 := 0) (v := vi v) (h1 := hq D x1) vL_21 (c_X7_load Θ D z _  x _ hv) rfl rfl (by decide) rfl ⟨by decide, by decide, by decide, by decide, Nat.le_of_ble_eq_true rfl⟩ ⟨dL_load_3, rfl⟩ ?_
    refine Ev.i2l ⟨dL_load_6, rfl⟩ ?_
    refine Ev.lastore (by decide) (by decide) (show (0 : Int) < ((1 : Nat) : Int) by decide) ⟨dL_load_7, rfl⟩ ?_
    refine Ev.cast ?_ rfl rfl (hqL (v := BitVec.ofInt 64 v) rfl)
    refine Ev.goto jL_load_8 ?_
    refine Ev.iconst ⟨dL_load_14, rfl⟩ (inRd rfl) ?_
    exact Ev.ireturn (ty := .int) ⟨dL_load_15, rfl⟩ rfl rfl ⟨rfl, rfl⟩
  · refine Ev.callVH (mc1 := 0) (ms1 := 0) (E := E) (h1 := hq D x1) vL_21 (c_X7_load Θ D z _  x _ hv) rfl rfl (by decide) rfl ⟨by decide, by decide, by decide, by decide, Nat.le_of_ble_eq_true rfl⟩ ⟨dL_load_3, rfl⟩ ?_
    by_cases h0 : E = "java/lang/IllegalArgumentException"
    · subst h0
      have e : (hcode ["java/lang/IllegalArgumentException"] "java/lang/IllegalArgumentException").map (fun k => (k, x1)) = some y := h
      simp [hcode, hcodeA] at e
      subst e
      refine Exn.catch (pre := []) (x := (0, 8, 11, 19)) (suf := []) (i := 2) (ls' := []) rfl (fun w hw => by cases hw) (by decide) (by decide) kL_19 cast_IllegalArgumentException (by decide) (Or.inl ⟨⟨2, by decide⟩, rfl, ⟨dL_load_11, rfl⟩⟩) [] rfl rfl ?_
      refine Ev.iconst ⟨dL_load_12, rfl⟩ (inRd rfl) ?_
      exact Ev.ireturn (ty := .int) ⟨dL_load_13, rfl⟩ rfl rfl ⟨rfl, rfl⟩
    exfalso
    have e : (hcode ["java/lang/IllegalArgumentException"] E).map (fun k => (k, x1)) = some y := h
    simp [hcode, hcodeA, h0] at e

def F_L_lease (z : Nat) (v1 : Int) (v2 : Int) (v3 : Int) (v4 : Int) (x : Mm) : Option (Int × Mm) := (F_X7_lease z 0 v1 v2 v3 v4 x).bind (hresI ["java/lang/IndexOutOfBoundsException", "java/lang/IllegalArgumentException", "java/lang/IllegalStateException"])
set_option maxHeartbeats 4000000 in
theorem c_L_lease (Θ : GC) (D : Nat → Nat → Prop) (z : Nat) (v1 : Int) (v2 : Int) (v3 : Int) (v4 : Int) (x : Mm) (y) (h : F_L_lease z v1 v2 v3 v4 x = some y) : Cal Θ mL_lease 8 135 4 24 [vr 7 (0 + 1), vi v1, vi v2, vi v3, vi v4, vr 31 (0 + 1)] (hq D x) (Ret (vi y.1) (hq D y.2)) := by
  refine Cal.ofH (by decide +kernel) rfl (by decide) (Nat.le_of_ble_eq_true rfl) ?_
  show Ev Θ mL_lease 8 135 4 24 0 [(0, vr 7 (0 + 1)), (1, vi v1), (2, vi v2), (3, vi v3), (4, vi v4), (5, vr 31 (0 + 1))] [] (hq D x) (Ret (vi y.1) (hq D y.2))
  unfold F_L_lease at h
  obtain ⟨⟨r, x1⟩, hv, h⟩ := bnd_s h
  refine Ev.aload (q := 5) ⟨dL_lease_0, rfl⟩ rfl ?_
  refine Ev.iconst ⟨dL_lease_2, rfl⟩ (inRd rfl) ?_
  refine Ev.aload_n (q := 0) ⟨dL_lease_3, rfl⟩ rfl rfl ?_
  refine Ev.iload_n (q := 1) ⟨dL_lease_4, rfl⟩ rfl rfl ?_
  refine Ev.iload_n (q := 2) ⟨dL_lease_5, rfl⟩ rfl rfl ?_
  refine Ev.iload_n (q := 3) ⟨dL_lease_6, rfl⟩ rfl rfl ?_
  refine Ev.iload (q := 4) ⟨dL_lease_7, rfl⟩ rfl ?_
  rcases r with v | E
  · obtain rfl := Option.some.inj h
    refine Ev.callV1 (mc1 := 0) (ms1 := 0) (v := vi v) (h1 := hq D x1) vL_25 (c_X7_lease Θ D z _ _ _ _ _ x _ hv) rfl rfl (by decide) rfl ⟨by decide, by decide, by decide, by decide, Nat.le_of_ble_eq_true rfl⟩ ⟨dL_lease_9, rfl⟩ ?_
    refine Ev.i2l ⟨dL_lease_12, rfl⟩ ?_
    refine Ev.lastore (by decide) (by decide) (show (0 : Int) < ((1 : Nat) : Int) by decide) ⟨dL_lease_13, rfl⟩ ?_
    refine Ev.cast ?_ rfl rfl (hqL (v := BitVec.ofInt 64 v) rfl)
    refine Ev.goto jL_lease_14 ?_
    refine Ev.iconst ⟨dL_lease_29, rfl⟩ (inRd rfl) ?_
    exact Ev.ireturn (ty := .int) ⟨dL_lease_30, rfl⟩ rfl rfl ⟨rfl, rfl⟩
  · refine Ev.callVH (mc1 := 0) (ms1 := 0) (E := E) (h1 := hq D x1) vL_25 (c_X7_lease Θ D z _ _ _ _ _ x _ hv) rfl rfl (by decide) rfl ⟨by decide, by decide, by decide, by decide, Nat.le_of_ble_eq_true rfl⟩ ⟨dL_lease_9, rfl⟩ ?_
    by_cases h0 : E = "java/lang/IndexOutOfBoundsException"
    · subst h0
      have e : (hcode ["java/lang/IndexOutOfBoundsException", "java/lang/IllegalArgumentException", "java/lang/IllegalStateException"] "java/lang/IndexOutOfBoundsException").map (fun k => (k, x1)) = some y := h
      simp [hcode, hcodeA] at e
      subst e
      refine Exn.catch (pre := []) (x := (0, 14, 17, 29)) (suf := [(0, 14, 21, 19), (0, 14, 25, 13)]) (i := 6) (ls' := []) rfl (fun w hw => by cases hw) (by decide) (by decide) kL_29 cast_IndexOutOfBoundsException (by decide) (Or.inr ⟨dL_lease_17, rfl⟩) [] rfl rfl ?_
      refine Ev.iconst ⟨dL_lease_19, rfl⟩ (inRd rfl) ?_
      exact Ev.ireturn (ty := .int) ⟨dL_lease_20, rfl⟩ rfl rfl ⟨rfl, rfl⟩
    by_cases h1 : E = "java/lang/IllegalArgumentException"
    · subst h1
      have e : (hcode ["java/lang/IndexOutOfBoundsException", "java/lang/IllegalArgumentException", "java/lang/IllegalStateException"] "java/lang/IllegalArgumentException").map (fun k => (k, x1)) = some y := h
      simp [hcode, hcodeA] at e
      subst e
      refine Exn.catch (pre := [(0, 14, 17, 29)]) (x := (0, 14, 21, 19)) (suf := [(0, 14, 25, 13)]) (i := 6) (ls' := []) rfl (fun w hw => by
        rcases List.mem_cons.mp hw with rfl | hw
        · exact Or.inr ⟨by decide, "java/lang/IndexOutOfBoundsException", kL_29, by decide⟩
        · cases hw) (by decide) (by decide) kL_19 cast_IllegalArgumentException (by decide) (Or.inr ⟨dL_lease_21, rfl⟩) [] rfl rfl ?_
      refine Ev.iconst ⟨dL_lease_23, rfl⟩ (inRd rfl) ?_
      exact Ev.ireturn (ty := .int) ⟨dL_lease_24, rfl⟩ rfl rfl ⟨rfl, rfl⟩
    by_cases h2 : E = "java/lang/IllegalStateException"
    · subst h2
      have e : (hcode ["java/lang/IndexOutOfBoundsException", "java/lang/IllegalArgumentException", "java/lang/IllegalStateException"] "java/lang/IllegalStateException").map (fun k => (k, x1)) = some y := h
      simp [hcode, hcodeA] at e
      subst e
      refine Exn.catch (pre := [(0, 14, 17, 29), (0, 14, 21, 19)]) (x := (0, 14, 25, 13)) (suf := []) (i := 6) (ls' := []) rfl (fun w hw => by
        rcases List.mem_cons.mp hw with rfl | hw
        · exact Or.inr ⟨by decide, "java/lang/IndexOutOfBoundsException", kL_29, by decide⟩
        · rcases List.mem_cons.mp hw with rfl | hw
          · exact Or.inr ⟨by decide, "java/lang/IllegalArgumentException", kL_19, by decide⟩
          · cases hw) (by decide) (by decide) kL_13 cast_IllegalStateException (by decide) (Or.inr ⟨dL_lease_25, rfl⟩) [] rfl rfl ?_
      refine Ev.iconst ⟨dL_lease_27, rfl⟩ (inRd rfl) ?_
      exact Ev.ireturn (ty := .int) ⟨dL_lease_28, rfl⟩ rfl rfl ⟨rfl, rfl⟩
    exfalso
    have e : (hcode ["java/lang/IndexOutOfBoundsException", "java/lang/IllegalArgumentException", "java/lang/IllegalStateException"] E).map (fun k => (k, x1)) = some y := h
    simp [hcode, hcodeA, h0, h1, h2] at e

def F_L_renew (z : Nat) (v1 : Int) (v2 : Int) (x : Mm) : Option (Int × Mm) := (F_X7_renew z 0 v1 v2 x).bind (hresI ["java/lang/IndexOutOfBoundsException", "java/lang/IllegalArgumentException", "java/lang/IllegalStateException"])
set_option maxHeartbeats 4000000 in
theorem c_L_renew (Θ : GC) (D : Nat → Nat → Prop) (z : Nat) (v1 : Int) (v2 : Int) (x : Mm) (y) (h : F_L_renew z v1 v2 x = some y) : Cal Θ mL_renew 8 134 4 24 [vr 7 (0 + 1), vi v1, vi v2, vr 31 (0 + 1)] (hq D x) (Ret (vi y.1) (hq D y.2)) := by
  refine Cal.ofH (by decide +kernel) rfl (by decide) (Nat.le_of_ble_eq_true rfl) ?_
  show Ev Θ mL_renew 8 134 4 24 0 [(0, vr 7 (0 + 1)), (1, vi v1), (2, vi v2), (3, vr 31 (0 + 1))] [] (hq D x) (Ret (vi y.1) (hq D y.2))
  unfold F_L_renew at h
  obtain ⟨⟨r, x1⟩, hv, h⟩ := bnd_s h
  refine Ev.aload_n (q := 3) ⟨dL_renew_0, rfl⟩ rfl rfl ?_
  refine Ev.iconst ⟨dL_renew_1, rfl⟩ (inRd rfl) ?_
  refine Ev.aload_n (q := 0) ⟨dL_renew_2, rfl⟩ rfl rfl ?_
  refine Ev.iload_n (q := 1) ⟨dL_renew_3, rfl⟩ rfl rfl ?_
  refine Ev.iload_n (q := 2) ⟨dL_renew_4, rfl⟩ rfl rfl ?_
  rcases r with v | E
  · obtain rfl := Option.some.inj h
    refine Ev.callV1 (mc1 := 0) (ms1 := 0) (v := vi v) (h1 := hq D x1) vL_31 (c_X7_renew Θ D z _ _ _ x _ hv) rfl rfl (by decide) rfl ⟨by decide, by decide, by decide, by decide, Nat.le_of_ble_eq_true rfl⟩ ⟨dL_renew_5, rfl⟩ ?_
    refine Ev.i2l ⟨dL_renew_8, rfl⟩ ?_
    refine Ev.lastore (by decide) (by decide) (show (0 : Int) < ((1 : Nat) : Int) by decide) ⟨dL_renew_9, rfl⟩ ?_
    refine Ev.cast ?_ rfl rfl (hqL (v := BitVec.ofInt 64 v) rfl)
    refine Ev.goto jL_renew_10 ?_
    refine Ev.iconst ⟨dL_renew_25, rfl⟩ (inRd rfl) ?_
    exact Ev.ireturn (ty := .int) ⟨dL_renew_26, rfl⟩ rfl rfl ⟨rfl, rfl⟩
  · refine Ev.callVH (mc1 := 0) (ms1 := 0) (E := E) (h1 := hq D x1) vL_31 (c_X7_renew Θ D z _ _ _ x _ hv) rfl rfl (by decide) rfl ⟨by decide, by decide, by decide, by decide, Nat.le_of_ble_eq_true rfl⟩ ⟨dL_renew_5, rfl⟩ ?_
    by_cases h0 : E = "java/lang/IndexOutOfBoundsException"
    · subst h0
      have e : (hcode ["java/lang/IndexOutOfBoundsException", "java/lang/IllegalArgumentException", "java/lang/IllegalStateException"] "java/lang/IndexOutOfBoundsException").map (fun k => (k, x1)) = some y := h
      simp [hcode, hcodeA] at e
      subst e
      refine Exn.catch (pre := []) (x := (0, 10, 13, 29)) (suf := [(0, 10, 17, 19), (0, 10, 21, 13)]) (i := 4) (ls' := []) rfl (fun w hw => by cases hw) (by decide) (by decide) kL_29 cast_IndexOutOfBoundsException (by decide) (Or.inr ⟨dL_renew_13, rfl⟩) [] rfl rfl ?_
      refine Ev.iconst ⟨dL_renew_15, rfl⟩ (inRd rfl) ?_
      exact Ev.ireturn (ty := .int) ⟨dL_renew_16, rfl⟩ rfl rfl ⟨rfl, rfl⟩
    by_cases h1 : E = "java/lang/IllegalArgumentException"
    · subst h1
      have e : (hcode ["java/lang/IndexOutOfBoundsException", "java/lang/IllegalArgumentException", "java/lang/IllegalStateException"] "java/lang/IllegalArgumentException").map (fun k => (k, x1)) = some y := h
      simp [hcode, hcodeA] at e
      subst e
      refine Exn.catch (pre := [(0, 10, 13, 29)]) (x := (0, 10, 17, 19)) (suf := [(0, 10, 21, 13)]) (i := 4) (ls' := []) rfl (fun w hw => by
        rcases List.mem_cons.mp hw with rfl | hw
        · exact Or.inr ⟨by decide, "java/lang/IndexOutOfBoundsException", kL_29, by decide⟩
        · cases hw) (by decide) (by decide) kL_19 cast_IllegalArgumentException (by decide) (Or.inr ⟨dL_renew_17, rfl⟩) [] rfl rfl ?_
      refine Ev.iconst ⟨dL_renew_19, rfl⟩ (inRd rfl) ?_
      exact Ev.ireturn (ty := .int) ⟨dL_renew_20, rfl⟩ rfl rfl ⟨rfl, rfl⟩
    by_cases h2 : E = "java/lang/IllegalStateException"
    · subst h2
      have e : (hcode ["java/lang/IndexOutOfBoundsException", "java/lang/IllegalArgumentException", "java/lang/IllegalStateException"] "java/lang/IllegalStateException").map (fun k => (k, x1)) = some y := h
      simp [hcode, hcodeA] at e
      subst e
      refine Exn.catch (pre := [(0, 10, 13, 29), (0, 10, 17, 19)]) (x := (0, 10, 21, 13)) (suf := []) (i := 4) (ls' := []) rfl (fun w hw => by
        rcases List.mem_cons.mp hw with rfl | hw
        · exact Or.inr ⟨by decide, "java/lang/IndexOutOfBoundsException", kL_29, by decide⟩
        · rcases List.mem_cons.mp hw with rfl | hw
          · exact Or.inr ⟨by decide, "java/lang/IllegalArgumentException", kL_19, by decide⟩
          · cases hw) (by decide) (by decide) kL_13 cast_IllegalStateException (by decide) (Or.inr ⟨dL_renew_21, rfl⟩) [] rfl rfl ?_
      refine Ev.iconst ⟨dL_renew_23, rfl⟩ (inRd rfl) ?_
      exact Ev.ireturn (ty := .int) ⟨dL_renew_24, rfl⟩ rfl rfl ⟨rfl, rfl⟩
    exfalso
    have e : (hcode ["java/lang/IndexOutOfBoundsException", "java/lang/IllegalArgumentException", "java/lang/IllegalStateException"] E).map (fun k => (k, x1)) = some y := h
    simp [hcode, hcodeA, h0, h1, h2] at e

def F_L_setField (z : Nat) (v1 : Int) (v2 : Int) (v3 : Int) (v4 : Int) (x : Mm) : Option (Int × Mm) := (F_X7_setField z 0 v1 v2 v3 v4 x).bind (hresI ["java/lang/IndexOutOfBoundsException", "java/lang/IllegalArgumentException", "java/lang/IllegalStateException"])
set_option maxHeartbeats 4000000 in
theorem c_L_setField (Θ : GC) (D : Nat → Nat → Prop) (z : Nat) (v1 : Int) (v2 : Int) (v3 : Int) (v4 : Int) (x : Mm) (y) (h : F_L_setField z v1 v2 v3 v4 x = some y) : Cal Θ mL_setField 8 138 6 36 [vr 7 (0 + 1), vi v1, vi v2, vi v3, vi v4, vr 31 (0 + 1)] (hq D x) (Ret (vi y.1) (hq D y.2)) := by
  refine Cal.ofH (by decide +kernel) rfl (by decide) (Nat.le_of_ble_eq_true rfl) ?_
  show Ev Θ mL_setField 8 138 6 36 0 [(0, vr 7 (0 + 1)), (1, vi v1), (2, vi v2), (3, vi v3), (4, vi v4), (5, vr 31 (0 + 1))] [] (hq D x) (Ret (vi y.1) (hq D y.2))
  unfold F_L_setField at h
  obtain ⟨⟨r, x1⟩, hv, h⟩ := bnd_s h
  refine Ev.aload (q := 5) ⟨dL_setField_0, rfl⟩ rfl ?_
  refine Ev.iconst ⟨dL_setField_2, rfl⟩ (inRd rfl) ?_
  refine Ev.aload_n (q := 0) ⟨dL_setField_3, rfl⟩ rfl rfl ?_
  refine Ev.iload_n (q := 1) ⟨dL_setField_4, rfl⟩ rfl rfl ?_
  refine Ev.iload_n (q := 2) ⟨dL_setField_5, rfl⟩ rfl rfl ?_
  refine Ev.iload_n (q := 3) ⟨dL_setField_6, rfl⟩ rfl rfl ?_
  refine Ev.iload (q := 4) ⟨dL_setField_7, rfl⟩ rfl ?_
  rcases r with v | E
  · obtain rfl := Option.some.inj h
    refine Ev.callV1 (mc1 := 0) (ms1 := 0) (v := vi v) (h1 := hq D x1) vL_35 (c_X7_setField Θ D z _ _ _ _ _ x _ hv) rfl rfl (by decide) rfl ⟨by decide, by decide, by decide, by decide, Nat.le_of_ble_eq_true rfl⟩ ⟨dL_setField_9, rfl⟩ ?_
    refine Ev.i2l ⟨dL_setField_12, rfl⟩ ?_
    refine Ev.lastore (by decide) (by decide) (show (0 : Int) < ((1 : Nat) : Int) by decide) ⟨dL_setField_13, rfl⟩ ?_
    refine Ev.cast ?_ rfl rfl (hqL (v := BitVec.ofInt 64 v) rfl)
    refine Ev.goto jL_setField_14 ?_
    refine Ev.iconst ⟨dL_setField_29, rfl⟩ (inRd rfl) ?_
    exact Ev.ireturn (ty := .int) ⟨dL_setField_30, rfl⟩ rfl rfl ⟨rfl, rfl⟩
  · refine Ev.callVH (mc1 := 0) (ms1 := 0) (E := E) (h1 := hq D x1) vL_35 (c_X7_setField Θ D z _ _ _ _ _ x _ hv) rfl rfl (by decide) rfl ⟨by decide, by decide, by decide, by decide, Nat.le_of_ble_eq_true rfl⟩ ⟨dL_setField_9, rfl⟩ ?_
    by_cases h0 : E = "java/lang/IndexOutOfBoundsException"
    · subst h0
      have e : (hcode ["java/lang/IndexOutOfBoundsException", "java/lang/IllegalArgumentException", "java/lang/IllegalStateException"] "java/lang/IndexOutOfBoundsException").map (fun k => (k, x1)) = some y := h
      simp [hcode, hcodeA] at e
      subst e
      refine Exn.catch (pre := []) (x := (0, 14, 17, 29)) (suf := [(0, 14, 21, 19), (0, 14, 25, 13)]) (i := 6) (ls' := []) rfl (fun w hw => by cases hw) (by decide) (by decide) kL_29 cast_IndexOutOfBoundsException (by decide) (Or.inr ⟨dL_setField_17, rfl⟩) [] rfl rfl ?_
      refine Ev.iconst ⟨dL_setField_19, rfl⟩ (inRd rfl) ?_
      exact Ev.ireturn (ty := .int) ⟨dL_setField_20, rfl⟩ rfl rfl ⟨rfl, rfl⟩
    by_cases h1 : E = "java/lang/IllegalArgumentException"
    · subst h1
      have e : (hcode ["java/lang/IndexOutOfBoundsException", "java/lang/IllegalArgumentException", "java/lang/IllegalStateException"] "java/lang/IllegalArgumentException").map (fun k => (k, x1)) = some y := h
      simp [hcode, hcodeA] at e
      subst e
      refine Exn.catch (pre := [(0, 14, 17, 29)]) (x := (0, 14, 21, 19)) (suf := [(0, 14, 25, 13)]) (i := 6) (ls' := []) rfl (fun w hw => by
        rcases List.mem_cons.mp hw with rfl | hw
        · exact Or.inr ⟨by decide, "java/lang/IndexOutOfBoundsException", kL_29, by decide⟩
        · cases hw) (by decide) (by decide) kL_19 cast_IllegalArgumentException (by decide) (Or.inr ⟨dL_setField_21, rfl⟩) [] rfl rfl ?_
      refine Ev.iconst ⟨dL_setField_23, rfl⟩ (inRd rfl) ?_
      exact Ev.ireturn (ty := .int) ⟨dL_setField_24, rfl⟩ rfl rfl ⟨rfl, rfl⟩
    by_cases h2 : E = "java/lang/IllegalStateException"
    · subst h2
      have e : (hcode ["java/lang/IndexOutOfBoundsException", "java/lang/IllegalArgumentException", "java/lang/IllegalStateException"] "java/lang/IllegalStateException").map (fun k => (k, x1)) = some y := h
      simp [hcode, hcodeA] at e
      subst e
      refine Exn.catch (pre := [(0, 14, 17, 29), (0, 14, 21, 19)]) (x := (0, 14, 25, 13)) (suf := []) (i := 6) (ls' := []) rfl (fun w hw => by
        rcases List.mem_cons.mp hw with rfl | hw
        · exact Or.inr ⟨by decide, "java/lang/IndexOutOfBoundsException", kL_29, by decide⟩
        · rcases List.mem_cons.mp hw with rfl | hw
          · exact Or.inr ⟨by decide, "java/lang/IllegalArgumentException", kL_19, by decide⟩
          · cases hw) (by decide) (by decide) kL_13 cast_IllegalStateException (by decide) (Or.inr ⟨dL_setField_25, rfl⟩) [] rfl rfl ?_
      refine Ev.iconst ⟨dL_setField_27, rfl⟩ (inRd rfl) ?_
      exact Ev.ireturn (ty := .int) ⟨dL_setField_28, rfl⟩ rfl rfl ⟨rfl, rfl⟩
    exfalso
    have e : (hcode ["java/lang/IndexOutOfBoundsException", "java/lang/IllegalArgumentException", "java/lang/IllegalStateException"] E).map (fun k => (k, x1)) = some y := h
    simp [hcode, hcodeA, h0, h1, h2] at e

def F_L_addNode (z : Nat) (v1 : Int) (v2 : Int) (v3 : Int) (v4 : Int) (x : Mm) : Option (Int × Mm) := (F_X7_addNode z 0 v1 v2 v3 v4 x).bind (hresI ["java/lang/IndexOutOfBoundsException", "java/lang/IllegalArgumentException", "java/lang/IllegalStateException"])
set_option maxHeartbeats 4000000 in
theorem c_L_addNode (Θ : GC) (D : Nat → Nat → Prop) (z : Nat) (v1 : Int) (v2 : Int) (v3 : Int) (v4 : Int) (x : Mm) (y) (h : F_L_addNode z v1 v2 v3 v4 x = some y) : Cal Θ mL_addNode 8 136 5 30 [vr 7 (0 + 1), vi v1, vi v2, vi v3, vi v4, vr 31 (0 + 1)] (hq D x) (Ret (vi y.1) (hq D y.2)) := by
  refine Cal.ofH (by decide +kernel) rfl (by decide) (Nat.le_of_ble_eq_true rfl) ?_
  show Ev Θ mL_addNode 8 136 5 30 0 [(0, vr 7 (0 + 1)), (1, vi v1), (2, vi v2), (3, vi v3), (4, vi v4), (5, vr 31 (0 + 1))] [] (hq D x) (Ret (vi y.1) (hq D y.2))
  unfold F_L_addNode at h
  obtain ⟨⟨r, x1⟩, hv, h⟩ := bnd_s h
  refine Ev.aload (q := 5) ⟨dL_addNode_0, rfl⟩ rfl ?_
  refine Ev.iconst ⟨dL_addNode_2, rfl⟩ (inRd rfl) ?_
  refine Ev.aload_n (q := 0) ⟨dL_addNode_3, rfl⟩ rfl rfl ?_
  refine Ev.iload_n (q := 1) ⟨dL_addNode_4, rfl⟩ rfl rfl ?_
  refine Ev.iload_n (q := 2) ⟨dL_addNode_5, rfl⟩ rfl rfl ?_
  refine Ev.iload_n (q := 3) ⟨dL_addNode_6, rfl⟩ rfl rfl ?_
  refine Ev.iload (q := 4) ⟨dL_addNode_7, rfl⟩ rfl ?_
  rcases r with v | E
  · obtain rfl := Option.some.inj h
    refine Ev.callV1 (mc1 := 0) (ms1 := 0) (v := vi v) (h1 := hq D x1) vL_39 (c_X7_addNode Θ D z _ _ _ _ _ x _ hv) rfl rfl (by decide) rfl ⟨by decide, by decide, by decide, by decide, Nat.le_of_ble_eq_true rfl⟩ ⟨dL_addNode_9, rfl⟩ ?_
    refine Ev.i2l ⟨dL_addNode_12, rfl⟩ ?_
    refine Ev.lastore (by decide) (by decide) (show (0 : Int) < ((1 : Nat) : Int) by decide) ⟨dL_addNode_13, rfl⟩ ?_
    refine Ev.cast ?_ rfl rfl (hqL (v := BitVec.ofInt 64 v) rfl)
    refine Ev.goto jL_addNode_14 ?_
    refine Ev.iconst ⟨dL_addNode_29, rfl⟩ (inRd rfl) ?_
    exact Ev.ireturn (ty := .int) ⟨dL_addNode_30, rfl⟩ rfl rfl ⟨rfl, rfl⟩
  · refine Ev.callVH (mc1 := 0) (ms1 := 0) (E := E) (h1 := hq D x1) vL_39 (c_X7_addNode Θ D z _ _ _ _ _ x _ hv) rfl rfl (by decide) rfl ⟨by decide, by decide, by decide, by decide, Nat.le_of_ble_eq_true rfl⟩ ⟨dL_addNode_9, rfl⟩ ?_
    by_cases h0 : E = "java/lang/IndexOutOfBoundsException"
    · subst h0
      have e : (hcode ["java/lang/IndexOutOfBoundsException", "java/lang/IllegalArgumentException", "java/lang/IllegalStateException"] "java/lang/IndexOutOfBoundsException").map (fun k => (k, x1)) = some y := h
      simp [hcode, hcodeA] at e
      subst e
      refine Exn.catch (pre := []) (x := (0, 14, 17, 29)) (suf := [(0, 14, 21, 19), (0, 14, 25, 13)]) (i := 6) (ls' := []) rfl (fun w hw => by cases hw) (by decide) (by decide) kL_29 cast_IndexOutOfBoundsException (by decide) (Or.inr ⟨dL_addNode_17, rfl⟩) [] rfl rfl ?_
      refine Ev.iconst ⟨dL_addNode_19, rfl⟩ (inRd rfl) ?_
      exact Ev.ireturn (ty := .int) ⟨dL_addNode_20, rfl⟩ rfl rfl ⟨rfl, rfl⟩
    by_cases h1 : E = "java/lang/IllegalArgumentException"
    · subst h1
      have e : (hcode ["java/lang/IndexOutOfBoundsException", "java/lang/IllegalArgumentException", "java/lang/IllegalStateException"] "java/lang/IllegalArgumentException").map (fun k => (k, x1)) = some y := h
      simp [hcode, hcodeA] at e
      subst e
      refine Exn.catch (pre := [(0, 14, 17, 29)]) (x := (0, 14, 21, 19)) (suf := [(0, 14, 25, 13)]) (i := 6) (ls' := []) rfl (fun w hw => by
        rcases List.mem_cons.mp hw with rfl | hw
        · exact Or.inr ⟨by decide, "java/lang/IndexOutOfBoundsException", kL_29, by decide⟩
        · cases hw) (by decide) (by decide) kL_19 cast_IllegalArgumentException (by decide) (Or.inr ⟨dL_addNode_21, rfl⟩) [] rfl rfl ?_
      refine Ev.iconst ⟨dL_addNode_23, rfl⟩ (inRd rfl) ?_
      exact Ev.ireturn (ty := .int) ⟨dL_addNode_24, rfl⟩ rfl rfl ⟨rfl, rfl⟩
    by_cases h2 : E = "java/lang/IllegalStateException"
    · subst h2
      have e : (hcode ["java/lang/IndexOutOfBoundsException", "java/lang/IllegalArgumentException", "java/lang/IllegalStateException"] "java/lang/IllegalStateException").map (fun k => (k, x1)) = some y := h
      simp [hcode, hcodeA] at e
      subst e
      refine Exn.catch (pre := [(0, 14, 17, 29), (0, 14, 21, 19)]) (x := (0, 14, 25, 13)) (suf := []) (i := 6) (ls' := []) rfl (fun w hw => by
        rcases List.mem_cons.mp hw with rfl | hw
        · exact Or.inr ⟨by decide, "java/lang/IndexOutOfBoundsException", kL_29, by decide⟩
        · rcases List.mem_cons.mp hw with rfl | hw
          · exact Or.inr ⟨by decide, "java/lang/IllegalArgumentException", kL_19, by decide⟩
          · cases hw) (by decide) (by decide) kL_13 cast_IllegalStateException (by decide) (Or.inr ⟨dL_addNode_25, rfl⟩) [] rfl rfl ?_
      refine Ev.iconst ⟨dL_addNode_27, rfl⟩ (inRd rfl) ?_
      exact Ev.ireturn (ty := .int) ⟨dL_addNode_28, rfl⟩ rfl rfl ⟨rfl, rfl⟩
    exfalso
    have e : (hcode ["java/lang/IndexOutOfBoundsException", "java/lang/IllegalArgumentException", "java/lang/IllegalStateException"] E).map (fun k => (k, x1)) = some y := h
    simp [hcode, hcodeA, h0, h1, h2] at e

def F_L_removeNode (z : Nat) (v1 : Int) (v2 : Int) (x : Mm) : Option (Int × Mm) := (F_X7_removeNode z 0 v1 v2 x).bind (hresI ["java/lang/IndexOutOfBoundsException", "java/lang/IllegalStateException"])
set_option maxHeartbeats 4000000 in
theorem c_L_removeNode (Θ : GC) (D : Nat → Nat → Prop) (z : Nat) (v1 : Int) (v2 : Int) (x : Mm) (y) (h : F_L_removeNode z v1 v2 x = some y) : Cal Θ mL_removeNode 8 137 5 30 [vr 7 (0 + 1), vi v1, vi v2, vr 31 (0 + 1)] (hq D x) (Ret (vi y.1) (hq D y.2)) := by
  refine Cal.ofH (by decide +kernel) rfl (by decide) (Nat.le_of_ble_eq_true rfl) ?_
  show Ev Θ mL_removeNode 8 137 5 30 0 [(0, vr 7 (0 + 1)), (1, vi v1), (2, vi v2), (3, vr 31 (0 + 1))] [] (hq D x) (Ret (vi y.1) (hq D y.2))
  unfold F_L_removeNode at h
  obtain ⟨⟨r, x1⟩, hv, h⟩ := bnd_s h
  refine Ev.aload_n (q := 3) ⟨dL_removeNode_0, rfl⟩ rfl rfl ?_
  refine Ev.iconst ⟨dL_removeNode_1, rfl⟩ (inRd rfl) ?_
  refine Ev.aload_n (q := 0) ⟨dL_removeNode_2, rfl⟩ rfl rfl ?_
  refine Ev.iload_n (q := 1) ⟨dL_removeNode_3, rfl⟩ rfl rfl ?_
  refine Ev.iload_n (q := 2) ⟨dL_removeNode_4, rfl⟩ rfl rfl ?_
  rcases r with v | E
  · obtain rfl := Option.some.inj h
    refine Ev.callV1 (mc1 := 0) (ms1 := 0) (v := vi v) (h1 := hq D x1) vL_42 (c_X7_removeNode Θ D z _ _ _ x _ hv) rfl rfl (by decide) rfl ⟨by decide, by decide, by decide, by decide, Nat.le_of_ble_eq_true rfl⟩ ⟨dL_removeNode_5, rfl⟩ ?_
    refine Ev.i2l ⟨dL_removeNode_8, rfl⟩ ?_
    refine Ev.lastore (by decide) (by decide) (show (0 : Int) < ((1 : Nat) : Int) by decide) ⟨dL_removeNode_9, rfl⟩ ?_
    refine Ev.cast ?_ rfl rfl (hqL (v := BitVec.ofInt 64 v) rfl)
    refine Ev.goto jL_removeNode_10 ?_
    refine Ev.iconst ⟨dL_removeNode_21, rfl⟩ (inRd rfl) ?_
    exact Ev.ireturn (ty := .int) ⟨dL_removeNode_22, rfl⟩ rfl rfl ⟨rfl, rfl⟩
  · refine Ev.callVH (mc1 := 0) (ms1 := 0) (E := E) (h1 := hq D x1) vL_42 (c_X7_removeNode Θ D z _ _ _ x _ hv) rfl rfl (by decide) rfl ⟨by decide, by decide, by decide, by decide, Nat.le_of_ble_eq_true rfl⟩ ⟨dL_removeNode_5, rfl⟩ ?_
    by_cases h0 : E = "java/lang/IndexOutOfBoundsException"
    · subst h0
      have e : (hcode ["java/lang/IndexOutOfBoundsException", "java/lang/IllegalStateException"] "java/lang/IndexOutOfBoundsException").map (fun k => (k, x1)) = some y := h
      simp [hcode, hcodeA] at e
      subst e
      refine Exn.catch (pre := []) (x := (0, 10, 13, 29)) (suf := [(0, 10, 17, 13)]) (i := 4) (ls' := []) rfl (fun w hw => by cases hw) (by decide) (by decide) kL_29 cast_IndexOutOfBoundsException (by decide) (Or.inr ⟨dL_removeNode_13, rfl⟩) [] rfl rfl ?_
      refine Ev.iconst ⟨dL_removeNode_15, rfl⟩ (inRd rfl) ?_
      exact Ev.ireturn (ty := .int) ⟨dL_removeNode_16, rfl⟩ rfl rfl ⟨rfl, rfl⟩
    by_cases h1 : E = "java/lang/IllegalStateException"
    · subst h1
      have e : (hcode ["java/lang/IndexOutOfBoundsException", "java/lang/IllegalStateException"] "java/lang/IllegalStateException").map (fun k => (k, x1)) = some y := h
      simp [hcode, hcodeA] at e
      subst e
      refine Exn.catch (pre := [(0, 10, 13, 29)]) (x := (0, 10, 17, 13)) (suf := []) (i := 4) (ls' := []) rfl (fun w hw => by
        rcases List.mem_cons.mp hw with rfl | hw
        · exact Or.inr ⟨by decide, "java/lang/IndexOutOfBoundsException", kL_29, by decide⟩
        · cases hw) (by decide) (by decide) kL_13 cast_IllegalStateException (by decide) (Or.inr ⟨dL_removeNode_17, rfl⟩) [] rfl rfl ?_
      refine Ev.iconst ⟨dL_removeNode_19, rfl⟩ (inRd rfl) ?_
      exact Ev.ireturn (ty := .int) ⟨dL_removeNode_20, rfl⟩ rfl rfl ⟨rfl, rfl⟩
    exfalso
    have e : (hcode ["java/lang/IndexOutOfBoundsException", "java/lang/IllegalStateException"] E).map (fun k => (k, x1)) = some y := h
    simp [hcode, hcodeA, h0, h1] at e

def F_L_commit (z : Nat) (v1 : Int) (x : Mm) : Option (Int × Mm) := (F_X7_commit z 0 v1 x).bind (hresI ["java/lang/IndexOutOfBoundsException", "java/lang/IllegalStateException"])
set_option maxHeartbeats 4000000 in
theorem c_L_commit (Θ : GC) (D : Nat → Nat → Prop) (z : Nat) (v1 : Int) (x : Mm) (y) (h : F_L_commit z v1 x = some y) : Cal Θ mL_commit 8 152 2 12 [vr 7 (0 + 1), vi v1, vr 31 (0 + 1)] (hq D x) (Ret (vi y.1) (hq D y.2)) := by
  refine Cal.ofH (by decide +kernel) rfl (by decide) (Nat.le_of_ble_eq_true rfl) ?_
  show Ev Θ mL_commit 8 152 2 12 0 [(0, vr 7 (0 + 1)), (1, vi v1), (2, vr 31 (0 + 1))] [] (hq D x) (Ret (vi y.1) (hq D y.2))
  unfold F_L_commit at h
  obtain ⟨⟨r, x1⟩, hv, h⟩ := bnd_s h
  refine Ev.aload_n (q := 2) ⟨dL_commit_0, rfl⟩ rfl rfl ?_
  refine Ev.iconst ⟨dL_commit_1, rfl⟩ (inRd rfl) ?_
  refine Ev.aload_n (q := 0) ⟨dL_commit_2, rfl⟩ rfl rfl ?_
  refine Ev.iload_n (q := 1) ⟨dL_commit_3, rfl⟩ rfl rfl ?_
  rcases r with v | E
  · obtain rfl := Option.some.inj h
    refine Ev.callV1 (mc1 := 0) (ms1 := 0) (v := vi v) (h1 := hq D x1) vL_45 (c_X7_commit Θ D z _ _ x _ hv) rfl rfl (by decide) rfl ⟨by decide, by decide, by decide, by decide, Nat.le_of_ble_eq_true rfl⟩ ⟨dL_commit_4, rfl⟩ ?_
    refine Ev.i2l ⟨dL_commit_7, rfl⟩ ?_
    refine Ev.lastore (by decide) (by decide) (show (0 : Int) < ((1 : Nat) : Int) by decide) ⟨dL_commit_8, rfl⟩ ?_
    refine Ev.cast ?_ rfl rfl (hqL (v := BitVec.ofInt 64 v) rfl)
    refine Ev.goto jL_commit_9 ?_
    refine Ev.iconst ⟨dL_commit_18, rfl⟩ (inRd rfl) ?_
    exact Ev.ireturn (ty := .int) ⟨dL_commit_19, rfl⟩ rfl rfl ⟨rfl, rfl⟩
  · refine Ev.callVH (mc1 := 0) (ms1 := 0) (E := E) (h1 := hq D x1) vL_45 (c_X7_commit Θ D z _ _ x _ hv) rfl rfl (by decide) rfl ⟨by decide, by decide, by decide, by decide, Nat.le_of_ble_eq_true rfl⟩ ⟨dL_commit_4, rfl⟩ ?_
    by_cases h0 : E = "java/lang/IndexOutOfBoundsException"
    · subst h0
      have e : (hcode ["java/lang/IndexOutOfBoundsException", "java/lang/IllegalStateException"] "java/lang/IndexOutOfBoundsException").map (fun k => (k, x1)) = some y := h
      simp [hcode, hcodeA] at e
      subst e
      refine Exn.catch (pre := []) (x := (0, 9, 12, 29)) (suf := [(0, 9, 15, 13)]) (i := 3) (ls' := []) rfl (fun w hw => by cases hw) (by decide) (by decide) kL_29 cast_IndexOutOfBoundsException (by decide) (Or.inl ⟨⟨3, by decide⟩, rfl, ⟨dL_commit_12, rfl⟩⟩) [] rfl rfl ?_
      refine Ev.iconst ⟨dL_commit_13, rfl⟩ (inRd rfl) ?_
      exact Ev.ireturn (ty := .int) ⟨dL_commit_14, rfl⟩ rfl rfl ⟨rfl, rfl⟩
    by_cases h1 : E = "java/lang/IllegalStateException"
    · subst h1
      have e : (hcode ["java/lang/IndexOutOfBoundsException", "java/lang/IllegalStateException"] "java/lang/IllegalStateException").map (fun k => (k, x1)) = some y := h
      simp [hcode, hcodeA] at e
      subst e
      refine Exn.catch (pre := [(0, 9, 12, 29)]) (x := (0, 9, 15, 13)) (suf := []) (i := 3) (ls' := []) rfl (fun w hw => by
        rcases List.mem_cons.mp hw with rfl | hw
        · exact Or.inr ⟨by decide, "java/lang/IndexOutOfBoundsException", kL_29, by decide⟩
        · cases hw) (by decide) (by decide) kL_13 cast_IllegalStateException (by decide) (Or.inl ⟨⟨3, by decide⟩, rfl, ⟨dL_commit_15, rfl⟩⟩) [] rfl rfl ?_
      refine Ev.iconst ⟨dL_commit_16, rfl⟩ (inRd rfl) ?_
      exact Ev.ireturn (ty := .int) ⟨dL_commit_17, rfl⟩ rfl rfl ⟨rfl, rfl⟩
    exfalso
    have e : (hcode ["java/lang/IndexOutOfBoundsException", "java/lang/IllegalStateException"] E).map (fun k => (k, x1)) = some y := h
    simp [hcode, hcodeA, h0, h1] at e

def F_L_abandon (z : Nat) (v1 : Int) (x : Mm) : Option (Int × Mm) := (F_X7_abandon z 0 v1 x).bind (hresI ["java/lang/IndexOutOfBoundsException", "java/lang/IllegalStateException"])
set_option maxHeartbeats 4000000 in
theorem c_L_abandon (Θ : GC) (D : Nat → Nat → Prop) (z : Nat) (v1 : Int) (x : Mm) (y) (h : F_L_abandon z v1 x = some y) : Cal Θ mL_abandon 8 133 2 12 [vr 7 (0 + 1), vi v1, vr 31 (0 + 1)] (hq D x) (Ret (vi y.1) (hq D y.2)) := by
  refine Cal.ofH (by decide +kernel) rfl (by decide) (Nat.le_of_ble_eq_true rfl) ?_
  show Ev Θ mL_abandon 8 133 2 12 0 [(0, vr 7 (0 + 1)), (1, vi v1), (2, vr 31 (0 + 1))] [] (hq D x) (Ret (vi y.1) (hq D y.2))
  unfold F_L_abandon at h
  obtain ⟨⟨r, x1⟩, hv, h⟩ := bnd_s h
  refine Ev.aload_n (q := 2) ⟨dL_abandon_0, rfl⟩ rfl rfl ?_
  refine Ev.iconst ⟨dL_abandon_1, rfl⟩ (inRd rfl) ?_
  refine Ev.aload_n (q := 0) ⟨dL_abandon_2, rfl⟩ rfl rfl ?_
  refine Ev.iload_n (q := 1) ⟨dL_abandon_3, rfl⟩ rfl rfl ?_
  rcases r with v | E
  · obtain rfl := Option.some.inj h
    refine Ev.callV1 (mc1 := 0) (ms1 := 0) (v := vi v) (h1 := hq D x1) vL_48 (c_X7_abandon Θ D z _ _ x _ hv) rfl rfl (by decide) rfl ⟨by decide, by decide, by decide, by decide, Nat.le_of_ble_eq_true rfl⟩ ⟨dL_abandon_4, rfl⟩ ?_
    refine Ev.i2l ⟨dL_abandon_7, rfl⟩ ?_
    refine Ev.lastore (by decide) (by decide) (show (0 : Int) < ((1 : Nat) : Int) by decide) ⟨dL_abandon_8, rfl⟩ ?_
    refine Ev.cast ?_ rfl rfl (hqL (v := BitVec.ofInt 64 v) rfl)
    refine Ev.goto jL_abandon_9 ?_
    refine Ev.iconst ⟨dL_abandon_18, rfl⟩ (inRd rfl) ?_
    exact Ev.ireturn (ty := .int) ⟨dL_abandon_19, rfl⟩ rfl rfl ⟨rfl, rfl⟩
  · refine Ev.callVH (mc1 := 0) (ms1 := 0) (E := E) (h1 := hq D x1) vL_48 (c_X7_abandon Θ D z _ _ x _ hv) rfl rfl (by decide) rfl ⟨by decide, by decide, by decide, by decide, Nat.le_of_ble_eq_true rfl⟩ ⟨dL_abandon_4, rfl⟩ ?_
    by_cases h0 : E = "java/lang/IndexOutOfBoundsException"
    · subst h0
      have e : (hcode ["java/lang/IndexOutOfBoundsException", "java/lang/IllegalStateException"] "java/lang/IndexOutOfBoundsException").map (fun k => (k, x1)) = some y := h
      simp [hcode, hcodeA] at e
      subst e
      refine Exn.catch (pre := []) (x := (0, 9, 12, 29)) (suf := [(0, 9, 15, 13)]) (i := 3) (ls' := []) rfl (fun w hw => by cases hw) (by decide) (by decide) kL_29 cast_IndexOutOfBoundsException (by decide) (Or.inl ⟨⟨3, by decide⟩, rfl, ⟨dL_abandon_12, rfl⟩⟩) [] rfl rfl ?_
      refine Ev.iconst ⟨dL_abandon_13, rfl⟩ (inRd rfl) ?_
      exact Ev.ireturn (ty := .int) ⟨dL_abandon_14, rfl⟩ rfl rfl ⟨rfl, rfl⟩
    by_cases h1 : E = "java/lang/IllegalStateException"
    · subst h1
      have e : (hcode ["java/lang/IndexOutOfBoundsException", "java/lang/IllegalStateException"] "java/lang/IllegalStateException").map (fun k => (k, x1)) = some y := h
      simp [hcode, hcodeA] at e
      subst e
      refine Exn.catch (pre := [(0, 9, 12, 29)]) (x := (0, 9, 15, 13)) (suf := []) (i := 3) (ls' := []) rfl (fun w hw => by
        rcases List.mem_cons.mp hw with rfl | hw
        · exact Or.inr ⟨by decide, "java/lang/IndexOutOfBoundsException", kL_29, by decide⟩
        · cases hw) (by decide) (by decide) kL_13 cast_IllegalStateException (by decide) (Or.inl ⟨⟨3, by decide⟩, rfl, ⟨dL_abandon_15, rfl⟩⟩) [] rfl rfl ?_
      refine Ev.iconst ⟨dL_abandon_16, rfl⟩ (inRd rfl) ?_
      exact Ev.ireturn (ty := .int) ⟨dL_abandon_17, rfl⟩ rfl rfl ⟨rfl, rfl⟩
    exfalso
    have e : (hcode ["java/lang/IndexOutOfBoundsException", "java/lang/IllegalStateException"] E).map (fun k => (k, x1)) = some y := h
    simp [hcode, hcodeA, h0, h1] at e

def F_L_resolve (z : Nat) (v1 : Int) (v2 : Int) (x : Mm) : Option (Int × Mm) := (F_X7_resolve z 0 v1 v2 x).bind (hresI ["java/lang/IndexOutOfBoundsException", "java/lang/IllegalStateException"])
set_option maxHeartbeats 4000000 in
theorem c_L_resolve (Θ : GC) (D : Nat → Nat → Prop) (z : Nat) (v1 : Int) (v2 : Int) (x : Mm) (y) (h : F_L_resolve z v1 v2 x = some y) : Cal Θ mL_resolve 8 133 2 12 [vr 7 (0 + 1), vi v1, vi v2, vr 31 (0 + 1)] (hq D x) (Ret (vi y.1) (hq D y.2)) := by
  refine Cal.ofH (by decide +kernel) rfl (by decide) (Nat.le_of_ble_eq_true rfl) ?_
  show Ev Θ mL_resolve 8 133 2 12 0 [(0, vr 7 (0 + 1)), (1, vi v1), (2, vi v2), (3, vr 31 (0 + 1))] [] (hq D x) (Ret (vi y.1) (hq D y.2))
  unfold F_L_resolve at h
  obtain ⟨⟨r, x1⟩, hv, h⟩ := bnd_s h
  refine Ev.aload_n (q := 3) ⟨dL_resolve_0, rfl⟩ rfl rfl ?_
  refine Ev.iconst ⟨dL_resolve_1, rfl⟩ (inRd rfl) ?_
  refine Ev.aload_n (q := 0) ⟨dL_resolve_2, rfl⟩ rfl rfl ?_
  refine Ev.iload_n (q := 1) ⟨dL_resolve_3, rfl⟩ rfl rfl ?_
  refine Ev.iload_n (q := 2) ⟨dL_resolve_4, rfl⟩ rfl rfl ?_
  rcases r with v | E
  · obtain rfl := Option.some.inj h
    refine Ev.callV1 (mc1 := 0) (ms1 := 0) (v := vi v) (h1 := hq D x1) vL_51 (c_X7_resolve Θ D z _ _ _ x _ hv) rfl rfl (by decide) rfl ⟨by decide, by decide, by decide, by decide, Nat.le_of_ble_eq_true rfl⟩ ⟨dL_resolve_5, rfl⟩ ?_
    refine Ev.i2l ⟨dL_resolve_8, rfl⟩ ?_
    refine Ev.lastore (by decide) (by decide) (show (0 : Int) < ((1 : Nat) : Int) by decide) ⟨dL_resolve_9, rfl⟩ ?_
    refine Ev.cast ?_ rfl rfl (hqL (v := BitVec.ofInt 64 v) rfl)
    refine Ev.goto jL_resolve_10 ?_
    refine Ev.iconst ⟨dL_resolve_21, rfl⟩ (inRd rfl) ?_
    exact Ev.ireturn (ty := .int) ⟨dL_resolve_22, rfl⟩ rfl rfl ⟨rfl, rfl⟩
  · refine Ev.callVH (mc1 := 0) (ms1 := 0) (E := E) (h1 := hq D x1) vL_51 (c_X7_resolve Θ D z _ _ _ x _ hv) rfl rfl (by decide) rfl ⟨by decide, by decide, by decide, by decide, Nat.le_of_ble_eq_true rfl⟩ ⟨dL_resolve_5, rfl⟩ ?_
    by_cases h0 : E = "java/lang/IndexOutOfBoundsException"
    · subst h0
      have e : (hcode ["java/lang/IndexOutOfBoundsException", "java/lang/IllegalStateException"] "java/lang/IndexOutOfBoundsException").map (fun k => (k, x1)) = some y := h
      simp [hcode, hcodeA] at e
      subst e
      refine Exn.catch (pre := []) (x := (0, 10, 13, 29)) (suf := [(0, 10, 17, 13)]) (i := 4) (ls' := []) rfl (fun w hw => by cases hw) (by decide) (by decide) kL_29 cast_IndexOutOfBoundsException (by decide) (Or.inr ⟨dL_resolve_13, rfl⟩) [] rfl rfl ?_
      refine Ev.iconst ⟨dL_resolve_15, rfl⟩ (inRd rfl) ?_
      exact Ev.ireturn (ty := .int) ⟨dL_resolve_16, rfl⟩ rfl rfl ⟨rfl, rfl⟩
    by_cases h1 : E = "java/lang/IllegalStateException"
    · subst h1
      have e : (hcode ["java/lang/IndexOutOfBoundsException", "java/lang/IllegalStateException"] "java/lang/IllegalStateException").map (fun k => (k, x1)) = some y := h
      simp [hcode, hcodeA] at e
      subst e
      refine Exn.catch (pre := [(0, 10, 13, 29)]) (x := (0, 10, 17, 13)) (suf := []) (i := 4) (ls' := []) rfl (fun w hw => by
        rcases List.mem_cons.mp hw with rfl | hw
        · exact Or.inr ⟨by decide, "java/lang/IndexOutOfBoundsException", kL_29, by decide⟩
        · cases hw) (by decide) (by decide) kL_13 cast_IllegalStateException (by decide) (Or.inr ⟨dL_resolve_17, rfl⟩) [] rfl rfl ?_
      refine Ev.iconst ⟨dL_resolve_19, rfl⟩ (inRd rfl) ?_
      exact Ev.ireturn (ty := .int) ⟨dL_resolve_20, rfl⟩ rfl rfl ⟨rfl, rfl⟩
    exfalso
    have e : (hcode ["java/lang/IndexOutOfBoundsException", "java/lang/IllegalStateException"] E).map (fun k => (k, x1)) = some y := h
    simp [hcode, hcodeA, h0, h1] at e

def F_L_advance (z : Nat) (v1 : Int) (x : Mm) : Option (Int × Mm) := (F_X7_advance z 0 v1 x).bind (hresI ["java/lang/IllegalArgumentException"])
set_option maxHeartbeats 4000000 in
theorem c_L_advance (Θ : GC) (D : Nat → Nat → Prop) (z : Nat) (v1 : Int) (x : Mm) (y) (h : F_L_advance z v1 x = some y) : Cal Θ mL_advance 7 175 1 6 [vr 7 (0 + 1), vi v1, vr 31 (0 + 1)] (hq D x) (Ret (vi y.1) (hq D y.2)) := by
  refine Cal.ofH (by decide +kernel) rfl (by decide) (Nat.le_of_ble_eq_true rfl) ?_
  show Ev Θ mL_advance 7 175 1 6 0 [(0, vr 7 (0 + 1)), (1, vi v1), (2, vr 31 (0 + 1))] [] (hq D x) (Ret (vi y.1) (hq D y.2))
  unfold F_L_advance at h
  obtain ⟨⟨r, x1⟩, hv, h⟩ := bnd_s h
  refine Ev.aload_n (q := 2) ⟨dL_advance_0, rfl⟩ rfl rfl ?_
  refine Ev.iconst ⟨dL_advance_1, rfl⟩ (inRd rfl) ?_
  refine Ev.aload_n (q := 0) ⟨dL_advance_2, rfl⟩ rfl rfl ?_
  refine Ev.iload_n (q := 1) ⟨dL_advance_3, rfl⟩ rfl rfl ?_
  rcases r with v | E
  · obtain rfl := Option.some.inj h
    refine Ev.callV1 (mc1 := 0) (ms1 := 0) (v := vi v) (h1 := hq D x1) vL_55 (c_X7_advance Θ D z _ _ x _ hv) rfl rfl (by decide) rfl ⟨by decide, by decide, by decide, by decide, Nat.le_of_ble_eq_true rfl⟩ ⟨dL_advance_4, rfl⟩ ?_
    refine Ev.i2l ⟨dL_advance_7, rfl⟩ ?_
    refine Ev.lastore (by decide) (by decide) (show (0 : Int) < ((1 : Nat) : Int) by decide) ⟨dL_advance_8, rfl⟩ ?_
    refine Ev.cast ?_ rfl rfl (hqL (v := BitVec.ofInt 64 v) rfl)
    refine Ev.goto jL_advance_9 ?_
    refine Ev.iconst ⟨dL_advance_15, rfl⟩ (inRd rfl) ?_
    exact Ev.ireturn (ty := .int) ⟨dL_advance_16, rfl⟩ rfl rfl ⟨rfl, rfl⟩
  · refine Ev.callVH (mc1 := 0) (ms1 := 0) (E := E) (h1 := hq D x1) vL_55 (c_X7_advance Θ D z _ _ x _ hv) rfl rfl (by decide) rfl ⟨by decide, by decide, by decide, by decide, Nat.le_of_ble_eq_true rfl⟩ ⟨dL_advance_4, rfl⟩ ?_
    by_cases h0 : E = "java/lang/IllegalArgumentException"
    · subst h0
      have e : (hcode ["java/lang/IllegalArgumentException"] "java/lang/IllegalArgumentException").map (fun k => (k, x1)) = some y := h
      simp [hcode, hcodeA] at e
      subst e
      refine Exn.catch (pre := []) (x := (0, 9, 12, 19)) (suf := []) (i := 3) (ls' := []) rfl (fun w hw => by cases hw) (by decide) (by decide) kL_19 cast_IllegalArgumentException (by decide) (Or.inl ⟨⟨3, by decide⟩, rfl, ⟨dL_advance_12, rfl⟩⟩) [] rfl rfl ?_
      refine Ev.iconst ⟨dL_advance_13, rfl⟩ (inRd rfl) ?_
      exact Ev.ireturn (ty := .int) ⟨dL_advance_14, rfl⟩ rfl rfl ⟨rfl, rfl⟩
    exfalso
    have e : (hcode ["java/lang/IllegalArgumentException"] E).map (fun k => (k, x1)) = some y := h
    simp [hcode, hcodeA, h0] at e

def F_L_undo (z : Nat)  (x : Mm) : Option (Int × Mm) := (F_X7_undo z 0  x).bind (hresI ["java/lang/IllegalStateException"])
set_option maxHeartbeats 4000000 in
theorem c_L_undo (Θ : GC) (D : Nat → Nat → Prop) (z : Nat)  (x : Mm) (y) (h : F_L_undo z  x = some y) : Cal Θ mL_undo 7 131 1 6 [vr 7 (0 + 1), vr 31 (0 + 1)] (hq D x) (Ret (vi y.1) (hq D y.2)) := by
  refine Cal.ofH (by decide +kernel) rfl (by decide) (Nat.le_of_ble_eq_true rfl) ?_
  show Ev Θ mL_undo 7 131 1 6 0 [(0, vr 7 (0 + 1)), (1, vr 31 (0 + 1))] [] (hq D x) (Ret (vi y.1) (hq D y.2))
  unfold F_L_undo at h
  obtain ⟨⟨r, x1⟩, hv, h⟩ := bnd_s h
  refine Ev.aload_n (q := 1) ⟨dL_undo_0, rfl⟩ rfl rfl ?_
  refine Ev.iconst ⟨dL_undo_1, rfl⟩ (inRd rfl) ?_
  refine Ev.aload_n (q := 0) ⟨dL_undo_2, rfl⟩ rfl rfl ?_
  rcases r with v | E
  · obtain rfl := Option.some.inj h
    refine Ev.callV1 (mc1 := 0) (ms1 := 0) (v := vi v) (h1 := hq D x1) vL_58 (c_X7_undo Θ D z _  x _ hv) rfl rfl (by decide) rfl ⟨by decide, by decide, by decide, by decide, Nat.le_of_ble_eq_true rfl⟩ ⟨dL_undo_3, rfl⟩ ?_
    refine Ev.i2l ⟨dL_undo_6, rfl⟩ ?_
    refine Ev.lastore (by decide) (by decide) (show (0 : Int) < ((1 : Nat) : Int) by decide) ⟨dL_undo_7, rfl⟩ ?_
    refine Ev.cast ?_ rfl rfl (hqL (v := BitVec.ofInt 64 v) rfl)
    refine Ev.goto jL_undo_8 ?_
    refine Ev.iconst ⟨dL_undo_14, rfl⟩ (inRd rfl) ?_
    exact Ev.ireturn (ty := .int) ⟨dL_undo_15, rfl⟩ rfl rfl ⟨rfl, rfl⟩
  · refine Ev.callVH (mc1 := 0) (ms1 := 0) (E := E) (h1 := hq D x1) vL_58 (c_X7_undo Θ D z _  x _ hv) rfl rfl (by decide) rfl ⟨by decide, by decide, by decide, by decide, Nat.le_of_ble_eq_true rfl⟩ ⟨dL_undo_3, rfl⟩ ?_
    by_cases h0 : E = "java/lang/IllegalStateException"
    · subst h0
      have e : (hcode ["java/lang/IllegalStateException"] "java/lang/IllegalStateException").map (fun k => (k, x1)) = some y := h
      simp [hcode, hcodeA] at e
      subst e
      refine Exn.catch (pre := []) (x := (0, 8, 11, 13)) (suf := []) (i := 2) (ls' := []) rfl (fun w hw => by cases hw) (by decide) (by decide) kL_13 cast_IllegalStateException (by decide) (Or.inl ⟨⟨2, by decide⟩, rfl, ⟨dL_undo_11, rfl⟩⟩) [] rfl rfl ?_
      refine Ev.iconst ⟨dL_undo_12, rfl⟩ (inRd rfl) ?_
      exact Ev.ireturn (ty := .int) ⟨dL_undo_13, rfl⟩ rfl rfl ⟨rfl, rfl⟩
    exfalso
    have e : (hcode ["java/lang/IllegalStateException"] E).map (fun k => (k, x1)) = some y := h
    simp [hcode, hcodeA, h0] at e

def F_L_restore (z : Nat)  (x : Mm) : Option (Int × Mm) := (F_X7_restore z 0  x).bind (hresI ["java/lang/IllegalStateException"])
set_option maxHeartbeats 4000000 in
theorem c_L_restore (Θ : GC) (D : Nat → Nat → Prop) (z : Nat)  (x : Mm) (y) (h : F_L_restore z  x = some y) : Cal Θ mL_restore 7 110 1 6 [vr 7 (0 + 1), vr 31 (0 + 1)] (hq D x) (Ret (vi y.1) (hq D y.2)) := by
  refine Cal.ofH (by decide +kernel) rfl (by decide) (Nat.le_of_ble_eq_true rfl) ?_
  show Ev Θ mL_restore 7 110 1 6 0 [(0, vr 7 (0 + 1)), (1, vr 31 (0 + 1))] [] (hq D x) (Ret (vi y.1) (hq D y.2))
  unfold F_L_restore at h
  obtain ⟨⟨r, x1⟩, hv, h⟩ := bnd_s h
  refine Ev.aload_n (q := 1) ⟨dL_restore_0, rfl⟩ rfl rfl ?_
  refine Ev.iconst ⟨dL_restore_1, rfl⟩ (inRd rfl) ?_
  refine Ev.aload_n (q := 0) ⟨dL_restore_2, rfl⟩ rfl rfl ?_
  rcases r with v | E
  · obtain rfl := Option.some.inj h
    refine Ev.callV1 (mc1 := 0) (ms1 := 0) (v := vi v) (h1 := hq D x1) vL_61 (c_X7_restore Θ D z _  x _ hv) rfl rfl (by decide) rfl ⟨by decide, by decide, by decide, by decide, Nat.le_of_ble_eq_true rfl⟩ ⟨dL_restore_3, rfl⟩ ?_
    refine Ev.i2l ⟨dL_restore_6, rfl⟩ ?_
    refine Ev.lastore (by decide) (by decide) (show (0 : Int) < ((1 : Nat) : Int) by decide) ⟨dL_restore_7, rfl⟩ ?_
    refine Ev.cast ?_ rfl rfl (hqL (v := BitVec.ofInt 64 v) rfl)
    refine Ev.goto jL_restore_8 ?_
    refine Ev.iconst ⟨dL_restore_14, rfl⟩ (inRd rfl) ?_
    exact Ev.ireturn (ty := .int) ⟨dL_restore_15, rfl⟩ rfl rfl ⟨rfl, rfl⟩
  · refine Ev.callVH (mc1 := 0) (ms1 := 0) (E := E) (h1 := hq D x1) vL_61 (c_X7_restore Θ D z _  x _ hv) rfl rfl (by decide) rfl ⟨by decide, by decide, by decide, by decide, Nat.le_of_ble_eq_true rfl⟩ ⟨dL_restore_3, rfl⟩ ?_
    by_cases h0 : E = "java/lang/IllegalStateException"
    · subst h0
      have e : (hcode ["java/lang/IllegalStateException"] "java/lang/IllegalStateException").map (fun k => (k, x1)) = some y := h
      simp [hcode, hcodeA] at e
      subst e
      refine Exn.catch (pre := []) (x := (0, 8, 11, 13)) (suf := []) (i := 2) (ls' := []) rfl (fun w hw => by cases hw) (by decide) (by decide) kL_13 cast_IllegalStateException (by decide) (Or.inl ⟨⟨2, by decide⟩, rfl, ⟨dL_restore_11, rfl⟩⟩) [] rfl rfl ?_
      refine Ev.iconst ⟨dL_restore_12, rfl⟩ (inRd rfl) ?_
      exact Ev.ireturn (ty := .int) ⟨dL_restore_13, rfl⟩ rfl rfl ⟨rfl, rfl⟩
    exfalso
    have e : (hcode ["java/lang/IllegalStateException"] E).map (fun k => (k, x1)) = some y := h
    simp [hcode, hcodeA, h0] at e

def F_L_setup (z : Nat) (v1 : Int) (x : Mm) : Option (Int × Mm) := (F_X7_setup z 0 v1 x).bind (hresI ["java/lang/IllegalArgumentException"])
set_option maxHeartbeats 4000000 in
theorem c_L_setup (Θ : GC) (D : Nat → Nat → Prop) (z : Nat) (v1 : Int) (x : Mm) (y) (h : F_L_setup z v1 x = some y) : Cal Θ mL_setup 7 111 1 6 [vr 7 (0 + 1), vi v1, vr 31 (0 + 1)] (hq D x) (Ret (vi y.1) (hq D y.2)) := by
  refine Cal.ofH (by decide +kernel) rfl (by decide) (Nat.le_of_ble_eq_true rfl) ?_
  show Ev Θ mL_setup 7 111 1 6 0 [(0, vr 7 (0 + 1)), (1, vi v1), (2, vr 31 (0 + 1))] [] (hq D x) (Ret (vi y.1) (hq D y.2))
  unfold F_L_setup at h
  obtain ⟨⟨r, x1⟩, hv, h⟩ := bnd_s h
  refine Ev.aload_n (q := 2) ⟨dL_setup_0, rfl⟩ rfl rfl ?_
  refine Ev.iconst ⟨dL_setup_1, rfl⟩ (inRd rfl) ?_
  refine Ev.aload_n (q := 0) ⟨dL_setup_2, rfl⟩ rfl rfl ?_
  refine Ev.iload_n (q := 1) ⟨dL_setup_3, rfl⟩ rfl rfl ?_
  rcases r with v | E
  · obtain rfl := Option.some.inj h
    refine Ev.callV1 (mc1 := 0) (ms1 := 0) (v := vi v) (h1 := hq D x1) vL_64 (c_X7_setup Θ D z _ _ x _ hv) rfl rfl (by decide) rfl ⟨by decide, by decide, by decide, by decide, Nat.le_of_ble_eq_true rfl⟩ ⟨dL_setup_4, rfl⟩ ?_
    refine Ev.i2l ⟨dL_setup_7, rfl⟩ ?_
    refine Ev.lastore (by decide) (by decide) (show (0 : Int) < ((1 : Nat) : Int) by decide) ⟨dL_setup_8, rfl⟩ ?_
    refine Ev.cast ?_ rfl rfl (hqL (v := BitVec.ofInt 64 v) rfl)
    refine Ev.goto jL_setup_9 ?_
    refine Ev.iconst ⟨dL_setup_15, rfl⟩ (inRd rfl) ?_
    exact Ev.ireturn (ty := .int) ⟨dL_setup_16, rfl⟩ rfl rfl ⟨rfl, rfl⟩
  · refine Ev.callVH (mc1 := 0) (ms1 := 0) (E := E) (h1 := hq D x1) vL_64 (c_X7_setup Θ D z _ _ x _ hv) rfl rfl (by decide) rfl ⟨by decide, by decide, by decide, by decide, Nat.le_of_ble_eq_true rfl⟩ ⟨dL_setup_4, rfl⟩ ?_
    by_cases h0 : E = "java/lang/IllegalArgumentException"
    · subst h0
      have e : (hcode ["java/lang/IllegalArgumentException"] "java/lang/IllegalArgumentException").map (fun k => (k, x1)) = some y := h
      simp [hcode, hcodeA] at e
      subst e
      refine Exn.catch (pre := []) (x := (0, 9, 12, 19)) (suf := []) (i := 3) (ls' := []) rfl (fun w hw => by cases hw) (by decide) (by decide) kL_19 cast_IllegalArgumentException (by decide) (Or.inl ⟨⟨3, by decide⟩, rfl, ⟨dL_setup_12, rfl⟩⟩) [] rfl rfl ?_
      refine Ev.iconst ⟨dL_setup_13, rfl⟩ (inRd rfl) ?_
      exact Ev.ireturn (ty := .int) ⟨dL_setup_14, rfl⟩ rfl rfl ⟨rfl, rfl⟩
    exfalso
    have e : (hcode ["java/lang/IllegalArgumentException"] E).map (fun k => (k, x1)) = some y := h
    simp [hcode, hcodeA, h0] at e

def F_L_rule (z : Nat) (v1 : Int) (x : Mm) : Option (Int × Mm) := (F_X7_rule z 0 v1 x).bind (hresI ["java/lang/IndexOutOfBoundsException"])
set_option maxHeartbeats 4000000 in
theorem c_L_rule (Θ : GC) (D : Nat → Nat → Prop) (z : Nat) (v1 : Int) (x : Mm) (y) (h : F_L_rule z v1 x = some y) : Cal Θ mL_rule 8 132 1 6 [vr 7 (0 + 1), vi v1, vr 31 (0 + 1)] (hq D x) (Ret (vi y.1) (hq D y.2)) := by
  refine Cal.ofH (by decide +kernel) rfl (by decide) (Nat.le_of_ble_eq_true rfl) ?_
  show Ev Θ mL_rule 8 132 1 6 0 [(0, vr 7 (0 + 1)), (1, vi v1), (2, vr 31 (0 + 1))] [] (hq D x) (Ret (vi y.1) (hq D y.2))
  unfold F_L_rule at h
  obtain ⟨⟨r, x1⟩, hv, h⟩ := bnd_s h
  refine Ev.aload_n (q := 2) ⟨dL_rule_0, rfl⟩ rfl rfl ?_
  refine Ev.iconst ⟨dL_rule_1, rfl⟩ (inRd rfl) ?_
  refine Ev.aload_n (q := 0) ⟨dL_rule_2, rfl⟩ rfl rfl ?_
  refine Ev.iload_n (q := 1) ⟨dL_rule_3, rfl⟩ rfl rfl ?_
  rcases r with v | E
  · obtain rfl := Option.some.inj h
    refine Ev.callV1 (mc1 := 0) (ms1 := 0) (v := vi v) (h1 := hq D x1) vL_67 (c_X7_rule Θ D z _ _ x _ hv) rfl rfl (by decide) rfl ⟨by decide, by decide, by decide, by decide, Nat.le_of_ble_eq_true rfl⟩ ⟨dL_rule_4, rfl⟩ ?_
    refine Ev.i2l ⟨dL_rule_7, rfl⟩ ?_
    refine Ev.lastore (by decide) (by decide) (show (0 : Int) < ((1 : Nat) : Int) by decide) ⟨dL_rule_8, rfl⟩ ?_
    refine Ev.cast ?_ rfl rfl (hqL (v := BitVec.ofInt 64 v) rfl)
    refine Ev.goto jL_rule_9 ?_
    refine Ev.iconst ⟨dL_rule_15, rfl⟩ (inRd rfl) ?_
    exact Ev.ireturn (ty := .int) ⟨dL_rule_16, rfl⟩ rfl rfl ⟨rfl, rfl⟩
  · refine Ev.callVH (mc1 := 0) (ms1 := 0) (E := E) (h1 := hq D x1) vL_67 (c_X7_rule Θ D z _ _ x _ hv) rfl rfl (by decide) rfl ⟨by decide, by decide, by decide, by decide, Nat.le_of_ble_eq_true rfl⟩ ⟨dL_rule_4, rfl⟩ ?_
    by_cases h0 : E = "java/lang/IndexOutOfBoundsException"
    · subst h0
      have e : (hcode ["java/lang/IndexOutOfBoundsException"] "java/lang/IndexOutOfBoundsException").map (fun k => (k, x1)) = some y := h
      simp [hcode, hcodeA] at e
      subst e
      refine Exn.catch (pre := []) (x := (0, 9, 12, 29)) (suf := []) (i := 3) (ls' := []) rfl (fun w hw => by cases hw) (by decide) (by decide) kL_29 cast_IndexOutOfBoundsException (by decide) (Or.inl ⟨⟨3, by decide⟩, rfl, ⟨dL_rule_12, rfl⟩⟩) [] rfl rfl ?_
      refine Ev.iconst ⟨dL_rule_13, rfl⟩ (inRd rfl) ?_
      exact Ev.ireturn (ty := .int) ⟨dL_rule_14, rfl⟩ rfl rfl ⟨rfl, rfl⟩
    exfalso
    have e : (hcode ["java/lang/IndexOutOfBoundsException"] E).map (fun k => (k, x1)) = some y := h
    simp [hcode, hcodeA, h0] at e

def F_L_node (z : Nat) (v1 : Int) (v2 : Int) (x : Mm) : Option (Int × Mm) := (F_X7_node z 0 v1 v2 x).bind (hresI ["java/lang/IndexOutOfBoundsException", "java/lang/IllegalArgumentException"])
set_option maxHeartbeats 4000000 in
theorem c_L_node (Θ : GC) (D : Nat → Nat → Prop) (z : Nat) (v1 : Int) (v2 : Int) (x : Mm) (y) (h : F_L_node z v1 v2 x = some y) : Cal Θ mL_node 8 133 2 12 [vr 7 (0 + 1), vi v1, vi v2, vr 31 (0 + 1)] (hq D x) (Ret (vi y.1) (hq D y.2)) := by
  refine Cal.ofH (by decide +kernel) rfl (by decide) (Nat.le_of_ble_eq_true rfl) ?_
  show Ev Θ mL_node 8 133 2 12 0 [(0, vr 7 (0 + 1)), (1, vi v1), (2, vi v2), (3, vr 31 (0 + 1))] [] (hq D x) (Ret (vi y.1) (hq D y.2))
  unfold F_L_node at h
  obtain ⟨⟨r, x1⟩, hv, h⟩ := bnd_s h
  refine Ev.aload_n (q := 3) ⟨dL_node_0, rfl⟩ rfl rfl ?_
  refine Ev.iconst ⟨dL_node_1, rfl⟩ (inRd rfl) ?_
  refine Ev.aload_n (q := 0) ⟨dL_node_2, rfl⟩ rfl rfl ?_
  refine Ev.iload_n (q := 1) ⟨dL_node_3, rfl⟩ rfl rfl ?_
  refine Ev.iload_n (q := 2) ⟨dL_node_4, rfl⟩ rfl rfl ?_
  rcases r with v | E
  · obtain rfl := Option.some.inj h
    refine Ev.callV1 (mc1 := 0) (ms1 := 0) (v := vi v) (h1 := hq D x1) vL_70 (c_X7_node Θ D z _ _ _ x _ hv) rfl rfl (by decide) rfl ⟨by decide, by decide, by decide, by decide, Nat.le_of_ble_eq_true rfl⟩ ⟨dL_node_5, rfl⟩ ?_
    refine Ev.i2l ⟨dL_node_8, rfl⟩ ?_
    refine Ev.lastore (by decide) (by decide) (show (0 : Int) < ((1 : Nat) : Int) by decide) ⟨dL_node_9, rfl⟩ ?_
    refine Ev.cast ?_ rfl rfl (hqL (v := BitVec.ofInt 64 v) rfl)
    refine Ev.goto jL_node_10 ?_
    refine Ev.iconst ⟨dL_node_21, rfl⟩ (inRd rfl) ?_
    exact Ev.ireturn (ty := .int) ⟨dL_node_22, rfl⟩ rfl rfl ⟨rfl, rfl⟩
  · refine Ev.callVH (mc1 := 0) (ms1 := 0) (E := E) (h1 := hq D x1) vL_70 (c_X7_node Θ D z _ _ _ x _ hv) rfl rfl (by decide) rfl ⟨by decide, by decide, by decide, by decide, Nat.le_of_ble_eq_true rfl⟩ ⟨dL_node_5, rfl⟩ ?_
    by_cases h0 : E = "java/lang/IndexOutOfBoundsException"
    · subst h0
      have e : (hcode ["java/lang/IndexOutOfBoundsException", "java/lang/IllegalArgumentException"] "java/lang/IndexOutOfBoundsException").map (fun k => (k, x1)) = some y := h
      simp [hcode, hcodeA] at e
      subst e
      refine Exn.catch (pre := []) (x := (0, 10, 13, 29)) (suf := [(0, 10, 17, 19)]) (i := 4) (ls' := []) rfl (fun w hw => by cases hw) (by decide) (by decide) kL_29 cast_IndexOutOfBoundsException (by decide) (Or.inr ⟨dL_node_13, rfl⟩) [] rfl rfl ?_
      refine Ev.iconst ⟨dL_node_15, rfl⟩ (inRd rfl) ?_
      exact Ev.ireturn (ty := .int) ⟨dL_node_16, rfl⟩ rfl rfl ⟨rfl, rfl⟩
    by_cases h1 : E = "java/lang/IllegalArgumentException"
    · subst h1
      have e : (hcode ["java/lang/IndexOutOfBoundsException", "java/lang/IllegalArgumentException"] "java/lang/IllegalArgumentException").map (fun k => (k, x1)) = some y := h
      simp [hcode, hcodeA] at e
      subst e
      refine Exn.catch (pre := [(0, 10, 13, 29)]) (x := (0, 10, 17, 19)) (suf := []) (i := 4) (ls' := []) rfl (fun w hw => by
        rcases List.mem_cons.mp hw with rfl | hw
        · exact Or.inr ⟨by decide, "java/lang/IndexOutOfBoundsException", kL_29, by decide⟩
        · cases hw) (by decide) (by decide) kL_19 cast_IllegalArgumentException (by decide) (Or.inr ⟨dL_node_17, rfl⟩) [] rfl rfl ?_
      refine Ev.iconst ⟨dL_node_19, rfl⟩ (inRd rfl) ?_
      exact Ev.ireturn (ty := .int) ⟨dL_node_20, rfl⟩ rfl rfl ⟨rfl, rfl⟩
    exfalso
    have e : (hcode ["java/lang/IndexOutOfBoundsException", "java/lang/IllegalArgumentException"] E).map (fun k => (k, x1)) = some y := h
    simp [hcode, hcodeA, h0, h1] at e

def F_L_field (z : Nat) (v1 : Int) (v2 : Int) (x : Mm) : Option (Int × Mm) := (F_X7_field z 0 v1 v2 x).bind (hresI ["java/lang/IndexOutOfBoundsException"])
set_option maxHeartbeats 4000000 in
theorem c_L_field (Θ : GC) (D : Nat → Nat → Prop) (z : Nat) (v1 : Int) (v2 : Int) (x : Mm) (y) (h : F_L_field z v1 v2 x = some y) : Cal Θ mL_field 8 133 2 12 [vr 7 (0 + 1), vi v1, vi v2, vr 31 (0 + 1)] (hq D x) (Ret (vi y.1) (hq D y.2)) := by
  refine Cal.ofH (by decide +kernel) rfl (by decide) (Nat.le_of_ble_eq_true rfl) ?_
  show Ev Θ mL_field 8 133 2 12 0 [(0, vr 7 (0 + 1)), (1, vi v1), (2, vi v2), (3, vr 31 (0 + 1))] [] (hq D x) (Ret (vi y.1) (hq D y.2))
  unfold F_L_field at h
  obtain ⟨⟨r, x1⟩, hv, h⟩ := bnd_s h
  refine Ev.aload_n (q := 3) ⟨dL_field_0, rfl⟩ rfl rfl ?_
  refine Ev.iconst ⟨dL_field_1, rfl⟩ (inRd rfl) ?_
  refine Ev.aload_n (q := 0) ⟨dL_field_2, rfl⟩ rfl rfl ?_
  refine Ev.iload_n (q := 1) ⟨dL_field_3, rfl⟩ rfl rfl ?_
  refine Ev.iload_n (q := 2) ⟨dL_field_4, rfl⟩ rfl rfl ?_
  rcases r with v | E
  · obtain rfl := Option.some.inj h
    refine Ev.callV1 (mc1 := 0) (ms1 := 0) (v := vi v) (h1 := hq D x1) vL_73 (c_X7_field Θ D z _ _ _ x _ hv) rfl rfl (by decide) rfl ⟨by decide, by decide, by decide, by decide, Nat.le_of_ble_eq_true rfl⟩ ⟨dL_field_5, rfl⟩ ?_
    refine Ev.i2l ⟨dL_field_8, rfl⟩ ?_
    refine Ev.lastore (by decide) (by decide) (show (0 : Int) < ((1 : Nat) : Int) by decide) ⟨dL_field_9, rfl⟩ ?_
    refine Ev.cast ?_ rfl rfl (hqL (v := BitVec.ofInt 64 v) rfl)
    refine Ev.goto jL_field_10 ?_
    refine Ev.iconst ⟨dL_field_17, rfl⟩ (inRd rfl) ?_
    exact Ev.ireturn (ty := .int) ⟨dL_field_18, rfl⟩ rfl rfl ⟨rfl, rfl⟩
  · refine Ev.callVH (mc1 := 0) (ms1 := 0) (E := E) (h1 := hq D x1) vL_73 (c_X7_field Θ D z _ _ _ x _ hv) rfl rfl (by decide) rfl ⟨by decide, by decide, by decide, by decide, Nat.le_of_ble_eq_true rfl⟩ ⟨dL_field_5, rfl⟩ ?_
    by_cases h0 : E = "java/lang/IndexOutOfBoundsException"
    · subst h0
      have e : (hcode ["java/lang/IndexOutOfBoundsException"] "java/lang/IndexOutOfBoundsException").map (fun k => (k, x1)) = some y := h
      simp [hcode, hcodeA] at e
      subst e
      refine Exn.catch (pre := []) (x := (0, 10, 13, 29)) (suf := []) (i := 4) (ls' := []) rfl (fun w hw => by cases hw) (by decide) (by decide) kL_29 cast_IndexOutOfBoundsException (by decide) (Or.inr ⟨dL_field_13, rfl⟩) [] rfl rfl ?_
      refine Ev.iconst ⟨dL_field_15, rfl⟩ (inRd rfl) ?_
      exact Ev.ireturn (ty := .int) ⟨dL_field_16, rfl⟩ rfl rfl ⟨rfl, rfl⟩
    exfalso
    have e : (hcode ["java/lang/IndexOutOfBoundsException"] E).map (fun k => (k, x1)) = some y := h
    simp [hcode, hcodeA, h0] at e

def F_L_childCount (z : Nat) (v1 : Int) (x : Mm) : Option (Int × Mm) := (F_X7_childCount z 0 v1 x).bind (hresI ["java/lang/IndexOutOfBoundsException"])
set_option maxHeartbeats 4000000 in
theorem c_L_childCount (Θ : GC) (D : Nat → Nat → Prop) (z : Nat) (v1 : Int) (x : Mm) (y) (h : F_L_childCount z v1 x = some y) : Cal Θ mL_childCount 8 132 1 6 [vr 7 (0 + 1), vi v1, vr 31 (0 + 1)] (hq D x) (Ret (vi y.1) (hq D y.2)) := by
  refine Cal.ofH (by decide +kernel) rfl (by decide) (Nat.le_of_ble_eq_true rfl) ?_
  show Ev Θ mL_childCount 8 132 1 6 0 [(0, vr 7 (0 + 1)), (1, vi v1), (2, vr 31 (0 + 1))] [] (hq D x) (Ret (vi y.1) (hq D y.2))
  unfold F_L_childCount at h
  obtain ⟨⟨r, x1⟩, hv, h⟩ := bnd_s h
  refine Ev.aload_n (q := 2) ⟨dL_childCount_0, rfl⟩ rfl rfl ?_
  refine Ev.iconst ⟨dL_childCount_1, rfl⟩ (inRd rfl) ?_
  refine Ev.aload_n (q := 0) ⟨dL_childCount_2, rfl⟩ rfl rfl ?_
  refine Ev.iload_n (q := 1) ⟨dL_childCount_3, rfl⟩ rfl rfl ?_
  rcases r with v | E
  · obtain rfl := Option.some.inj h
    refine Ev.callV1 (mc1 := 0) (ms1 := 0) (v := vi v) (h1 := hq D x1) vL_76 (c_X7_childCount Θ D z _ _ x _ hv) rfl rfl (by decide) rfl ⟨by decide, by decide, by decide, by decide, Nat.le_of_ble_eq_true rfl⟩ ⟨dL_childCount_4, rfl⟩ ?_
    refine Ev.i2l ⟨dL_childCount_7, rfl⟩ ?_
    refine Ev.lastore (by decide) (by decide) (show (0 : Int) < ((1 : Nat) : Int) by decide) ⟨dL_childCount_8, rfl⟩ ?_
    refine Ev.cast ?_ rfl rfl (hqL (v := BitVec.ofInt 64 v) rfl)
    refine Ev.goto jL_childCount_9 ?_
    refine Ev.iconst ⟨dL_childCount_15, rfl⟩ (inRd rfl) ?_
    exact Ev.ireturn (ty := .int) ⟨dL_childCount_16, rfl⟩ rfl rfl ⟨rfl, rfl⟩
  · refine Ev.callVH (mc1 := 0) (ms1 := 0) (E := E) (h1 := hq D x1) vL_76 (c_X7_childCount Θ D z _ _ x _ hv) rfl rfl (by decide) rfl ⟨by decide, by decide, by decide, by decide, Nat.le_of_ble_eq_true rfl⟩ ⟨dL_childCount_4, rfl⟩ ?_
    by_cases h0 : E = "java/lang/IndexOutOfBoundsException"
    · subst h0
      have e : (hcode ["java/lang/IndexOutOfBoundsException"] "java/lang/IndexOutOfBoundsException").map (fun k => (k, x1)) = some y := h
      simp [hcode, hcodeA] at e
      subst e
      refine Exn.catch (pre := []) (x := (0, 9, 12, 29)) (suf := []) (i := 3) (ls' := []) rfl (fun w hw => by cases hw) (by decide) (by decide) kL_29 cast_IndexOutOfBoundsException (by decide) (Or.inl ⟨⟨3, by decide⟩, rfl, ⟨dL_childCount_12, rfl⟩⟩) [] rfl rfl ?_
      refine Ev.iconst ⟨dL_childCount_13, rfl⟩ (inRd rfl) ?_
      exact Ev.ireturn (ty := .int) ⟨dL_childCount_14, rfl⟩ rfl rfl ⟨rfl, rfl⟩
    exfalso
    have e : (hcode ["java/lang/IndexOutOfBoundsException"] E).map (fun k => (k, x1)) = some y := h
    simp [hcode, hcodeA, h0] at e

def F_L_child (z : Nat) (v1 : Int) (v2 : Int) (x : Mm) : Option (Int × Mm) := (F_X7_child z 0 v1 v2 x).bind (hresI ["java/lang/IndexOutOfBoundsException"])
set_option maxHeartbeats 4000000 in
theorem c_L_child (Θ : GC) (D : Nat → Nat → Prop) (z : Nat) (v1 : Int) (v2 : Int) (x : Mm) (y) (h : F_L_child z v1 v2 x = some y) : Cal Θ mL_child 8 135 2 12 [vr 7 (0 + 1), vi v1, vi v2, vr 31 (0 + 1)] (hq D x) (Ret (vi y.1) (hq D y.2)) := by
  refine Cal.ofH (by decide +kernel) rfl (by decide) (Nat.le_of_ble_eq_true rfl) ?_
  show Ev Θ mL_child 8 135 2 12 0 [(0, vr 7 (0 + 1)), (1, vi v1), (2, vi v2), (3, vr 31 (0 + 1))] [] (hq D x) (Ret (vi y.1) (hq D y.2))
  unfold F_L_child at h
  obtain ⟨⟨r, x1⟩, hv, h⟩ := bnd_s h
  refine Ev.aload_n (q := 3) ⟨dL_child_0, rfl⟩ rfl rfl ?_
  refine Ev.iconst ⟨dL_child_1, rfl⟩ (inRd rfl) ?_
  refine Ev.aload_n (q := 0) ⟨dL_child_2, rfl⟩ rfl rfl ?_
  refine Ev.iload_n (q := 1) ⟨dL_child_3, rfl⟩ rfl rfl ?_
  refine Ev.iload_n (q := 2) ⟨dL_child_4, rfl⟩ rfl rfl ?_
  rcases r with v | E
  · obtain rfl := Option.some.inj h
    refine Ev.callV1 (mc1 := 0) (ms1 := 0) (v := vi v) (h1 := hq D x1) vL_79 (c_X7_child Θ D z _ _ _ x _ hv) rfl rfl (by decide) rfl ⟨by decide, by decide, by decide, by decide, Nat.le_of_ble_eq_true rfl⟩ ⟨dL_child_5, rfl⟩ ?_
    refine Ev.i2l ⟨dL_child_8, rfl⟩ ?_
    refine Ev.lastore (by decide) (by decide) (show (0 : Int) < ((1 : Nat) : Int) by decide) ⟨dL_child_9, rfl⟩ ?_
    refine Ev.cast ?_ rfl rfl (hqL (v := BitVec.ofInt 64 v) rfl)
    refine Ev.goto jL_child_10 ?_
    refine Ev.iconst ⟨dL_child_17, rfl⟩ (inRd rfl) ?_
    exact Ev.ireturn (ty := .int) ⟨dL_child_18, rfl⟩ rfl rfl ⟨rfl, rfl⟩
  · refine Ev.callVH (mc1 := 0) (ms1 := 0) (E := E) (h1 := hq D x1) vL_79 (c_X7_child Θ D z _ _ _ x _ hv) rfl rfl (by decide) rfl ⟨by decide, by decide, by decide, by decide, Nat.le_of_ble_eq_true rfl⟩ ⟨dL_child_5, rfl⟩ ?_
    by_cases h0 : E = "java/lang/IndexOutOfBoundsException"
    · subst h0
      have e : (hcode ["java/lang/IndexOutOfBoundsException"] "java/lang/IndexOutOfBoundsException").map (fun k => (k, x1)) = some y := h
      simp [hcode, hcodeA] at e
      subst e
      refine Exn.catch (pre := []) (x := (0, 10, 13, 29)) (suf := []) (i := 4) (ls' := []) rfl (fun w hw => by cases hw) (by decide) (by decide) kL_29 cast_IndexOutOfBoundsException (by decide) (Or.inr ⟨dL_child_13, rfl⟩) [] rfl rfl ?_
      refine Ev.iconst ⟨dL_child_15, rfl⟩ (inRd rfl) ?_
      exact Ev.ireturn (ty := .int) ⟨dL_child_16, rfl⟩ rfl rfl ⟨rfl, rfl⟩
    exfalso
    have e : (hcode ["java/lang/IndexOutOfBoundsException"] E).map (fun k => (k, x1)) = some y := h
    simp [hcode, hcodeA, h0] at e

def F_L_find (z : Nat) (v1 : Int) (v2 : Int) (x : Mm) : Option (Int × Mm) := (F_X7_find z 0 v1 v2 x).bind (hresI ["java/lang/IndexOutOfBoundsException", "java/util/NoSuchElementException"])
set_option maxHeartbeats 4000000 in
theorem c_L_find (Θ : GC) (D : Nat → Nat → Prop) (z : Nat) (v1 : Int) (v2 : Int) (x : Mm) (y) (h : F_L_find z v1 v2 x = some y) : Cal Θ mL_find 8 134 2 12 [vr 7 (0 + 1), vi v1, vi v2, vr 31 (0 + 1)] (hq D x) (Ret (vi y.1) (hq D y.2)) := by
  refine Cal.ofH (by decide +kernel) rfl (by decide) (Nat.le_of_ble_eq_true rfl) ?_
  show Ev Θ mL_find 8 134 2 12 0 [(0, vr 7 (0 + 1)), (1, vi v1), (2, vi v2), (3, vr 31 (0 + 1))] [] (hq D x) (Ret (vi y.1) (hq D y.2))
  unfold F_L_find at h
  obtain ⟨⟨r, x1⟩, hv, h⟩ := bnd_s h
  refine Ev.aload_n (q := 3) ⟨dL_find_0, rfl⟩ rfl rfl ?_
  refine Ev.iconst ⟨dL_find_1, rfl⟩ (inRd rfl) ?_
  refine Ev.aload_n (q := 0) ⟨dL_find_2, rfl⟩ rfl rfl ?_
  refine Ev.iload_n (q := 1) ⟨dL_find_3, rfl⟩ rfl rfl ?_
  refine Ev.iload_n (q := 2) ⟨dL_find_4, rfl⟩ rfl rfl ?_
  rcases r with v | E
  · obtain rfl := Option.some.inj h
    refine Ev.callV1 (mc1 := 0) (ms1 := 0) (v := vi v) (h1 := hq D x1) vL_82 (c_X7_find Θ D z _ _ _ x _ hv) rfl rfl (by decide) rfl ⟨by decide, by decide, by decide, by decide, Nat.le_of_ble_eq_true rfl⟩ ⟨dL_find_5, rfl⟩ ?_
    refine Ev.i2l ⟨dL_find_8, rfl⟩ ?_
    refine Ev.lastore (by decide) (by decide) (show (0 : Int) < ((1 : Nat) : Int) by decide) ⟨dL_find_9, rfl⟩ ?_
    refine Ev.cast ?_ rfl rfl (hqL (v := BitVec.ofInt 64 v) rfl)
    refine Ev.goto jL_find_10 ?_
    refine Ev.iconst ⟨dL_find_21, rfl⟩ (inRd rfl) ?_
    exact Ev.ireturn (ty := .int) ⟨dL_find_22, rfl⟩ rfl rfl ⟨rfl, rfl⟩
  · refine Ev.callVH (mc1 := 0) (ms1 := 0) (E := E) (h1 := hq D x1) vL_82 (c_X7_find Θ D z _ _ _ x _ hv) rfl rfl (by decide) rfl ⟨by decide, by decide, by decide, by decide, Nat.le_of_ble_eq_true rfl⟩ ⟨dL_find_5, rfl⟩ ?_
    by_cases h0 : E = "java/lang/IndexOutOfBoundsException"
    · subst h0
      have e : (hcode ["java/lang/IndexOutOfBoundsException", "java/util/NoSuchElementException"] "java/lang/IndexOutOfBoundsException").map (fun k => (k, x1)) = some y := h
      simp [hcode, hcodeA] at e
      subst e
      refine Exn.catch (pre := []) (x := (0, 10, 13, 29)) (suf := [(0, 10, 17, 85)]) (i := 4) (ls' := []) rfl (fun w hw => by cases hw) (by decide) (by decide) kL_29 cast_IndexOutOfBoundsException (by decide) (Or.inr ⟨dL_find_13, rfl⟩) [] rfl rfl ?_
      refine Ev.iconst ⟨dL_find_15, rfl⟩ (inRd rfl) ?_
      exact Ev.ireturn (ty := .int) ⟨dL_find_16, rfl⟩ rfl rfl ⟨rfl, rfl⟩
    by_cases h1 : E = "java/util/NoSuchElementException"
    · subst h1
      have e : (hcode ["java/lang/IndexOutOfBoundsException", "java/util/NoSuchElementException"] "java/util/NoSuchElementException").map (fun k => (k, x1)) = some y := h
      simp [hcode, hcodeA] at e
      subst e
      refine Exn.catch (pre := [(0, 10, 13, 29)]) (x := (0, 10, 17, 85)) (suf := []) (i := 4) (ls' := []) rfl (fun w hw => by
        rcases List.mem_cons.mp hw with rfl | hw
        · exact Or.inr ⟨by decide, "java/lang/IndexOutOfBoundsException", kL_29, by decide⟩
        · cases hw) (by decide) (by decide) kL_85 cast_NoSuchElementException (by decide) (Or.inr ⟨dL_find_17, rfl⟩) [] rfl rfl ?_
      refine Ev.iconst ⟨dL_find_19, rfl⟩ (inRd rfl) ?_
      exact Ev.ireturn (ty := .int) ⟨dL_find_20, rfl⟩ rfl rfl ⟨rfl, rfl⟩
    exfalso
    have e : (hcode ["java/lang/IndexOutOfBoundsException", "java/util/NoSuchElementException"] E).map (fun k => (k, x1)) = some y := h
    simp [hcode, hcodeA, h0, h1] at e

def F_L_walk (z : Nat) (v1 : Int) (v2 : Int) (x : Mm) : Option (Int × Mm) := (F_X7_walk z 0 v1 v2 x).bind (hresI ["java/lang/IndexOutOfBoundsException"])
set_option maxHeartbeats 4000000 in
theorem c_L_walk (Θ : GC) (D : Nat → Nat → Prop) (z : Nat) (v1 : Int) (v2 : Int) (x : Mm) (y) (h : F_L_walk z v1 v2 x = some y) : Cal Θ mL_walk 8 133 2 12 [vr 7 (0 + 1), vi v1, vi v2, vr 31 (0 + 1)] (hq D x) (Ret (vi y.1) (hq D y.2)) := by
  refine Cal.ofH (by decide +kernel) rfl (by decide) (Nat.le_of_ble_eq_true rfl) ?_
  show Ev Θ mL_walk 8 133 2 12 0 [(0, vr 7 (0 + 1)), (1, vi v1), (2, vi v2), (3, vr 31 (0 + 1))] [] (hq D x) (Ret (vi y.1) (hq D y.2))
  unfold F_L_walk at h
  obtain ⟨⟨r, x1⟩, hv, h⟩ := bnd_s h
  refine Ev.aload_n (q := 3) ⟨dL_walk_0, rfl⟩ rfl rfl ?_
  refine Ev.iconst ⟨dL_walk_1, rfl⟩ (inRd rfl) ?_
  refine Ev.aload_n (q := 0) ⟨dL_walk_2, rfl⟩ rfl rfl ?_
  refine Ev.iload_n (q := 1) ⟨dL_walk_3, rfl⟩ rfl rfl ?_
  refine Ev.iload_n (q := 2) ⟨dL_walk_4, rfl⟩ rfl rfl ?_
  rcases r with v | E
  · obtain rfl := Option.some.inj h
    refine Ev.callV1 (mc1 := 0) (ms1 := 0) (v := vi v) (h1 := hq D x1) vL_87 (c_X7_walk Θ D z _ _ _ x _ hv) rfl rfl (by decide) rfl ⟨by decide, by decide, by decide, by decide, Nat.le_of_ble_eq_true rfl⟩ ⟨dL_walk_5, rfl⟩ ?_
    refine Ev.i2l ⟨dL_walk_8, rfl⟩ ?_
    refine Ev.lastore (by decide) (by decide) (show (0 : Int) < ((1 : Nat) : Int) by decide) ⟨dL_walk_9, rfl⟩ ?_
    refine Ev.cast ?_ rfl rfl (hqL (v := BitVec.ofInt 64 v) rfl)
    refine Ev.goto jL_walk_10 ?_
    refine Ev.iconst ⟨dL_walk_17, rfl⟩ (inRd rfl) ?_
    exact Ev.ireturn (ty := .int) ⟨dL_walk_18, rfl⟩ rfl rfl ⟨rfl, rfl⟩
  · refine Ev.callVH (mc1 := 0) (ms1 := 0) (E := E) (h1 := hq D x1) vL_87 (c_X7_walk Θ D z _ _ _ x _ hv) rfl rfl (by decide) rfl ⟨by decide, by decide, by decide, by decide, Nat.le_of_ble_eq_true rfl⟩ ⟨dL_walk_5, rfl⟩ ?_
    by_cases h0 : E = "java/lang/IndexOutOfBoundsException"
    · subst h0
      have e : (hcode ["java/lang/IndexOutOfBoundsException"] "java/lang/IndexOutOfBoundsException").map (fun k => (k, x1)) = some y := h
      simp [hcode, hcodeA] at e
      subst e
      refine Exn.catch (pre := []) (x := (0, 10, 13, 29)) (suf := []) (i := 4) (ls' := []) rfl (fun w hw => by cases hw) (by decide) (by decide) kL_29 cast_IndexOutOfBoundsException (by decide) (Or.inr ⟨dL_walk_13, rfl⟩) [] rfl rfl ?_
      refine Ev.iconst ⟨dL_walk_15, rfl⟩ (inRd rfl) ?_
      exact Ev.ireturn (ty := .int) ⟨dL_walk_16, rfl⟩ rfl rfl ⟨rfl, rfl⟩
    exfalso
    have e : (hcode ["java/lang/IndexOutOfBoundsException"] E).map (fun k => (k, x1)) = some y := h
    simp [hcode, hcodeA, h0] at e

def F_L_size (z : Nat) (v1 : Int) (x : Mm) : Option (Int × Mm) := (F_X7_size z 0 v1 x).bind (hresI ["java/lang/IndexOutOfBoundsException"])
set_option maxHeartbeats 4000000 in
theorem c_L_size (Θ : GC) (D : Nat → Nat → Prop) (z : Nat) (v1 : Int) (x : Mm) (y) (h : F_L_size z v1 x = some y) : Cal Θ mL_size 8 132 1 6 [vr 7 (0 + 1), vi v1, vr 31 (0 + 1)] (hq D x) (Ret (vi y.1) (hq D y.2)) := by
  refine Cal.ofH (by decide +kernel) rfl (by decide) (Nat.le_of_ble_eq_true rfl) ?_
  show Ev Θ mL_size 8 132 1 6 0 [(0, vr 7 (0 + 1)), (1, vi v1), (2, vr 31 (0 + 1))] [] (hq D x) (Ret (vi y.1) (hq D y.2))
  unfold F_L_size at h
  obtain ⟨⟨r, x1⟩, hv, h⟩ := bnd_s h
  refine Ev.aload_n (q := 2) ⟨dL_size_0, rfl⟩ rfl rfl ?_
  refine Ev.iconst ⟨dL_size_1, rfl⟩ (inRd rfl) ?_
  refine Ev.aload_n (q := 0) ⟨dL_size_2, rfl⟩ rfl rfl ?_
  refine Ev.iload_n (q := 1) ⟨dL_size_3, rfl⟩ rfl rfl ?_
  rcases r with v | E
  · obtain rfl := Option.some.inj h
    refine Ev.callV1 (mc1 := 0) (ms1 := 0) (v := vi v) (h1 := hq D x1) vL_90 (c_X7_size Θ D z _ _ x _ hv) rfl rfl (by decide) rfl ⟨by decide, by decide, by decide, by decide, Nat.le_of_ble_eq_true rfl⟩ ⟨dL_size_4, rfl⟩ ?_
    refine Ev.i2l ⟨dL_size_7, rfl⟩ ?_
    refine Ev.lastore (by decide) (by decide) (show (0 : Int) < ((1 : Nat) : Int) by decide) ⟨dL_size_8, rfl⟩ ?_
    refine Ev.cast ?_ rfl rfl (hqL (v := BitVec.ofInt 64 v) rfl)
    refine Ev.goto jL_size_9 ?_
    refine Ev.iconst ⟨dL_size_15, rfl⟩ (inRd rfl) ?_
    exact Ev.ireturn (ty := .int) ⟨dL_size_16, rfl⟩ rfl rfl ⟨rfl, rfl⟩
  · refine Ev.callVH (mc1 := 0) (ms1 := 0) (E := E) (h1 := hq D x1) vL_90 (c_X7_size Θ D z _ _ x _ hv) rfl rfl (by decide) rfl ⟨by decide, by decide, by decide, by decide, Nat.le_of_ble_eq_true rfl⟩ ⟨dL_size_4, rfl⟩ ?_
    by_cases h0 : E = "java/lang/IndexOutOfBoundsException"
    · subst h0
      have e : (hcode ["java/lang/IndexOutOfBoundsException"] "java/lang/IndexOutOfBoundsException").map (fun k => (k, x1)) = some y := h
      simp [hcode, hcodeA] at e
      subst e
      refine Exn.catch (pre := []) (x := (0, 9, 12, 29)) (suf := []) (i := 3) (ls' := []) rfl (fun w hw => by cases hw) (by decide) (by decide) kL_29 cast_IndexOutOfBoundsException (by decide) (Or.inl ⟨⟨3, by decide⟩, rfl, ⟨dL_size_12, rfl⟩⟩) [] rfl rfl ?_
      refine Ev.iconst ⟨dL_size_13, rfl⟩ (inRd rfl) ?_
      exact Ev.ireturn (ty := .int) ⟨dL_size_14, rfl⟩ rfl rfl ⟨rfl, rfl⟩
    exfalso
    have e : (hcode ["java/lang/IndexOutOfBoundsException"] E).map (fun k => (k, x1)) = some y := h
    simp [hcode, hcodeA, h0] at e

def F_L_total (z : Nat) (v1 : Int) (v2 : Int) (x : Mm) : Option (Int × Mm) := (F_X7_total z 0 v1 v2 x).bind (hresL ["java/lang/IndexOutOfBoundsException"])
set_option maxHeartbeats 4000000 in
theorem c_L_total (Θ : GC) (D : Nat → Nat → Prop) (z : Nat) (v1 : Int) (v2 : Int) (x : Mm) (y) (h : F_L_total z v1 v2 x = some y) : Cal Θ mL_total 8 138 2 12 [vr 7 (0 + 1), vi v1, vi v2, vr 31 (0 + 1)] (hq D x) (Ret (vi y.1) (hq D y.2)) := by
  refine Cal.ofH (by decide +kernel) rfl (by decide) (Nat.le_of_ble_eq_true rfl) ?_
  show Ev Θ mL_total 8 138 2 12 0 [(0, vr 7 (0 + 1)), (1, vi v1), (2, vi v2), (3, vr 31 (0 + 1))] [] (hq D x) (Ret (vi y.1) (hq D y.2))
  unfold F_L_total at h
  obtain ⟨⟨r, x1⟩, hv, h⟩ := bnd_s h
  refine Ev.aload_n (q := 3) ⟨dL_total_0, rfl⟩ rfl rfl ?_
  refine Ev.iconst ⟨dL_total_1, rfl⟩ (inRd rfl) ?_
  refine Ev.aload_n (q := 0) ⟨dL_total_2, rfl⟩ rfl rfl ?_
  refine Ev.iload_n (q := 1) ⟨dL_total_3, rfl⟩ rfl rfl ?_
  refine Ev.iload_n (q := 2) ⟨dL_total_4, rfl⟩ rfl rfl ?_
  rcases r with v | E
  · obtain rfl := Option.some.inj h
    refine Ev.callV1 (mc1 := 0) (ms1 := 0) (v := vl v) (h1 := hq D x1) vL_93 (c_X7_total Θ D z _ _ _ x _ hv) rfl rfl (by decide) rfl ⟨by decide, by decide, by decide, by decide, Nat.le_of_ble_eq_true rfl⟩ ⟨dL_total_5, rfl⟩ ?_
    refine Ev.lastore (by decide) (by decide) (show (0 : Int) < ((1 : Nat) : Int) by decide) ⟨dL_total_8, rfl⟩ ?_
    refine Ev.cast ?_ rfl rfl (hqL (v := v) rfl)
    refine Ev.goto jL_total_9 ?_
    refine Ev.iconst ⟨dL_total_16, rfl⟩ (inRd rfl) ?_
    exact Ev.ireturn (ty := .int) ⟨dL_total_17, rfl⟩ rfl rfl ⟨rfl, rfl⟩
  · refine Ev.callVH (mc1 := 0) (ms1 := 0) (E := E) (h1 := hq D x1) vL_93 (c_X7_total Θ D z _ _ _ x _ hv) rfl rfl (by decide) rfl ⟨by decide, by decide, by decide, by decide, Nat.le_of_ble_eq_true rfl⟩ ⟨dL_total_5, rfl⟩ ?_
    by_cases h0 : E = "java/lang/IndexOutOfBoundsException"
    · subst h0
      have e : (hcode ["java/lang/IndexOutOfBoundsException"] "java/lang/IndexOutOfBoundsException").map (fun k => (k, x1)) = some y := h
      simp [hcode, hcodeA] at e
      subst e
      refine Exn.catch (pre := []) (x := (0, 9, 12, 29)) (suf := []) (i := 4) (ls' := []) rfl (fun w hw => by cases hw) (by decide) (by decide) kL_29 cast_IndexOutOfBoundsException (by decide) (Or.inr ⟨dL_total_12, rfl⟩) [] rfl rfl ?_
      refine Ev.iconst ⟨dL_total_14, rfl⟩ (inRd rfl) ?_
      exact Ev.ireturn (ty := .int) ⟨dL_total_15, rfl⟩ rfl rfl ⟨rfl, rfl⟩
    exfalso
    have e : (hcode ["java/lang/IndexOutOfBoundsException"] E).map (fun k => (k, x1)) = some y := h
    simp [hcode, hcodeA, h0] at e

def F_L_greatest (z : Nat) (v1 : Int) (v2 : Int) (x : Mm) : Option (Int × Mm) := (F_X7_greatest z 0 v1 v2 x).bind (hresI ["java/lang/IndexOutOfBoundsException", "java/util/NoSuchElementException"])
set_option maxHeartbeats 4000000 in
theorem c_L_greatest (Θ : GC) (D : Nat → Nat → Prop) (z : Nat) (v1 : Int) (v2 : Int) (x : Mm) (y) (h : F_L_greatest z v1 v2 x = some y) : Cal Θ mL_greatest 8 137 3 18 [vr 7 (0 + 1), vi v1, vi v2, vr 31 (0 + 1)] (hq D x) (Ret (vi y.1) (hq D y.2)) := by
  refine Cal.ofH (by decide +kernel) rfl (by decide) (Nat.le_of_ble_eq_true rfl) ?_
  show Ev Θ mL_greatest 8 137 3 18 0 [(0, vr 7 (0 + 1)), (1, vi v1), (2, vi v2), (3, vr 31 (0 + 1))] [] (hq D x) (Ret (vi y.1) (hq D y.2))
  unfold F_L_greatest at h
  obtain ⟨⟨r, x1⟩, hv, h⟩ := bnd_s h
  refine Ev.aload_n (q := 3) ⟨dL_greatest_0, rfl⟩ rfl rfl ?_
  refine Ev.iconst ⟨dL_greatest_1, rfl⟩ (inRd rfl) ?_
  refine Ev.aload_n (q := 0) ⟨dL_greatest_2, rfl⟩ rfl rfl ?_
  refine Ev.iload_n (q := 1) ⟨dL_greatest_3, rfl⟩ rfl rfl ?_
  refine Ev.iload_n (q := 2) ⟨dL_greatest_4, rfl⟩ rfl rfl ?_
  rcases r with v | E
  · obtain rfl := Option.some.inj h
    refine Ev.callV1 (mc1 := 0) (ms1 := 0) (v := vi v) (h1 := hq D x1) vL_97 (c_X7_greatest Θ D z _ _ _ x _ hv) rfl rfl (by decide) rfl ⟨by decide, by decide, by decide, by decide, Nat.le_of_ble_eq_true rfl⟩ ⟨dL_greatest_5, rfl⟩ ?_
    refine Ev.i2l ⟨dL_greatest_8, rfl⟩ ?_
    refine Ev.lastore (by decide) (by decide) (show (0 : Int) < ((1 : Nat) : Int) by decide) ⟨dL_greatest_9, rfl⟩ ?_
    refine Ev.cast ?_ rfl rfl (hqL (v := BitVec.ofInt 64 v) rfl)
    refine Ev.goto jL_greatest_10 ?_
    refine Ev.iconst ⟨dL_greatest_21, rfl⟩ (inRd rfl) ?_
    exact Ev.ireturn (ty := .int) ⟨dL_greatest_22, rfl⟩ rfl rfl ⟨rfl, rfl⟩
  · refine Ev.callVH (mc1 := 0) (ms1 := 0) (E := E) (h1 := hq D x1) vL_97 (c_X7_greatest Θ D z _ _ _ x _ hv) rfl rfl (by decide) rfl ⟨by decide, by decide, by decide, by decide, Nat.le_of_ble_eq_true rfl⟩ ⟨dL_greatest_5, rfl⟩ ?_
    by_cases h0 : E = "java/lang/IndexOutOfBoundsException"
    · subst h0
      have e : (hcode ["java/lang/IndexOutOfBoundsException", "java/util/NoSuchElementException"] "java/lang/IndexOutOfBoundsException").map (fun k => (k, x1)) = some y := h
      simp [hcode, hcodeA] at e
      subst e
      refine Exn.catch (pre := []) (x := (0, 10, 13, 29)) (suf := [(0, 10, 17, 85)]) (i := 4) (ls' := []) rfl (fun w hw => by cases hw) (by decide) (by decide) kL_29 cast_IndexOutOfBoundsException (by decide) (Or.inr ⟨dL_greatest_13, rfl⟩) [] rfl rfl ?_
      refine Ev.iconst ⟨dL_greatest_15, rfl⟩ (inRd rfl) ?_
      exact Ev.ireturn (ty := .int) ⟨dL_greatest_16, rfl⟩ rfl rfl ⟨rfl, rfl⟩
    by_cases h1 : E = "java/util/NoSuchElementException"
    · subst h1
      have e : (hcode ["java/lang/IndexOutOfBoundsException", "java/util/NoSuchElementException"] "java/util/NoSuchElementException").map (fun k => (k, x1)) = some y := h
      simp [hcode, hcodeA] at e
      subst e
      refine Exn.catch (pre := [(0, 10, 13, 29)]) (x := (0, 10, 17, 85)) (suf := []) (i := 4) (ls' := []) rfl (fun w hw => by
        rcases List.mem_cons.mp hw with rfl | hw
        · exact Or.inr ⟨by decide, "java/lang/IndexOutOfBoundsException", kL_29, by decide⟩
        · cases hw) (by decide) (by decide) kL_85 cast_NoSuchElementException (by decide) (Or.inr ⟨dL_greatest_17, rfl⟩) [] rfl rfl ?_
      refine Ev.iconst ⟨dL_greatest_19, rfl⟩ (inRd rfl) ?_
      exact Ev.ireturn (ty := .int) ⟨dL_greatest_20, rfl⟩ rfl rfl ⟨rfl, rfl⟩
    exfalso
    have e : (hcode ["java/lang/IndexOutOfBoundsException", "java/util/NoSuchElementException"] E).map (fun k => (k, x1)) = some y := h
    simp [hcode, hcodeA, h0, h1] at e

def F_L_leased (z : Nat) (v1 : Int) (v2 : Int) (x : Mm) : Option (Int × Mm) := (F_X7_leased z 0 v1 v2 x).bind (hresI ["java/lang/IndexOutOfBoundsException", "java/lang/IllegalArgumentException"])
set_option maxHeartbeats 4000000 in
theorem c_L_leased (Θ : GC) (D : Nat → Nat → Prop) (z : Nat) (v1 : Int) (v2 : Int) (x : Mm) (y) (h : F_L_leased z v1 v2 x = some y) : Cal Θ mL_leased 8 134 2 12 [vr 7 (0 + 1), vi v1, vi v2, vr 31 (0 + 1)] (hq D x) (Ret (vi y.1) (hq D y.2)) := by
  refine Cal.ofH (by decide +kernel) rfl (by decide) (Nat.le_of_ble_eq_true rfl) ?_
  show Ev Θ mL_leased 8 134 2 12 0 [(0, vr 7 (0 + 1)), (1, vi v1), (2, vi v2), (3, vr 31 (0 + 1))] [] (hq D x) (Ret (vi y.1) (hq D y.2))
  unfold F_L_leased at h
  obtain ⟨⟨r, x1⟩, hv, h⟩ := bnd_s h
  refine Ev.aload_n (q := 3) ⟨dL_leased_0, rfl⟩ rfl rfl ?_
  refine Ev.iconst ⟨dL_leased_1, rfl⟩ (inRd rfl) ?_
  refine Ev.aload_n (q := 0) ⟨dL_leased_2, rfl⟩ rfl rfl ?_
  refine Ev.iload_n (q := 1) ⟨dL_leased_3, rfl⟩ rfl rfl ?_
  refine Ev.iload_n (q := 2) ⟨dL_leased_4, rfl⟩ rfl rfl ?_
  rcases r with v | E
  · obtain rfl := Option.some.inj h
    refine Ev.callV1 (mc1 := 0) (ms1 := 0) (v := vi v) (h1 := hq D x1) vL_100 (c_X7_leased Θ D z _ _ _ x _ hv) rfl rfl (by decide) rfl ⟨by decide, by decide, by decide, by decide, Nat.le_of_ble_eq_true rfl⟩ ⟨dL_leased_5, rfl⟩ ?_
    refine Ev.i2l ⟨dL_leased_8, rfl⟩ ?_
    refine Ev.lastore (by decide) (by decide) (show (0 : Int) < ((1 : Nat) : Int) by decide) ⟨dL_leased_9, rfl⟩ ?_
    refine Ev.cast ?_ rfl rfl (hqL (v := BitVec.ofInt 64 v) rfl)
    refine Ev.goto jL_leased_10 ?_
    refine Ev.iconst ⟨dL_leased_21, rfl⟩ (inRd rfl) ?_
    exact Ev.ireturn (ty := .int) ⟨dL_leased_22, rfl⟩ rfl rfl ⟨rfl, rfl⟩
  · refine Ev.callVH (mc1 := 0) (ms1 := 0) (E := E) (h1 := hq D x1) vL_100 (c_X7_leased Θ D z _ _ _ x _ hv) rfl rfl (by decide) rfl ⟨by decide, by decide, by decide, by decide, Nat.le_of_ble_eq_true rfl⟩ ⟨dL_leased_5, rfl⟩ ?_
    by_cases h0 : E = "java/lang/IndexOutOfBoundsException"
    · subst h0
      have e : (hcode ["java/lang/IndexOutOfBoundsException", "java/lang/IllegalArgumentException"] "java/lang/IndexOutOfBoundsException").map (fun k => (k, x1)) = some y := h
      simp [hcode, hcodeA] at e
      subst e
      refine Exn.catch (pre := []) (x := (0, 10, 13, 29)) (suf := [(0, 10, 17, 19)]) (i := 4) (ls' := []) rfl (fun w hw => by cases hw) (by decide) (by decide) kL_29 cast_IndexOutOfBoundsException (by decide) (Or.inr ⟨dL_leased_13, rfl⟩) [] rfl rfl ?_
      refine Ev.iconst ⟨dL_leased_15, rfl⟩ (inRd rfl) ?_
      exact Ev.ireturn (ty := .int) ⟨dL_leased_16, rfl⟩ rfl rfl ⟨rfl, rfl⟩
    by_cases h1 : E = "java/lang/IllegalArgumentException"
    · subst h1
      have e : (hcode ["java/lang/IndexOutOfBoundsException", "java/lang/IllegalArgumentException"] "java/lang/IllegalArgumentException").map (fun k => (k, x1)) = some y := h
      simp [hcode, hcodeA] at e
      subst e
      refine Exn.catch (pre := [(0, 10, 13, 29)]) (x := (0, 10, 17, 19)) (suf := []) (i := 4) (ls' := []) rfl (fun w hw => by
        rcases List.mem_cons.mp hw with rfl | hw
        · exact Or.inr ⟨by decide, "java/lang/IndexOutOfBoundsException", kL_29, by decide⟩
        · cases hw) (by decide) (by decide) kL_19 cast_IllegalArgumentException (by decide) (Or.inr ⟨dL_leased_17, rfl⟩) [] rfl rfl ?_
      refine Ev.iconst ⟨dL_leased_19, rfl⟩ (inRd rfl) ?_
      exact Ev.ireturn (ty := .int) ⟨dL_leased_20, rfl⟩ rfl rfl ⟨rfl, rfl⟩
    exfalso
    have e : (hcode ["java/lang/IndexOutOfBoundsException", "java/lang/IllegalArgumentException"] E).map (fun k => (k, x1)) = some y := h
    simp [hcode, hcodeA, h0, h1] at e

def F_L_blockers (z : Nat) (v1 : Int) (v2 : Int) (v3 : Int) (x : Mm) : Option (Int × Mm) := (F_X7_blockers z 0 v1 v2 v3 x).bind (hresI ["java/lang/IndexOutOfBoundsException"])
set_option maxHeartbeats 4000000 in
theorem c_L_blockers (Θ : GC) (D : Nat → Nat → Prop) (z : Nat) (v1 : Int) (v2 : Int) (v3 : Int) (x : Mm) (y) (h : F_L_blockers z v1 v2 v3 x = some y) : Cal Θ mL_blockers 8 134 2 12 [vr 7 (0 + 1), vi v1, vi v2, vi v3, vr 31 (0 + 1)] (hq D x) (Ret (vi y.1) (hq D y.2)) := by
  refine Cal.ofH (by decide +kernel) rfl (by decide) (Nat.le_of_ble_eq_true rfl) ?_
  show Ev Θ mL_blockers 8 134 2 12 0 [(0, vr 7 (0 + 1)), (1, vi v1), (2, vi v2), (3, vi v3), (4, vr 31 (0 + 1))] [] (hq D x) (Ret (vi y.1) (hq D y.2))
  unfold F_L_blockers at h
  obtain ⟨⟨r, x1⟩, hv, h⟩ := bnd_s h
  refine Ev.aload (q := 4) ⟨dL_blockers_0, rfl⟩ rfl ?_
  refine Ev.iconst ⟨dL_blockers_2, rfl⟩ (inRd rfl) ?_
  refine Ev.aload_n (q := 0) ⟨dL_blockers_3, rfl⟩ rfl rfl ?_
  refine Ev.iload_n (q := 1) ⟨dL_blockers_4, rfl⟩ rfl rfl ?_
  refine Ev.iload_n (q := 2) ⟨dL_blockers_5, rfl⟩ rfl rfl ?_
  refine Ev.iload_n (q := 3) ⟨dL_blockers_6, rfl⟩ rfl rfl ?_
  rcases r with v | E
  · obtain rfl := Option.some.inj h
    refine Ev.callV1 (mc1 := 0) (ms1 := 0) (v := vi v) (h1 := hq D x1) vL_103 (c_X7_blockers Θ D z _ _ _ _ x _ hv) rfl rfl (by decide) rfl ⟨by decide, by decide, by decide, by decide, Nat.le_of_ble_eq_true rfl⟩ ⟨dL_blockers_7, rfl⟩ ?_
    refine Ev.i2l ⟨dL_blockers_10, rfl⟩ ?_
    refine Ev.lastore (by decide) (by decide) (show (0 : Int) < ((1 : Nat) : Int) by decide) ⟨dL_blockers_11, rfl⟩ ?_
    refine Ev.cast ?_ rfl rfl (hqL (v := BitVec.ofInt 64 v) rfl)
    refine Ev.goto jL_blockers_12 ?_
    refine Ev.iconst ⟨dL_blockers_19, rfl⟩ (inRd rfl) ?_
    exact Ev.ireturn (ty := .int) ⟨dL_blockers_20, rfl⟩ rfl rfl ⟨rfl, rfl⟩
  · refine Ev.callVH (mc1 := 0) (ms1 := 0) (E := E) (h1 := hq D x1) vL_103 (c_X7_blockers Θ D z _ _ _ _ x _ hv) rfl rfl (by decide) rfl ⟨by decide, by decide, by decide, by decide, Nat.le_of_ble_eq_true rfl⟩ ⟨dL_blockers_7, rfl⟩ ?_
    by_cases h0 : E = "java/lang/IndexOutOfBoundsException"
    · subst h0
      have e : (hcode ["java/lang/IndexOutOfBoundsException"] "java/lang/IndexOutOfBoundsException").map (fun k => (k, x1)) = some y := h
      simp [hcode, hcodeA] at e
      subst e
      refine Exn.catch (pre := []) (x := (0, 12, 15, 29)) (suf := []) (i := 5) (ls' := []) rfl (fun w hw => by cases hw) (by decide) (by decide) kL_29 cast_IndexOutOfBoundsException (by decide) (Or.inr ⟨dL_blockers_15, rfl⟩) [] rfl rfl ?_
      refine Ev.iconst ⟨dL_blockers_17, rfl⟩ (inRd rfl) ?_
      exact Ev.ireturn (ty := .int) ⟨dL_blockers_18, rfl⟩ rfl rfl ⟨rfl, rfl⟩
    exfalso
    have e : (hcode ["java/lang/IndexOutOfBoundsException"] E).map (fun k => (k, x1)) = some y := h
    simp [hcode, hcodeA, h0] at e

def F_L_nextEnd (z : Nat)  (x : Mm) : Option (Int × Mm) := (F_X7_nextEnd z 0  x).bind (hresI ["java/util/NoSuchElementException"])
set_option maxHeartbeats 4000000 in
theorem c_L_nextEnd (Θ : GC) (D : Nat → Nat → Prop) (z : Nat)  (x : Mm) (y) (h : F_L_nextEnd z  x = some y) : Cal Θ mL_nextEnd 7 113 1 6 [vr 7 (0 + 1), vr 31 (0 + 1)] (hq D x) (Ret (vi y.1) (hq D y.2)) := by
  refine Cal.ofH (by decide +kernel) rfl (by decide) (Nat.le_of_ble_eq_true rfl) ?_
  show Ev Θ mL_nextEnd 7 113 1 6 0 [(0, vr 7 (0 + 1)), (1, vr 31 (0 + 1))] [] (hq D x) (Ret (vi y.1) (hq D y.2))
  unfold F_L_nextEnd at h
  obtain ⟨⟨r, x1⟩, hv, h⟩ := bnd_s h
  refine Ev.aload_n (q := 1) ⟨dL_nextEnd_0, rfl⟩ rfl rfl ?_
  refine Ev.iconst ⟨dL_nextEnd_1, rfl⟩ (inRd rfl) ?_
  refine Ev.aload_n (q := 0) ⟨dL_nextEnd_2, rfl⟩ rfl rfl ?_
  rcases r with v | E
  · obtain rfl := Option.some.inj h
    refine Ev.callV1 (mc1 := 0) (ms1 := 0) (v := vi v) (h1 := hq D x1) vL_107 (c_X7_nextEnd Θ D z _  x _ hv) rfl rfl (by decide) rfl ⟨by decide, by decide, by decide, by decide, Nat.le_of_ble_eq_true rfl⟩ ⟨dL_nextEnd_3, rfl⟩ ?_
    refine Ev.i2l ⟨dL_nextEnd_6, rfl⟩ ?_
    refine Ev.lastore (by decide) (by decide) (show (0 : Int) < ((1 : Nat) : Int) by decide) ⟨dL_nextEnd_7, rfl⟩ ?_
    refine Ev.cast ?_ rfl rfl (hqL (v := BitVec.ofInt 64 v) rfl)
    refine Ev.goto jL_nextEnd_8 ?_
    refine Ev.iconst ⟨dL_nextEnd_14, rfl⟩ (inRd rfl) ?_
    exact Ev.ireturn (ty := .int) ⟨dL_nextEnd_15, rfl⟩ rfl rfl ⟨rfl, rfl⟩
  · refine Ev.callVH (mc1 := 0) (ms1 := 0) (E := E) (h1 := hq D x1) vL_107 (c_X7_nextEnd Θ D z _  x _ hv) rfl rfl (by decide) rfl ⟨by decide, by decide, by decide, by decide, Nat.le_of_ble_eq_true rfl⟩ ⟨dL_nextEnd_3, rfl⟩ ?_
    by_cases h0 : E = "java/util/NoSuchElementException"
    · subst h0
      have e : (hcode ["java/util/NoSuchElementException"] "java/util/NoSuchElementException").map (fun k => (k, x1)) = some y := h
      simp [hcode, hcodeA] at e
      subst e
      refine Exn.catch (pre := []) (x := (0, 8, 11, 85)) (suf := []) (i := 2) (ls' := []) rfl (fun w hw => by cases hw) (by decide) (by decide) kL_85 cast_NoSuchElementException (by decide) (Or.inl ⟨⟨2, by decide⟩, rfl, ⟨dL_nextEnd_11, rfl⟩⟩) [] rfl rfl ?_
      refine Ev.iconst ⟨dL_nextEnd_12, rfl⟩ (inRd rfl) ?_
      exact Ev.ireturn (ty := .int) ⟨dL_nextEnd_13, rfl⟩ rfl rfl ⟨rfl, rfl⟩
    exfalso
    have e : (hcode ["java/util/NoSuchElementException"] E).map (fun k => (k, x1)) = some y := h
    simp [hcode, hcodeA, h0] at e

def F_L_isInCopy (z : Nat) (v1 : Int) (v2 : Int) (x : Mm) : Option (Int × Mm) := (F_X7_isInCopy z 0 v1 v2 x).bind (hresZ ["java/lang/IndexOutOfBoundsException", "java/lang/IllegalStateException"])
set_option maxHeartbeats 4000000 in
theorem c_L_isInCopy (Θ : GC) (D : Nat → Nat → Prop) (z : Nat) (v1 : Int) (v2 : Int) (x : Mm) (y) (h : F_L_isInCopy z v1 v2 x = some y) : Cal Θ mL_isInCopy 8 133 3 18 [vr 7 (0 + 1), vi v1, vi v2, vr 31 (0 + 1)] (hq D x) (Ret (vi y.1) (hq D y.2)) := by
  refine Cal.ofH (by decide +kernel) rfl (by decide) (Nat.le_of_ble_eq_true rfl) ?_
  show Ev Θ mL_isInCopy 8 133 3 18 0 [(0, vr 7 (0 + 1)), (1, vi v1), (2, vi v2), (3, vr 31 (0 + 1))] [] (hq D x) (Ret (vi y.1) (hq D y.2))
  unfold F_L_isInCopy at h
  obtain ⟨⟨r, x1⟩, hv, h⟩ := bnd_s h
  refine Ev.aload_n (q := 3) ⟨dL_isInCopy_0, rfl⟩ rfl rfl ?_
  refine Ev.iconst ⟨dL_isInCopy_1, rfl⟩ (inRd rfl) ?_
  refine Ev.aload_n (q := 0) ⟨dL_isInCopy_2, rfl⟩ rfl rfl ?_
  refine Ev.iload_n (q := 1) ⟨dL_isInCopy_3, rfl⟩ rfl rfl ?_
  refine Ev.iload_n (q := 2) ⟨dL_isInCopy_4, rfl⟩ rfl rfl ?_
  rcases r with v | E
  · obtain rfl := Option.some.inj h
    refine Ev.callV1 (mc1 := 0) (ms1 := 0) (v := vi v) (h1 := hq D x1) vL_110 (c_X7_isInCopy Θ D z _ _ _ x _ hv) rfl rfl (by decide) rfl ⟨by decide, by decide, by decide, by decide, Nat.le_of_ble_eq_true rfl⟩ ⟨dL_isInCopy_5, rfl⟩ ?_
    refine Ev.if_eq jL_isInCopy_8 (fun hc => ?_) (fun hc => ?_)
    · refine Ev.lconst (b := BitVec.ofInt 64 0) ⟨dL_isInCopy_15, rfl⟩ (by decide) ?_
      show Ev _ _ _ _ _ _ _ _ _ _ (Ret (vi 0) (hq D (wL x1 31 0 0 (BitVec.ofInt 64 (if v = 0 then 0 else 1)))))
      rw [if_pos hc]
      refine Ev.lastore (by decide) (by decide) (show (0 : Int) < ((1 : Nat) : Int) by decide) ⟨dL_isInCopy_16, rfl⟩ ?_
      refine Ev.cast ?_ rfl rfl (hqL (v := BitVec.ofInt 64 0) rfl)
      refine Ev.goto jL_isInCopy_17 ?_
      refine Ev.iconst ⟨dL_isInCopy_28, rfl⟩ (inRd rfl) ?_
      exact Ev.ireturn (ty := .int) ⟨dL_isInCopy_29, rfl⟩ rfl rfl ⟨rfl, rfl⟩
    · refine Ev.lconst (b := BitVec.ofInt 64 1) ⟨dL_isInCopy_11, rfl⟩ (by decide) ?_
      refine Ev.goto jL_isInCopy_12 ?_
      show Ev _ _ _ _ _ _ _ _ _ _ (Ret (vi 0) (hq D (wL x1 31 0 0 (BitVec.ofInt 64 (if v = 0 then 0 else 1)))))
      rw [if_neg hc]
      refine Ev.lastore (by decide) (by decide) (show (0 : Int) < ((1 : Nat) : Int) by decide) ⟨dL_isInCopy_16, rfl⟩ ?_
      refine Ev.cast ?_ rfl rfl (hqL (v := BitVec.ofInt 64 1) rfl)
      refine Ev.goto jL_isInCopy_17 ?_
      refine Ev.iconst ⟨dL_isInCopy_28, rfl⟩ (inRd rfl) ?_
      exact Ev.ireturn (ty := .int) ⟨dL_isInCopy_29, rfl⟩ rfl rfl ⟨rfl, rfl⟩
  · refine Ev.callVH (mc1 := 0) (ms1 := 0) (E := E) (h1 := hq D x1) vL_110 (c_X7_isInCopy Θ D z _ _ _ x _ hv) rfl rfl (by decide) rfl ⟨by decide, by decide, by decide, by decide, Nat.le_of_ble_eq_true rfl⟩ ⟨dL_isInCopy_5, rfl⟩ ?_
    by_cases h0 : E = "java/lang/IndexOutOfBoundsException"
    · subst h0
      have e : (hcode ["java/lang/IndexOutOfBoundsException", "java/lang/IllegalStateException"] "java/lang/IndexOutOfBoundsException").map (fun k => (k, x1)) = some y := h
      simp [hcode, hcodeA] at e
      subst e
      refine Exn.catch (pre := []) (x := (0, 17, 20, 29)) (suf := [(0, 17, 24, 13)]) (i := 4) (ls' := []) rfl (fun w hw => by cases hw) (by decide) (by decide) kL_29 cast_IndexOutOfBoundsException (by decide) (Or.inr ⟨dL_isInCopy_20, rfl⟩) [] rfl rfl ?_
      refine Ev.iconst ⟨dL_isInCopy_22, rfl⟩ (inRd rfl) ?_
      exact Ev.ireturn (ty := .int) ⟨dL_isInCopy_23, rfl⟩ rfl rfl ⟨rfl, rfl⟩
    by_cases h1 : E = "java/lang/IllegalStateException"
    · subst h1
      have e : (hcode ["java/lang/IndexOutOfBoundsException", "java/lang/IllegalStateException"] "java/lang/IllegalStateException").map (fun k => (k, x1)) = some y := h
      simp [hcode, hcodeA] at e
      subst e
      refine Exn.catch (pre := [(0, 17, 20, 29)]) (x := (0, 17, 24, 13)) (suf := []) (i := 4) (ls' := []) rfl (fun w hw => by
        rcases List.mem_cons.mp hw with rfl | hw
        · exact Or.inr ⟨by decide, "java/lang/IndexOutOfBoundsException", kL_29, by decide⟩
        · cases hw) (by decide) (by decide) kL_13 cast_IllegalStateException (by decide) (Or.inr ⟨dL_isInCopy_24, rfl⟩) [] rfl rfl ?_
      refine Ev.iconst ⟨dL_isInCopy_26, rfl⟩ (inRd rfl) ?_
      exact Ev.ireturn (ty := .int) ⟨dL_isInCopy_27, rfl⟩ rfl rfl ⟨rfl, rfl⟩
    exfalso
    have e : (hcode ["java/lang/IndexOutOfBoundsException", "java/lang/IllegalStateException"] E).map (fun k => (k, x1)) = some y := h
    simp [hcode, hcodeA, h0, h1] at e

def F_L_copyField (z : Nat) (v1 : Int) (v2 : Int) (v3 : Int) (x : Mm) : Option (Int × Mm) := (F_X7_copyField z 0 v1 v2 v3 x).bind (hresI ["java/lang/IndexOutOfBoundsException", "java/lang/IllegalStateException"])
set_option maxHeartbeats 4000000 in
theorem c_L_copyField (Θ : GC) (D : Nat → Nat → Prop) (z : Nat) (v1 : Int) (v2 : Int) (v3 : Int) (x : Mm) (y) (h : F_L_copyField z v1 v2 v3 x = some y) : Cal Θ mL_copyField 8 135 5 30 [vr 7 (0 + 1), vi v1, vi v2, vi v3, vr 31 (0 + 1)] (hq D x) (Ret (vi y.1) (hq D y.2)) := by
  refine Cal.ofH (by decide +kernel) rfl (by decide) (Nat.le_of_ble_eq_true rfl) ?_
  show Ev Θ mL_copyField 8 135 5 30 0 [(0, vr 7 (0 + 1)), (1, vi v1), (2, vi v2), (3, vi v3), (4, vr 31 (0 + 1))] [] (hq D x) (Ret (vi y.1) (hq D y.2))
  unfold F_L_copyField at h
  obtain ⟨⟨r, x1⟩, hv, h⟩ := bnd_s h
  refine Ev.aload (q := 4) ⟨dL_copyField_0, rfl⟩ rfl ?_
  refine Ev.iconst ⟨dL_copyField_2, rfl⟩ (inRd rfl) ?_
  refine Ev.aload_n (q := 0) ⟨dL_copyField_3, rfl⟩ rfl rfl ?_
  refine Ev.iload_n (q := 1) ⟨dL_copyField_4, rfl⟩ rfl rfl ?_
  refine Ev.iload_n (q := 2) ⟨dL_copyField_5, rfl⟩ rfl rfl ?_
  refine Ev.iload_n (q := 3) ⟨dL_copyField_6, rfl⟩ rfl rfl ?_
  rcases r with v | E
  · obtain rfl := Option.some.inj h
    refine Ev.callV1 (mc1 := 0) (ms1 := 0) (v := vi v) (h1 := hq D x1) vL_114 (c_X7_copyField Θ D z _ _ _ _ x _ hv) rfl rfl (by decide) rfl ⟨by decide, by decide, by decide, by decide, Nat.le_of_ble_eq_true rfl⟩ ⟨dL_copyField_7, rfl⟩ ?_
    refine Ev.i2l ⟨dL_copyField_10, rfl⟩ ?_
    refine Ev.lastore (by decide) (by decide) (show (0 : Int) < ((1 : Nat) : Int) by decide) ⟨dL_copyField_11, rfl⟩ ?_
    refine Ev.cast ?_ rfl rfl (hqL (v := BitVec.ofInt 64 v) rfl)
    refine Ev.goto jL_copyField_12 ?_
    refine Ev.iconst ⟨dL_copyField_23, rfl⟩ (inRd rfl) ?_
    exact Ev.ireturn (ty := .int) ⟨dL_copyField_24, rfl⟩ rfl rfl ⟨rfl, rfl⟩
  · refine Ev.callVH (mc1 := 0) (ms1 := 0) (E := E) (h1 := hq D x1) vL_114 (c_X7_copyField Θ D z _ _ _ _ x _ hv) rfl rfl (by decide) rfl ⟨by decide, by decide, by decide, by decide, Nat.le_of_ble_eq_true rfl⟩ ⟨dL_copyField_7, rfl⟩ ?_
    by_cases h0 : E = "java/lang/IndexOutOfBoundsException"
    · subst h0
      have e : (hcode ["java/lang/IndexOutOfBoundsException", "java/lang/IllegalStateException"] "java/lang/IndexOutOfBoundsException").map (fun k => (k, x1)) = some y := h
      simp [hcode, hcodeA] at e
      subst e
      refine Exn.catch (pre := []) (x := (0, 12, 15, 29)) (suf := [(0, 12, 19, 13)]) (i := 5) (ls' := []) rfl (fun w hw => by cases hw) (by decide) (by decide) kL_29 cast_IndexOutOfBoundsException (by decide) (Or.inr ⟨dL_copyField_15, rfl⟩) [] rfl rfl ?_
      refine Ev.iconst ⟨dL_copyField_17, rfl⟩ (inRd rfl) ?_
      exact Ev.ireturn (ty := .int) ⟨dL_copyField_18, rfl⟩ rfl rfl ⟨rfl, rfl⟩
    by_cases h1 : E = "java/lang/IllegalStateException"
    · subst h1
      have e : (hcode ["java/lang/IndexOutOfBoundsException", "java/lang/IllegalStateException"] "java/lang/IllegalStateException").map (fun k => (k, x1)) = some y := h
      simp [hcode, hcodeA] at e
      subst e
      refine Exn.catch (pre := [(0, 12, 15, 29)]) (x := (0, 12, 19, 13)) (suf := []) (i := 5) (ls' := []) rfl (fun w hw => by
        rcases List.mem_cons.mp hw with rfl | hw
        · exact Or.inr ⟨by decide, "java/lang/IndexOutOfBoundsException", kL_29, by decide⟩
        · cases hw) (by decide) (by decide) kL_13 cast_IllegalStateException (by decide) (Or.inr ⟨dL_copyField_19, rfl⟩) [] rfl rfl ?_
      refine Ev.iconst ⟨dL_copyField_21, rfl⟩ (inRd rfl) ?_
      exact Ev.ireturn (ty := .int) ⟨dL_copyField_22, rfl⟩ rfl rfl ⟨rfl, rfl⟩
    exfalso
    have e : (hcode ["java/lang/IndexOutOfBoundsException", "java/lang/IllegalStateException"] E).map (fun k => (k, x1)) = some y := h
    simp [hcode, hcodeA, h0, h1] at e

def F_L_changedCount (z : Nat) (v1 : Int) (x : Mm) : Option (Int × Mm) := (F_X7_changedCount z 0 v1 x).bind (hresI ["java/lang/IndexOutOfBoundsException", "java/lang/IllegalStateException"])
set_option maxHeartbeats 4000000 in
theorem c_L_changedCount (Θ : GC) (D : Nat → Nat → Prop) (z : Nat) (v1 : Int) (x : Mm) (y) (h : F_L_changedCount z v1 x = some y) : Cal Θ mL_changedCount 8 132 2 12 [vr 7 (0 + 1), vi v1, vr 31 (0 + 1)] (hq D x) (Ret (vi y.1) (hq D y.2)) := by
  refine Cal.ofH (by decide +kernel) rfl (by decide) (Nat.le_of_ble_eq_true rfl) ?_
  show Ev Θ mL_changedCount 8 132 2 12 0 [(0, vr 7 (0 + 1)), (1, vi v1), (2, vr 31 (0 + 1))] [] (hq D x) (Ret (vi y.1) (hq D y.2))
  unfold F_L_changedCount at h
  obtain ⟨⟨r, x1⟩, hv, h⟩ := bnd_s h
  refine Ev.aload_n (q := 2) ⟨dL_changedCount_0, rfl⟩ rfl rfl ?_
  refine Ev.iconst ⟨dL_changedCount_1, rfl⟩ (inRd rfl) ?_
  refine Ev.aload_n (q := 0) ⟨dL_changedCount_2, rfl⟩ rfl rfl ?_
  refine Ev.iload_n (q := 1) ⟨dL_changedCount_3, rfl⟩ rfl rfl ?_
  rcases r with v | E
  · obtain rfl := Option.some.inj h
    refine Ev.callV1 (mc1 := 0) (ms1 := 0) (v := vi v) (h1 := hq D x1) vL_118 (c_X7_changedCount Θ D z _ _ x _ hv) rfl rfl (by decide) rfl ⟨by decide, by decide, by decide, by decide, Nat.le_of_ble_eq_true rfl⟩ ⟨dL_changedCount_4, rfl⟩ ?_
    refine Ev.i2l ⟨dL_changedCount_7, rfl⟩ ?_
    refine Ev.lastore (by decide) (by decide) (show (0 : Int) < ((1 : Nat) : Int) by decide) ⟨dL_changedCount_8, rfl⟩ ?_
    refine Ev.cast ?_ rfl rfl (hqL (v := BitVec.ofInt 64 v) rfl)
    refine Ev.goto jL_changedCount_9 ?_
    refine Ev.iconst ⟨dL_changedCount_18, rfl⟩ (inRd rfl) ?_
    exact Ev.ireturn (ty := .int) ⟨dL_changedCount_19, rfl⟩ rfl rfl ⟨rfl, rfl⟩
  · refine Ev.callVH (mc1 := 0) (ms1 := 0) (E := E) (h1 := hq D x1) vL_118 (c_X7_changedCount Θ D z _ _ x _ hv) rfl rfl (by decide) rfl ⟨by decide, by decide, by decide, by decide, Nat.le_of_ble_eq_true rfl⟩ ⟨dL_changedCount_4, rfl⟩ ?_
    by_cases h0 : E = "java/lang/IndexOutOfBoundsException"
    · subst h0
      have e : (hcode ["java/lang/IndexOutOfBoundsException", "java/lang/IllegalStateException"] "java/lang/IndexOutOfBoundsException").map (fun k => (k, x1)) = some y := h
      simp [hcode, hcodeA] at e
      subst e
      refine Exn.catch (pre := []) (x := (0, 9, 12, 29)) (suf := [(0, 9, 15, 13)]) (i := 3) (ls' := []) rfl (fun w hw => by cases hw) (by decide) (by decide) kL_29 cast_IndexOutOfBoundsException (by decide) (Or.inl ⟨⟨3, by decide⟩, rfl, ⟨dL_changedCount_12, rfl⟩⟩) [] rfl rfl ?_
      refine Ev.iconst ⟨dL_changedCount_13, rfl⟩ (inRd rfl) ?_
      exact Ev.ireturn (ty := .int) ⟨dL_changedCount_14, rfl⟩ rfl rfl ⟨rfl, rfl⟩
    by_cases h1 : E = "java/lang/IllegalStateException"
    · subst h1
      have e : (hcode ["java/lang/IndexOutOfBoundsException", "java/lang/IllegalStateException"] "java/lang/IllegalStateException").map (fun k => (k, x1)) = some y := h
      simp [hcode, hcodeA] at e
      subst e
      refine Exn.catch (pre := [(0, 9, 12, 29)]) (x := (0, 9, 15, 13)) (suf := []) (i := 3) (ls' := []) rfl (fun w hw => by
        rcases List.mem_cons.mp hw with rfl | hw
        · exact Or.inr ⟨by decide, "java/lang/IndexOutOfBoundsException", kL_29, by decide⟩
        · cases hw) (by decide) (by decide) kL_13 cast_IllegalStateException (by decide) (Or.inl ⟨⟨3, by decide⟩, rfl, ⟨dL_changedCount_15, rfl⟩⟩) [] rfl rfl ?_
      refine Ev.iconst ⟨dL_changedCount_16, rfl⟩ (inRd rfl) ?_
      exact Ev.ireturn (ty := .int) ⟨dL_changedCount_17, rfl⟩ rfl rfl ⟨rfl, rfl⟩
    exfalso
    have e : (hcode ["java/lang/IndexOutOfBoundsException", "java/lang/IllegalStateException"] E).map (fun k => (k, x1)) = some y := h
    simp [hcode, hcodeA, h0, h1] at e

def F_L_preview (z : Nat) (v1 : Int) (x : Mm) : Option (Int × Mm) := (F_X7_preview z 0 v1 x).bind (hresI ["java/lang/IndexOutOfBoundsException", "java/lang/IllegalStateException"])
set_option maxHeartbeats 4000000 in
theorem c_L_preview (Θ : GC) (D : Nat → Nat → Prop) (z : Nat) (v1 : Int) (x : Mm) (y) (h : F_L_preview z v1 x = some y) : Cal Θ mL_preview 8 151 2 12 [vr 7 (0 + 1), vi v1, vr 31 (0 + 1)] (hq D x) (Ret (vi y.1) (hq D y.2)) := by
  refine Cal.ofH (by decide +kernel) rfl (by decide) (Nat.le_of_ble_eq_true rfl) ?_
  show Ev Θ mL_preview 8 151 2 12 0 [(0, vr 7 (0 + 1)), (1, vi v1), (2, vr 31 (0 + 1))] [] (hq D x) (Ret (vi y.1) (hq D y.2))
  unfold F_L_preview at h
  obtain ⟨⟨r, x1⟩, hv, h⟩ := bnd_s h
  refine Ev.aload_n (q := 2) ⟨dL_preview_0, rfl⟩ rfl rfl ?_
  refine Ev.iconst ⟨dL_preview_1, rfl⟩ (inRd rfl) ?_
  refine Ev.aload_n (q := 0) ⟨dL_preview_2, rfl⟩ rfl rfl ?_
  refine Ev.iload_n (q := 1) ⟨dL_preview_3, rfl⟩ rfl rfl ?_
  rcases r with v | E
  · obtain rfl := Option.some.inj h
    refine Ev.callV1 (mc1 := 0) (ms1 := 0) (v := vi v) (h1 := hq D x1) vL_121 (c_X7_preview Θ D z _ _ x _ hv) rfl rfl (by decide) rfl ⟨by decide, by decide, by decide, by decide, Nat.le_of_ble_eq_true rfl⟩ ⟨dL_preview_4, rfl⟩ ?_
    refine Ev.i2l ⟨dL_preview_7, rfl⟩ ?_
    refine Ev.lastore (by decide) (by decide) (show (0 : Int) < ((1 : Nat) : Int) by decide) ⟨dL_preview_8, rfl⟩ ?_
    refine Ev.cast ?_ rfl rfl (hqL (v := BitVec.ofInt 64 v) rfl)
    refine Ev.goto jL_preview_9 ?_
    refine Ev.iconst ⟨dL_preview_18, rfl⟩ (inRd rfl) ?_
    exact Ev.ireturn (ty := .int) ⟨dL_preview_19, rfl⟩ rfl rfl ⟨rfl, rfl⟩
  · refine Ev.callVH (mc1 := 0) (ms1 := 0) (E := E) (h1 := hq D x1) vL_121 (c_X7_preview Θ D z _ _ x _ hv) rfl rfl (by decide) rfl ⟨by decide, by decide, by decide, by decide, Nat.le_of_ble_eq_true rfl⟩ ⟨dL_preview_4, rfl⟩ ?_
    by_cases h0 : E = "java/lang/IndexOutOfBoundsException"
    · subst h0
      have e : (hcode ["java/lang/IndexOutOfBoundsException", "java/lang/IllegalStateException"] "java/lang/IndexOutOfBoundsException").map (fun k => (k, x1)) = some y := h
      simp [hcode, hcodeA] at e
      subst e
      refine Exn.catch (pre := []) (x := (0, 9, 12, 29)) (suf := [(0, 9, 15, 13)]) (i := 3) (ls' := []) rfl (fun w hw => by cases hw) (by decide) (by decide) kL_29 cast_IndexOutOfBoundsException (by decide) (Or.inl ⟨⟨3, by decide⟩, rfl, ⟨dL_preview_12, rfl⟩⟩) [] rfl rfl ?_
      refine Ev.iconst ⟨dL_preview_13, rfl⟩ (inRd rfl) ?_
      exact Ev.ireturn (ty := .int) ⟨dL_preview_14, rfl⟩ rfl rfl ⟨rfl, rfl⟩
    by_cases h1 : E = "java/lang/IllegalStateException"
    · subst h1
      have e : (hcode ["java/lang/IndexOutOfBoundsException", "java/lang/IllegalStateException"] "java/lang/IllegalStateException").map (fun k => (k, x1)) = some y := h
      simp [hcode, hcodeA] at e
      subst e
      refine Exn.catch (pre := [(0, 9, 12, 29)]) (x := (0, 9, 15, 13)) (suf := []) (i := 3) (ls' := []) rfl (fun w hw => by
        rcases List.mem_cons.mp hw with rfl | hw
        · exact Or.inr ⟨by decide, "java/lang/IndexOutOfBoundsException", kL_29, by decide⟩
        · cases hw) (by decide) (by decide) kL_13 cast_IllegalStateException (by decide) (Or.inl ⟨⟨3, by decide⟩, rfl, ⟨dL_preview_15, rfl⟩⟩) [] rfl rfl ?_
      refine Ev.iconst ⟨dL_preview_16, rfl⟩ (inRd rfl) ?_
      exact Ev.ireturn (ty := .int) ⟨dL_preview_17, rfl⟩ rfl rfl ⟨rfl, rfl⟩
    exfalso
    have e : (hcode ["java/lang/IndexOutOfBoundsException", "java/lang/IllegalStateException"] E).map (fun k => (k, x1)) = some y := h
    simp [hcode, hcodeA, h0, h1] at e

def F_L_wouldBe (z : Nat) (v1 : Int) (v2 : Int) (v3 : Int) (x : Mm) : Option (Int × Mm) := (F_X7_wouldBe z 0 v1 v2 v3 x).bind (hresI ["java/lang/IndexOutOfBoundsException", "java/lang/IllegalStateException", "java/util/NoSuchElementException"])
set_option maxHeartbeats 4000000 in
theorem c_L_wouldBe (Θ : GC) (D : Nat → Nat → Prop) (z : Nat) (v1 : Int) (v2 : Int) (v3 : Int) (x : Mm) (y) (h : F_L_wouldBe z v1 v2 v3 x = some y) : Cal Θ mL_wouldBe 8 153 5 30 [vr 7 (0 + 1), vi v1, vi v2, vi v3, vr 31 (0 + 1)] (hq D x) (Ret (vi y.1) (hq D y.2)) := by
  refine Cal.ofH (by decide +kernel) rfl (by decide) (Nat.le_of_ble_eq_true rfl) ?_
  show Ev Θ mL_wouldBe 8 153 5 30 0 [(0, vr 7 (0 + 1)), (1, vi v1), (2, vi v2), (3, vi v3), (4, vr 31 (0 + 1))] [] (hq D x) (Ret (vi y.1) (hq D y.2))
  unfold F_L_wouldBe at h
  obtain ⟨⟨r, x1⟩, hv, h⟩ := bnd_s h
  refine Ev.aload (q := 4) ⟨dL_wouldBe_0, rfl⟩ rfl ?_
  refine Ev.iconst ⟨dL_wouldBe_2, rfl⟩ (inRd rfl) ?_
  refine Ev.aload_n (q := 0) ⟨dL_wouldBe_3, rfl⟩ rfl rfl ?_
  refine Ev.iload_n (q := 1) ⟨dL_wouldBe_4, rfl⟩ rfl rfl ?_
  refine Ev.iload_n (q := 2) ⟨dL_wouldBe_5, rfl⟩ rfl rfl ?_
  refine Ev.iload_n (q := 3) ⟨dL_wouldBe_6, rfl⟩ rfl rfl ?_
  rcases r with v | E
  · obtain rfl := Option.some.inj h
    refine Ev.callV1 (mc1 := 0) (ms1 := 0) (v := vi v) (h1 := hq D x1) vL_124 (c_X7_wouldBe Θ D z _ _ _ _ x _ hv) rfl rfl (by decide) rfl ⟨by decide, by decide, by decide, by decide, Nat.le_of_ble_eq_true rfl⟩ ⟨dL_wouldBe_7, rfl⟩ ?_
    refine Ev.i2l ⟨dL_wouldBe_10, rfl⟩ ?_
    refine Ev.lastore (by decide) (by decide) (show (0 : Int) < ((1 : Nat) : Int) by decide) ⟨dL_wouldBe_11, rfl⟩ ?_
    refine Ev.cast ?_ rfl rfl (hqL (v := BitVec.ofInt 64 v) rfl)
    refine Ev.goto jL_wouldBe_12 ?_
    refine Ev.iconst ⟨dL_wouldBe_27, rfl⟩ (inRd rfl) ?_
    exact Ev.ireturn (ty := .int) ⟨dL_wouldBe_28, rfl⟩ rfl rfl ⟨rfl, rfl⟩
  · refine Ev.callVH (mc1 := 0) (ms1 := 0) (E := E) (h1 := hq D x1) vL_124 (c_X7_wouldBe Θ D z _ _ _ _ x _ hv) rfl rfl (by decide) rfl ⟨by decide, by decide, by decide, by decide, Nat.le_of_ble_eq_true rfl⟩ ⟨dL_wouldBe_7, rfl⟩ ?_
    by_cases h0 : E = "java/lang/IndexOutOfBoundsException"
    · subst h0
      have e : (hcode ["java/lang/IndexOutOfBoundsException", "java/lang/IllegalStateException", "java/util/NoSuchElementException"] "java/lang/IndexOutOfBoundsException").map (fun k => (k, x1)) = some y := h
      simp [hcode, hcodeA] at e
      subst e
      refine Exn.catch (pre := []) (x := (0, 12, 15, 29)) (suf := [(0, 12, 19, 13), (0, 12, 23, 85)]) (i := 5) (ls' := []) rfl (fun w hw => by cases hw) (by decide) (by decide) kL_29 cast_IndexOutOfBoundsException (by decide) (Or.inr ⟨dL_wouldBe_15, rfl⟩) [] rfl rfl ?_
      refine Ev.iconst ⟨dL_wouldBe_17, rfl⟩ (inRd rfl) ?_
      exact Ev.ireturn (ty := .int) ⟨dL_wouldBe_18, rfl⟩ rfl rfl ⟨rfl, rfl⟩
    by_cases h1 : E = "java/lang/IllegalStateException"
    · subst h1
      have e : (hcode ["java/lang/IndexOutOfBoundsException", "java/lang/IllegalStateException", "java/util/NoSuchElementException"] "java/lang/IllegalStateException").map (fun k => (k, x1)) = some y := h
      simp [hcode, hcodeA] at e
      subst e
      refine Exn.catch (pre := [(0, 12, 15, 29)]) (x := (0, 12, 19, 13)) (suf := [(0, 12, 23, 85)]) (i := 5) (ls' := []) rfl (fun w hw => by
        rcases List.mem_cons.mp hw with rfl | hw
        · exact Or.inr ⟨by decide, "java/lang/IndexOutOfBoundsException", kL_29, by decide⟩
        · cases hw) (by decide) (by decide) kL_13 cast_IllegalStateException (by decide) (Or.inr ⟨dL_wouldBe_19, rfl⟩) [] rfl rfl ?_
      refine Ev.iconst ⟨dL_wouldBe_21, rfl⟩ (inRd rfl) ?_
      exact Ev.ireturn (ty := .int) ⟨dL_wouldBe_22, rfl⟩ rfl rfl ⟨rfl, rfl⟩
    by_cases h2 : E = "java/util/NoSuchElementException"
    · subst h2
      have e : (hcode ["java/lang/IndexOutOfBoundsException", "java/lang/IllegalStateException", "java/util/NoSuchElementException"] "java/util/NoSuchElementException").map (fun k => (k, x1)) = some y := h
      simp [hcode, hcodeA] at e
      subst e
      refine Exn.catch (pre := [(0, 12, 15, 29), (0, 12, 19, 13)]) (x := (0, 12, 23, 85)) (suf := []) (i := 5) (ls' := []) rfl (fun w hw => by
        rcases List.mem_cons.mp hw with rfl | hw
        · exact Or.inr ⟨by decide, "java/lang/IndexOutOfBoundsException", kL_29, by decide⟩
        · rcases List.mem_cons.mp hw with rfl | hw
          · exact Or.inr ⟨by decide, "java/lang/IllegalStateException", kL_13, by decide⟩
          · cases hw) (by decide) (by decide) kL_85 cast_NoSuchElementException (by decide) (Or.inr ⟨dL_wouldBe_23, rfl⟩) [] rfl rfl ?_
      refine Ev.iconst ⟨dL_wouldBe_25, rfl⟩ (inRd rfl) ?_
      exact Ev.ireturn (ty := .int) ⟨dL_wouldBe_26, rfl⟩ rfl rfl ⟨rfl, rfl⟩
    exfalso
    have e : (hcode ["java/lang/IndexOutOfBoundsException", "java/lang/IllegalStateException", "java/util/NoSuchElementException"] E).map (fun k => (k, x1)) = some y := h
    simp [hcode, hcodeA, h0, h1, h2] at e

def F_L_isFree (z : Nat) (v1 : Int) (v2 : Int) (x : Mm) : Option (Int × Mm) := (F_X7_isFree z 0 v1 v2 x).bind (hresZ ["java/lang/IndexOutOfBoundsException", "java/lang/IllegalArgumentException", "java/lang/IllegalStateException"])
set_option maxHeartbeats 4000000 in
theorem c_L_isFree (Θ : GC) (D : Nat → Nat → Prop) (z : Nat) (v1 : Int) (v2 : Int) (x : Mm) (y) (h : F_L_isFree z v1 v2 x = some y) : Cal Θ mL_isFree 8 175 4 24 [vr 7 (0 + 1), vi v1, vi v2, vr 31 (0 + 1)] (hq D x) (Ret (vi y.1) (hq D y.2)) := by
  refine Cal.ofH (by decide +kernel) rfl (by decide) (Nat.le_of_ble_eq_true rfl) ?_
  show Ev Θ mL_isFree 8 175 4 24 0 [(0, vr 7 (0 + 1)), (1, vi v1), (2, vi v2), (3, vr 31 (0 + 1))] [] (hq D x) (Ret (vi y.1) (hq D y.2))
  unfold F_L_isFree at h
  obtain ⟨⟨r, x1⟩, hv, h⟩ := bnd_s h
  refine Ev.aload_n (q := 3) ⟨dL_isFree_0, rfl⟩ rfl rfl ?_
  refine Ev.iconst ⟨dL_isFree_1, rfl⟩ (inRd rfl) ?_
  refine Ev.aload_n (q := 0) ⟨dL_isFree_2, rfl⟩ rfl rfl ?_
  refine Ev.iload_n (q := 1) ⟨dL_isFree_3, rfl⟩ rfl rfl ?_
  refine Ev.iload_n (q := 2) ⟨dL_isFree_4, rfl⟩ rfl rfl ?_
  rcases r with v | E
  · obtain rfl := Option.some.inj h
    refine Ev.callV1 (mc1 := 0) (ms1 := 0) (v := vi v) (h1 := hq D x1) vL_127 (c_X7_isFree Θ D z _ _ _ x _ hv) rfl rfl (by decide) rfl ⟨by decide, by decide, by decide, by decide, Nat.le_of_ble_eq_true rfl⟩ ⟨dL_isFree_5, rfl⟩ ?_
    refine Ev.if_eq jL_isFree_8 (fun hc => ?_) (fun hc => ?_)
    · refine Ev.lconst (b := BitVec.ofInt 64 0) ⟨dL_isFree_15, rfl⟩ (by decide) ?_
      show Ev _ _ _ _ _ _ _ _ _ _ (Ret (vi 0) (hq D (wL x1 31 0 0 (BitVec.ofInt 64 (if v = 0 then 0 else 1)))))
      rw [if_pos hc]
      refine Ev.lastore (by decide) (by decide) (show (0 : Int) < ((1 : Nat) : Int) by decide) ⟨dL_isFree_16, rfl⟩ ?_
      refine Ev.cast ?_ rfl rfl (hqL (v := BitVec.ofInt 64 0) rfl)
      refine Ev.goto jL_isFree_17 ?_
      refine Ev.iconst ⟨dL_isFree_32, rfl⟩ (inRd rfl) ?_
      exact Ev.ireturn (ty := .int) ⟨dL_isFree_33, rfl⟩ rfl rfl ⟨rfl, rfl⟩
    · refine Ev.lconst (b := BitVec.ofInt 64 1) ⟨dL_isFree_11, rfl⟩ (by decide) ?_
      refine Ev.goto jL_isFree_12 ?_
      show Ev _ _ _ _ _ _ _ _ _ _ (Ret (vi 0) (hq D (wL x1 31 0 0 (BitVec.ofInt 64 (if v = 0 then 0 else 1)))))
      rw [if_neg hc]
      refine Ev.lastore (by decide) (by decide) (show (0 : Int) < ((1 : Nat) : Int) by decide) ⟨dL_isFree_16, rfl⟩ ?_
      refine Ev.cast ?_ rfl rfl (hqL (v := BitVec.ofInt 64 1) rfl)
      refine Ev.goto jL_isFree_17 ?_
      refine Ev.iconst ⟨dL_isFree_32, rfl⟩ (inRd rfl) ?_
      exact Ev.ireturn (ty := .int) ⟨dL_isFree_33, rfl⟩ rfl rfl ⟨rfl, rfl⟩
  · refine Ev.callVH (mc1 := 0) (ms1 := 0) (E := E) (h1 := hq D x1) vL_127 (c_X7_isFree Θ D z _ _ _ x _ hv) rfl rfl (by decide) rfl ⟨by decide, by decide, by decide, by decide, Nat.le_of_ble_eq_true rfl⟩ ⟨dL_isFree_5, rfl⟩ ?_
    by_cases h0 : E = "java/lang/IndexOutOfBoundsException"
    · subst h0
      have e : (hcode ["java/lang/IndexOutOfBoundsException", "java/lang/IllegalArgumentException", "java/lang/IllegalStateException"] "java/lang/IndexOutOfBoundsException").map (fun k => (k, x1)) = some y := h
      simp [hcode, hcodeA] at e
      subst e
      refine Exn.catch (pre := []) (x := (0, 17, 20, 29)) (suf := [(0, 17, 24, 19), (0, 17, 28, 13)]) (i := 4) (ls' := []) rfl (fun w hw => by cases hw) (by decide) (by decide) kL_29 cast_IndexOutOfBoundsException (by decide) (Or.inr ⟨dL_isFree_20, rfl⟩) [] rfl rfl ?_
      refine Ev.iconst ⟨dL_isFree_22, rfl⟩ (inRd rfl) ?_
      exact Ev.ireturn (ty := .int) ⟨dL_isFree_23, rfl⟩ rfl rfl ⟨rfl, rfl⟩
    by_cases h1 : E = "java/lang/IllegalArgumentException"
    · subst h1
      have e : (hcode ["java/lang/IndexOutOfBoundsException", "java/lang/IllegalArgumentException", "java/lang/IllegalStateException"] "java/lang/IllegalArgumentException").map (fun k => (k, x1)) = some y := h
      simp [hcode, hcodeA] at e
      subst e
      refine Exn.catch (pre := [(0, 17, 20, 29)]) (x := (0, 17, 24, 19)) (suf := [(0, 17, 28, 13)]) (i := 4) (ls' := []) rfl (fun w hw => by
        rcases List.mem_cons.mp hw with rfl | hw
        · exact Or.inr ⟨by decide, "java/lang/IndexOutOfBoundsException", kL_29, by decide⟩
        · cases hw) (by decide) (by decide) kL_19 cast_IllegalArgumentException (by decide) (Or.inr ⟨dL_isFree_24, rfl⟩) [] rfl rfl ?_
      refine Ev.iconst ⟨dL_isFree_26, rfl⟩ (inRd rfl) ?_
      exact Ev.ireturn (ty := .int) ⟨dL_isFree_27, rfl⟩ rfl rfl ⟨rfl, rfl⟩
    by_cases h2 : E = "java/lang/IllegalStateException"
    · subst h2
      have e : (hcode ["java/lang/IndexOutOfBoundsException", "java/lang/IllegalArgumentException", "java/lang/IllegalStateException"] "java/lang/IllegalStateException").map (fun k => (k, x1)) = some y := h
      simp [hcode, hcodeA] at e
      subst e
      refine Exn.catch (pre := [(0, 17, 20, 29), (0, 17, 24, 19)]) (x := (0, 17, 28, 13)) (suf := []) (i := 4) (ls' := []) rfl (fun w hw => by
        rcases List.mem_cons.mp hw with rfl | hw
        · exact Or.inr ⟨by decide, "java/lang/IndexOutOfBoundsException", kL_29, by decide⟩
        · rcases List.mem_cons.mp hw with rfl | hw
          · exact Or.inr ⟨by decide, "java/lang/IllegalArgumentException", kL_19, by decide⟩
          · cases hw) (by decide) (by decide) kL_13 cast_IllegalStateException (by decide) (Or.inr ⟨dL_isFree_28, rfl⟩) [] rfl rfl ?_
      refine Ev.iconst ⟨dL_isFree_30, rfl⟩ (inRd rfl) ?_
      exact Ev.ireturn (ty := .int) ⟨dL_isFree_31, rfl⟩ rfl rfl ⟨rfl, rfl⟩
    exfalso
    have e : (hcode ["java/lang/IndexOutOfBoundsException", "java/lang/IllegalArgumentException", "java/lang/IllegalStateException"] E).map (fun k => (k, x1)) = some y := h
    simp [hcode, hcodeA, h0, h1, h2] at e

def F_L_conflict (z : Nat) (v1 : Int) (v2 : Int) (x : Mm) : Option (Int × Mm) := (F_X7_conflict z 0 v1 v2 x).bind (hresI ["java/lang/IndexOutOfBoundsException", "java/lang/IllegalArgumentException"])
set_option maxHeartbeats 4000000 in
theorem c_L_conflict (Θ : GC) (D : Nat → Nat → Prop) (z : Nat) (v1 : Int) (v2 : Int) (x : Mm) (y) (h : F_L_conflict z v1 v2 x = some y) : Cal Θ mL_conflict 8 133 2 12 [vr 7 (0 + 1), vi v1, vi v2, vr 31 (0 + 1)] (hq D x) (Ret (vi y.1) (hq D y.2)) := by
  refine Cal.ofH (by decide +kernel) rfl (by decide) (Nat.le_of_ble_eq_true rfl) ?_
  show Ev Θ mL_conflict 8 133 2 12 0 [(0, vr 7 (0 + 1)), (1, vi v1), (2, vi v2), (3, vr 31 (0 + 1))] [] (hq D x) (Ret (vi y.1) (hq D y.2))
  unfold F_L_conflict at h
  obtain ⟨⟨r, x1⟩, hv, h⟩ := bnd_s h
  refine Ev.aload_n (q := 3) ⟨dL_conflict_0, rfl⟩ rfl rfl ?_
  refine Ev.iconst ⟨dL_conflict_1, rfl⟩ (inRd rfl) ?_
  refine Ev.aload_n (q := 0) ⟨dL_conflict_2, rfl⟩ rfl rfl ?_
  refine Ev.iload_n (q := 1) ⟨dL_conflict_3, rfl⟩ rfl rfl ?_
  refine Ev.iload_n (q := 2) ⟨dL_conflict_4, rfl⟩ rfl rfl ?_
  rcases r with v | E
  · obtain rfl := Option.some.inj h
    refine Ev.callV1 (mc1 := 0) (ms1 := 0) (v := vi v) (h1 := hq D x1) vL_130 (c_X7_conflict Θ D z _ _ _ x _ hv) rfl rfl (by decide) rfl ⟨by decide, by decide, by decide, by decide, Nat.le_of_ble_eq_true rfl⟩ ⟨dL_conflict_5, rfl⟩ ?_
    refine Ev.i2l ⟨dL_conflict_8, rfl⟩ ?_
    refine Ev.lastore (by decide) (by decide) (show (0 : Int) < ((1 : Nat) : Int) by decide) ⟨dL_conflict_9, rfl⟩ ?_
    refine Ev.cast ?_ rfl rfl (hqL (v := BitVec.ofInt 64 v) rfl)
    refine Ev.goto jL_conflict_10 ?_
    refine Ev.iconst ⟨dL_conflict_21, rfl⟩ (inRd rfl) ?_
    exact Ev.ireturn (ty := .int) ⟨dL_conflict_22, rfl⟩ rfl rfl ⟨rfl, rfl⟩
  · refine Ev.callVH (mc1 := 0) (ms1 := 0) (E := E) (h1 := hq D x1) vL_130 (c_X7_conflict Θ D z _ _ _ x _ hv) rfl rfl (by decide) rfl ⟨by decide, by decide, by decide, by decide, Nat.le_of_ble_eq_true rfl⟩ ⟨dL_conflict_5, rfl⟩ ?_
    by_cases h0 : E = "java/lang/IndexOutOfBoundsException"
    · subst h0
      have e : (hcode ["java/lang/IndexOutOfBoundsException", "java/lang/IllegalArgumentException"] "java/lang/IndexOutOfBoundsException").map (fun k => (k, x1)) = some y := h
      simp [hcode, hcodeA] at e
      subst e
      refine Exn.catch (pre := []) (x := (0, 10, 13, 29)) (suf := [(0, 10, 17, 19)]) (i := 4) (ls' := []) rfl (fun w hw => by cases hw) (by decide) (by decide) kL_29 cast_IndexOutOfBoundsException (by decide) (Or.inr ⟨dL_conflict_13, rfl⟩) [] rfl rfl ?_
      refine Ev.iconst ⟨dL_conflict_15, rfl⟩ (inRd rfl) ?_
      exact Ev.ireturn (ty := .int) ⟨dL_conflict_16, rfl⟩ rfl rfl ⟨rfl, rfl⟩
    by_cases h1 : E = "java/lang/IllegalArgumentException"
    · subst h1
      have e : (hcode ["java/lang/IndexOutOfBoundsException", "java/lang/IllegalArgumentException"] "java/lang/IllegalArgumentException").map (fun k => (k, x1)) = some y := h
      simp [hcode, hcodeA] at e
      subst e
      refine Exn.catch (pre := [(0, 10, 13, 29)]) (x := (0, 10, 17, 19)) (suf := []) (i := 4) (ls' := []) rfl (fun w hw => by
        rcases List.mem_cons.mp hw with rfl | hw
        · exact Or.inr ⟨by decide, "java/lang/IndexOutOfBoundsException", kL_29, by decide⟩
        · cases hw) (by decide) (by decide) kL_19 cast_IllegalArgumentException (by decide) (Or.inr ⟨dL_conflict_17, rfl⟩) [] rfl rfl ?_
      refine Ev.iconst ⟨dL_conflict_19, rfl⟩ (inRd rfl) ?_
      exact Ev.ireturn (ty := .int) ⟨dL_conflict_20, rfl⟩ rfl rfl ⟨rfl, rfl⟩
    exfalso
    have e : (hcode ["java/lang/IndexOutOfBoundsException", "java/lang/IllegalArgumentException"] E).map (fun k => (k, x1)) = some y := h
    simp [hcode, hcodeA, h0, h1] at e

def F_L_conflictsOf (z : Nat) (v1 : Int) (x : Mm) : Option (Int × Mm) := (F_X7_conflictsOf z 0 v1 x).bind (hresI ["java/lang/IllegalArgumentException"])
set_option maxHeartbeats 4000000 in
theorem c_L_conflictsOf (Θ : GC) (D : Nat → Nat → Prop) (z : Nat) (v1 : Int) (x : Mm) (y) (h : F_L_conflictsOf z v1 x = some y) : Cal Θ mL_conflictsOf 7 111 1 6 [vr 7 (0 + 1), vi v1, vr 31 (0 + 1)] (hq D x) (Ret (vi y.1) (hq D y.2)) := by
  refine Cal.ofH (by decide +kernel) rfl (by decide) (Nat.le_of_ble_eq_true rfl) ?_
  show Ev Θ mL_conflictsOf 7 111 1 6 0 [(0, vr 7 (0 + 1)), (1, vi v1), (2, vr 31 (0 + 1))] [] (hq D x) (Ret (vi y.1) (hq D y.2))
  unfold F_L_conflictsOf at h
  obtain ⟨⟨r, x1⟩, hv, h⟩ := bnd_s h
  refine Ev.aload_n (q := 2) ⟨dL_conflictsOf_0, rfl⟩ rfl rfl ?_
  refine Ev.iconst ⟨dL_conflictsOf_1, rfl⟩ (inRd rfl) ?_
  refine Ev.aload_n (q := 0) ⟨dL_conflictsOf_2, rfl⟩ rfl rfl ?_
  refine Ev.iload_n (q := 1) ⟨dL_conflictsOf_3, rfl⟩ rfl rfl ?_
  rcases r with v | E
  · obtain rfl := Option.some.inj h
    refine Ev.callV1 (mc1 := 0) (ms1 := 0) (v := vi v) (h1 := hq D x1) vL_133 (c_X7_conflictsOf Θ D z _ _ x _ hv) rfl rfl (by decide) rfl ⟨by decide, by decide, by decide, by decide, Nat.le_of_ble_eq_true rfl⟩ ⟨dL_conflictsOf_4, rfl⟩ ?_
    refine Ev.i2l ⟨dL_conflictsOf_7, rfl⟩ ?_
    refine Ev.lastore (by decide) (by decide) (show (0 : Int) < ((1 : Nat) : Int) by decide) ⟨dL_conflictsOf_8, rfl⟩ ?_
    refine Ev.cast ?_ rfl rfl (hqL (v := BitVec.ofInt 64 v) rfl)
    refine Ev.goto jL_conflictsOf_9 ?_
    refine Ev.iconst ⟨dL_conflictsOf_15, rfl⟩ (inRd rfl) ?_
    exact Ev.ireturn (ty := .int) ⟨dL_conflictsOf_16, rfl⟩ rfl rfl ⟨rfl, rfl⟩
  · refine Ev.callVH (mc1 := 0) (ms1 := 0) (E := E) (h1 := hq D x1) vL_133 (c_X7_conflictsOf Θ D z _ _ x _ hv) rfl rfl (by decide) rfl ⟨by decide, by decide, by decide, by decide, Nat.le_of_ble_eq_true rfl⟩ ⟨dL_conflictsOf_4, rfl⟩ ?_
    by_cases h0 : E = "java/lang/IllegalArgumentException"
    · subst h0
      have e : (hcode ["java/lang/IllegalArgumentException"] "java/lang/IllegalArgumentException").map (fun k => (k, x1)) = some y := h
      simp [hcode, hcodeA] at e
      subst e
      refine Exn.catch (pre := []) (x := (0, 9, 12, 19)) (suf := []) (i := 3) (ls' := []) rfl (fun w hw => by cases hw) (by decide) (by decide) kL_19 cast_IllegalArgumentException (by decide) (Or.inl ⟨⟨3, by decide⟩, rfl, ⟨dL_conflictsOf_12, rfl⟩⟩) [] rfl rfl ?_
      refine Ev.iconst ⟨dL_conflictsOf_13, rfl⟩ (inRd rfl) ?_
      exact Ev.ireturn (ty := .int) ⟨dL_conflictsOf_14, rfl⟩ rfl rfl ⟨rfl, rfl⟩
    exfalso
    have e : (hcode ["java/lang/IllegalArgumentException"] E).map (fun k => (k, x1)) = some y := h
    simp [hcode, hcodeA, h0] at e
