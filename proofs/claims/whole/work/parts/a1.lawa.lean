/-! The law's cases. -/
abbrev mL_law (nm : String) (hh : List (Nat × Nat × Nat × Nat)) : MD := (⟨RL, nm, ""⟩, code, 8, ret, RL, hh)
def bnz (a : Int) : Int := if a = 0 then 0 else 1
theorem bnz_01 (a : Int) : bnz a = 0 ∨ bnz a = 1 := by unfold bnz; split <;> simp
theorem inRo {a : Int} (h1 : -2147483648 ≤ a) (h2 : a ≤ 2147483647) : inR a := ⟨h1, h2⟩
theorem lcm_self (a : BitVec 64) : lcm a a = 0 := by unfold lcm; rw [if_neg (by omega), if_pos rfl]
abbrev scr (Θ : GC) (k : Int) : Int := (gX Θ k.toNat).toInt
abbrev lQ : Ro → Hp → Prop := fun o _ => o = .inl (some (vi 1))
section
variable {Θ : GC} {M : MD} {fr lc mc ms pc pc' p1 p2 pf pe : Nat} {ls ls' : List (Nat × Vv)} {st : List Vv} {h : Hp} {Q : Ro → Hp → Prop} {a off off2 : Int}
theorem Ev.bz (d : Dj (mB M) pc (.ifCond .eq off) off 3 p1 pf) (d1 : Dq (mB M) p1 (.iconst 1) 1 p2) (dg : Dj (mB M) p2 (.goto off2) off2 3 pf pe) (d0 : Dq (mB M) pf (.iconst 0) 1 pe) (k : Ev Θ M fr lc mc ms pe ls (vi (bnz a) :: st) h Q) : Ev Θ M fr lc mc ms pc ls (vi a :: st) h Q := by
  refine Ev.if_eq d (fun hc => ?_) (fun hc => ?_)
  · have e : bnz a = 0 := if_pos hc
    rw [e] at k
    exact Ev.iconst d0 (inRd rfl) k
  · have e : bnz a = 1 := if_neg hc
    rw [e] at k
    exact Ev.iconst d1 (inRd rfl) (Ev.goto dg k)
theorem Ev.bzl (d : Dj (mB M) pc (.ifCond .eq off) off 3 p1 pf) (d1 : Dq (mB M) p1 (.lconst 1) 1 p2) (dg : Dj (mB M) p2 (.goto off2) off2 3 pf pe) (d0 : Dq (mB M) pf (.lconst 0) 1 pe) (k : Ev Θ M fr lc mc ms pe ls (vl (BitVec.ofInt 64 (if a = 0 then 0 else 1)) :: st) h Q) : Ev Θ M fr lc mc ms pc ls (vi a :: st) h Q := by
  refine Ev.if_eq d (fun hc => ?_) (fun hc => ?_)
  · rw [if_pos hc] at k
    exact Ev.lconst d0 (by decide) k
  · rw [if_neg hc] at k
    exact Ev.lconst d1 (by decide) (Ev.goto dg k)
theorem Ev.callH1 {N : MD} {ix n fr' lc' mc' ms' mc1 ms1 : Nat} {as st0 : List Vv} {v : Vv} {h1 : Hp} (f : HOK (mO M) ix N n) (hM : Cal Θ N fr' lc' mc' ms' as h (Ret v h1)) (hst0 : st0 = as.reverse ++ st) (hn : as.length = n) (hb : Bud N fr lc mc ms fr' lc' mc' ms' mc1 ms1 st) (d : Dq (mB M) pc (.invokestatic ix) 3 pc')
    (k : Ev Θ M fr lc mc1 ms1 pc' ls (v :: st) h1 Q) : Ev Θ M fr lc mc ms pc ls st0 h Q :=
  Ev.callH f hst0 hn hM hb.1 hb.2.1 hb.2.2.1 hb.2.2.2.1 hb.2.2.2.2 d (fun r h' q => by cases q.1; cases q.2; exact k) (fun E h' q => by cases q.1)
end
section
variable {L : List String} {x : Mm}
theorem wL_out {v : BitVec 64} : (wL x 31 0 0 v).2 31 0 0 = v := by
  show up3 x.2 31 0 0 v 31 0 0 = v
  exact up3_s
/-- one call of both, as the law makes it -/
theorem rnI {F7 : Mm → Option ((Int ⊕ String) × Mm)} {F8 : Mm → Option (Int × Mm)} (hp : Pr L F7 F8 x) (hn : ∀ (L' : Nat → Nat → Nat → BitVec 64) (w : Mm), F8 (w.1, L') = (F8 w).map (nl L')) :
    ∃ k x1 b x2, (F7 x).bind (hresI L) = some (k, x1) ∧ F8 x1 = some (b, x2) ∧ x2.1 8 0 0 = k ∧ (k = 0 → x2.2 31 0 0 = BitVec.ofInt 64 b) ∧ Inv x2 := by
  obtain ⟨y, x1, b, x2, e1, e2, e3, e4⟩ := hp
  rcases e4 with ⟨rfl, e4⟩ | ⟨E, rfl, e4, e5⟩
  · have hl : x2.2 = x1.2 := by
      have := hn x1.2 x1
      rw [show ((x1.1, x1.2) : Mm) = x1 from rfl, e2] at this
      exact congrArg (fun w => w.2.2) (Option.some.inj this)
    refine ⟨0, wL x1 31 0 0 (BitVec.ofInt 64 b), b, wL x2 31 0 0 (BitVec.ofInt 64 b), by rw [e1]; rfl, ?_, e4, fun _ => wL_out, Inv_out e3⟩
    show F8 (x1.1, up3 x1.2 31 0 0 (BitVec.ofInt 64 b)) = _
    rw [hn, e2, ← hl]; rfl
  · refine ⟨x2.1 8 0 0, x1, b, x2, ?_, e2, rfl, fun q => absurd q e5, e3⟩
    rw [e1]
    show (hcode L E).map _ = _
    rw [e4]; rfl
theorem rnZ {F7 : Mm → Option ((Int ⊕ String) × Mm)} {F8 : Mm → Option (Int × Mm)} (hp : Pr L F7 F8 x) (hn : ∀ (L' : Nat → Nat → Nat → BitVec 64) (w : Mm), F8 (w.1, L') = (F8 w).map (nl L')) :
    ∃ k x1 b x2, (F7 x).bind (hresZ L) = some (k, x1) ∧ F8 x1 = some (b, x2) ∧ x2.1 8 0 0 = k ∧ (k = 0 → x2.2 31 0 0 = BitVec.ofInt 64 (if b = 0 then 0 else 1)) ∧ Inv x2 := by
  obtain ⟨y, x1, b, x2, e1, e2, e3, e4⟩ := hp
  rcases e4 with ⟨rfl, e4⟩ | ⟨E, rfl, e4, e5⟩
  · have hl : x2.2 = x1.2 := by
      have := hn x1.2 x1
      rw [show ((x1.1, x1.2) : Mm) = x1 from rfl, e2] at this
      exact congrArg (fun w => w.2.2) (Option.some.inj this)
    refine ⟨0, wL x1 31 0 0 (BitVec.ofInt 64 (if b = 0 then 0 else 1)), b, wL x2 31 0 0 (BitVec.ofInt 64 (if b = 0 then 0 else 1)), by rw [e1]; rfl, ?_, e4, fun _ => wL_out, Inv_out e3⟩
    show F8 (x1.1, up3 x1.2 31 0 0 (BitVec.ofInt 64 (if b = 0 then 0 else 1))) = _
    rw [hn, e2, ← hl]; rfl
  · refine ⟨x2.1 8 0 0, x1, b, x2, ?_, e2, rfl, fun q => absurd q e5, e3⟩
    rw [e1]
    show (hcode L E).map _ = _
    rw [e4]; rfl
theorem rnL {F7 : Mm → Option ((BitVec 64 ⊕ String) × Mm)} {F8 : Mm → Option (BitVec 64 × Mm)} (hi : Inv x) (hp : ∃ y b t, F7 x = some (y, x) ∧ F8 x = some (b, th x t) ∧ ((y = .inl b ∧ t = 0) ∨ (∃ E, y = .inr E ∧ hcode L E = some t ∧ t ≠ 0))) (hn : ∀ (L' : Nat → Nat → Nat → BitVec 64) (w : Mm), F8 (w.1, L') = (F8 w).map (nl L')) :
    ∃ k x1 b x2, (F7 x).bind (hresL L) = some (k, x1) ∧ F8 x1 = some (b, x2) ∧ x2.1 8 0 0 = k ∧ (k = 0 → x2.2 31 0 0 = b) ∧ Inv x2 := by
  obtain ⟨y, b, t, e1, e2, e4⟩ := hp
  rcases e4 with ⟨rfl, rfl⟩ | ⟨E, rfl, e4, e5⟩
  · refine ⟨0, wL x 31 0 0 b, b, wL (th x 0) 31 0 0 b, by rw [e1]; rfl, ?_, th_0 (x := x), fun _ => wL_out, Inv_out (Inv_th hi)⟩
    show F8 (x.1, up3 x.2 31 0 0 b) = _
    rw [hn, e2]; rfl
  · refine ⟨t, x, b, th x t, ?_, e2, th_0, fun q => absurd q e5, Inv_th hi⟩
    rw [e1]
    show (hcode L E).map _ = _
    rw [e4]; rfl
end
theorem f_thrown {z : Nat} {x : Mm} : F_X8_thrown z 0 x = some (x.1 8 0 0) := rfl

set_option maxHeartbeats 4000000 in
set_option maxRecDepth 20000 in
theorem la_append {nm : String} {hh : List (Nat × Nat × Nat × Nat)} {Θ : GC} {D : Nat → Nat → Prop} {x : Mm} {i : Int} {mc ms : Nat} (h : Inv x) (hN : gN Θ ≤ 3072) (h0 : 0 ≤ i) (h6 : i + 6 ≤ (gN Θ : Int)) (kk : ∀ x2, Inv x2 → Ev Θ (mL_law nm hh) 14 504 mc ms 2743 [(0, vr 13 1), (1, vr 7 (0 + 1)), (2, vr 8 (0 + 1)), (3, vr 31 (0 + 1)), (4, vi i)] [] (hq D x2) lQ) : Ev Θ (mL_law nm hh) 14 504 (mc + 6) (ms + 36) 224 [(0, vr 13 1), (1, vr 7 (0 + 1)), (2, vr 8 (0 + 1)), (3, vr 31 (0 + 1)), (4, vi i)] [] (hq D x) lQ := by
  have hq1 : ∃ k x1 b x2, F_L_append 50000 (scr Θ (i + 1)) (scr Θ (i + 2)) (scr Θ (i + 3)) (scr Θ (i + 4)) (scr Θ (i + 5)) x = some (k, x1) ∧ F_X8_append 50000 0 (scr Θ (i + 1)) (scr Θ (i + 2)) (scr Θ (i + 3)) (scr Θ (i + 4)) (scr Θ (i + 5)) x1 = some (b, x2) ∧ x2.1 8 0 0 = k ∧ (k = 0 → x2.2 31 0 0 = BitVec.ofInt 64 b) ∧ Inv x2 := rnI (F7 := F_X7_append 50000 0 (scr Θ (i + 1)) (scr Θ (i + 2)) (scr Θ (i + 3)) (scr Θ (i + 4)) (scr Θ (i + 5))) (F8 := F_X8_append 50000 0 (scr Θ (i + 1)) (scr Θ (i + 2)) (scr Θ (i + 3)) (scr Θ (i + 4)) (scr Θ (i + 5))) (p_append (by decide) h (scr Θ (i + 1)) (scr Θ (i + 2)) (scr Θ (i + 3)) (scr Θ (i + 4)) (scr Θ (i + 5))) (fun L w => n_X8_append L 50000 0 (scr Θ (i + 1)) (scr Θ (i + 2)) (scr Θ (i + 3)) (scr Θ (i + 4)) (scr Θ (i + 5)) w)
  obtain ⟨k, x1, b, x2, e1, e2, e3, e4, e5⟩ := hq1
  refine Ev.aload_n (q := 1) ⟨dL_law_224, rfl⟩ rfl rfl ?_
  refine Ev.aload_n (q := 0) ⟨dL_law_225, rfl⟩ rfl rfl ?_
  refine Ev.iload (q := 4) ⟨dL_law_226, rfl⟩ rfl ?_
  refine Ev.iconst ⟨dL_law_228, rfl⟩ (inRd rfl) ?_
  refine Ev.iadd ⟨dL_law_229, rfl⟩ (inRo (by omega) (by omega)) ?_
  refine Ev.sload (by omega) (by omega) ⟨dL_law_230, rfl⟩ ?_
  refine Ev.aload_n (q := 0) ⟨dL_law_231, rfl⟩ rfl rfl ?_
  refine Ev.iload (q := 4) ⟨dL_law_232, rfl⟩ rfl ?_
  refine Ev.iconst ⟨dL_law_234, rfl⟩ (inRd rfl) ?_
  refine Ev.iadd ⟨dL_law_235, rfl⟩ (inRo (by omega) (by omega)) ?_
  refine Ev.sload (by omega) (by omega) ⟨dL_law_236, rfl⟩ ?_
  refine Ev.aload_n (q := 0) ⟨dL_law_237, rfl⟩ rfl rfl ?_
  refine Ev.iload (q := 4) ⟨dL_law_238, rfl⟩ rfl ?_
  refine Ev.iconst ⟨dL_law_240, rfl⟩ (inRd rfl) ?_
  refine Ev.iadd ⟨dL_law_241, rfl⟩ (inRo (by omega) (by omega)) ?_
  refine Ev.sload (by omega) (by omega) ⟨dL_law_242, rfl⟩ ?_
  refine Ev.aload_n (q := 0) ⟨dL_law_243, rfl⟩ rfl rfl ?_
  refine Ev.iload (q := 4) ⟨dL_law_244, rfl⟩ rfl ?_
  refine Ev.iconst ⟨dL_law_246, rfl⟩ (inRd rfl) ?_
  refine Ev.iadd ⟨dL_law_247, rfl⟩ (inRo (by omega) (by omega)) ?_
  refine Ev.sload (by omega) (by omega) ⟨dL_law_248, rfl⟩ ?_
  refine Ev.aload_n (q := 0) ⟨dL_law_249, rfl⟩ rfl rfl ?_
  refine Ev.iload (q := 4) ⟨dL_law_250, rfl⟩ rfl ?_
  refine Ev.iconst ⟨dL_law_252, rfl⟩ (inRd rfl) ?_
  refine Ev.iadd ⟨dL_law_253, rfl⟩ (inRo (by omega) (by omega)) ?_
  refine Ev.sload (by omega) (by omega) ⟨dL_law_254, rfl⟩ ?_
  refine Ev.aload_n (q := 3) ⟨dL_law_255, rfl⟩ rfl rfl ?_
  refine Ev.callH1 (mc1 := mc) (ms1 := ms) (v := vi k) (h1 := hq D x1) hL_140 (c_L_append Θ D 50000 _ _ _ _ _ x _ e1) rfl rfl ⟨by decide, by decide, by omega, by omega, Nat.le_of_ble_eq_true rfl⟩ ⟨dL_law_256, rfl⟩ ?_
  refine Ev.istore (i := 5) (ls' := [(0, vr 13 1), (1, vr 7 (0 + 1)), (2, vr 8 (0 + 1)), (3, vr 31 (0 + 1)), (4, vi i), (5, vi k)]) ⟨dL_law_259, rfl⟩ (Nat.le_of_ble_eq_true rfl) rfl ?_
  refine Ev.aload_n (q := 2) ⟨dL_law_261, rfl⟩ rfl rfl ?_
  refine Ev.aload_n (q := 0) ⟨dL_law_262, rfl⟩ rfl rfl ?_
  refine Ev.iload (q := 4) ⟨dL_law_263, rfl⟩ rfl ?_
  refine Ev.iconst ⟨dL_law_265, rfl⟩ (inRd rfl) ?_
  refine Ev.iadd ⟨dL_law_266, rfl⟩ (inRo (by omega) (by omega)) ?_
  refine Ev.sload (by omega) (by omega) ⟨dL_law_267, rfl⟩ ?_
  refine Ev.aload_n (q := 0) ⟨dL_law_268, rfl⟩ rfl rfl ?_
  refine Ev.iload (q := 4) ⟨dL_law_269, rfl⟩ rfl ?_
  refine Ev.iconst ⟨dL_law_271, rfl⟩ (inRd rfl) ?_
  refine Ev.iadd ⟨dL_law_272, rfl⟩ (inRo (by omega) (by omega)) ?_
  refine Ev.sload (by omega) (by omega) ⟨dL_law_273, rfl⟩ ?_
  refine Ev.aload_n (q := 0) ⟨dL_law_274, rfl⟩ rfl rfl ?_
  refine Ev.iload (q := 4) ⟨dL_law_275, rfl⟩ rfl ?_
  refine Ev.iconst ⟨dL_law_277, rfl⟩ (inRd rfl) ?_
  refine Ev.iadd ⟨dL_law_278, rfl⟩ (inRo (by omega) (by omega)) ?_
  refine Ev.sload (by omega) (by omega) ⟨dL_law_279, rfl⟩ ?_
  refine Ev.aload_n (q := 0) ⟨dL_law_280, rfl⟩ rfl rfl ?_
  refine Ev.iload (q := 4) ⟨dL_law_281, rfl⟩ rfl ?_
  refine Ev.iconst ⟨dL_law_283, rfl⟩ (inRd rfl) ?_
  refine Ev.iadd ⟨dL_law_284, rfl⟩ (inRo (by omega) (by omega)) ?_
  refine Ev.sload (by omega) (by omega) ⟨dL_law_285, rfl⟩ ?_
  refine Ev.aload_n (q := 0) ⟨dL_law_286, rfl⟩ rfl rfl ?_
  refine Ev.iload (q := 4) ⟨dL_law_287, rfl⟩ rfl ?_
  refine Ev.iconst ⟨dL_law_289, rfl⟩ (inRd rfl) ?_
  refine Ev.iadd ⟨dL_law_290, rfl⟩ (inRo (by omega) (by omega)) ?_
  refine Ev.sload (by omega) (by omega) ⟨dL_law_291, rfl⟩ ?_
  refine Ev.callV1 (mc1 := mc) (ms1 := ms) (v := vi b) (h1 := hq D x2) vL_145 (c_X8_append Θ D 50000 0 _ _ _ _ _ x1 _ e2) rfl rfl (by decide) rfl ⟨by decide, by decide, by omega, by omega, Nat.le_of_ble_eq_true rfl⟩ ⟨dL_law_292, rfl⟩ ?_
  refine Ev.istore (i := 6) (ls' := [(0, vr 13 1), (1, vr 7 (0 + 1)), (2, vr 8 (0 + 1)), (3, vr 31 (0 + 1)), (4, vi i), (5, vi k), (6, vi b)]) ⟨dL_law_295, rfl⟩ (Nat.le_of_ble_eq_true rfl) rfl ?_
  refine Ev.aload_n (q := 2) ⟨dL_law_297, rfl⟩ rfl rfl ?_
  refine Ev.callV1 (mc1 := mc) (ms1 := ms) (v := vi (x2.1 8 0 0)) (h1 := hq D x2) vL_146 (c_X8_thrown Θ D 50000 0 x2 _ f_thrown) rfl rfl (by decide) rfl ⟨by decide, by decide, by omega, by omega, Nat.le_of_ble_eq_true rfl⟩ ⟨dL_law_298, rfl⟩ ?_
  refine Ev.iload (q := 5) ⟨dL_law_301, rfl⟩ rfl ?_
  refine Ev.icmp_eq jL_law_303 (fun _ => ?_) (fun hc => absurd e3 hc)
  refine Ev.iload (q := 5) ⟨dL_law_308, rfl⟩ rfl ?_
  have fin : Ev Θ (mL_law nm hh) 14 504 mc ms 325 [(0, vr 13 1), (1, vr 7 (0 + 1)), (2, vr 8 (0 + 1)), (3, vr 31 (0 + 1)), (4, vi i), (5, vi k), (6, vi b)] [] (hq D x2) lQ := by
    refine Ev.goto jL_law_325 ?_
    refine Ev.keep [0, 1, 2, 3, 4] rfl ?_
    exact kk x2 e5
  refine Ev.if_ne jL_law_310 (fun _ => fin) (fun hc => ?_)
  refine Ev.aload_n (q := 3) ⟨dL_law_313, rfl⟩ rfl rfl ?_
  refine Ev.iconst ⟨dL_law_314, rfl⟩ (inRd rfl) ?_
  refine Ev.laload (by decide) (by decide) (show (0 : Int) < ((1 : Nat) : Int) by decide) ⟨dL_law_315, rfl⟩ ?_
  refine Ev.iload (q := 6) ⟨dL_law_316, rfl⟩ rfl ?_
  refine Ev.i2l ⟨dL_law_318, rfl⟩ ?_
  refine Ev.lcmp ⟨dL_law_319, rfl⟩ ?_
  refine Ev.if_eq jL_law_320 (fun _ => fin) (fun hc => absurd ?_ hc)
  show lcm (x2.2 31 0 0) (BitVec.ofInt 64 b) = 0
  rw [e4 (by assumption)]; exact lcm_self _

set_option maxHeartbeats 4000000 in
set_option maxRecDepth 20000 in
theorem la_truncate {nm : String} {hh : List (Nat × Nat × Nat × Nat)} {Θ : GC} {D : Nat → Nat → Prop} {x : Mm} {i : Int} {mc ms : Nat} (h : Inv x) (hN : gN Θ ≤ 3072) (h0 : 0 ≤ i) (h6 : i + 6 ≤ (gN Θ : Int)) (kk : ∀ x2, Inv x2 → Ev Θ (mL_law nm hh) 14 504 mc ms 2743 [(0, vr 13 1), (1, vr 7 (0 + 1)), (2, vr 8 (0 + 1)), (3, vr 31 (0 + 1)), (4, vi i)] [] (hq D x2) lQ) : Ev Θ (mL_law nm hh) 14 504 (mc + 6) (ms + 36) 328 [(0, vr 13 1), (1, vr 7 (0 + 1)), (2, vr 8 (0 + 1)), (3, vr 31 (0 + 1)), (4, vi i)] [] (hq D x) lQ := by
  have hq1 : ∃ k x1 b x2, F_L_truncate 50000 (scr Θ (i + 1)) x = some (k, x1) ∧ F_X8_truncate 50000 0 (scr Θ (i + 1)) x1 = some (b, x2) ∧ x2.1 8 0 0 = k ∧ (k = 0 → x2.2 31 0 0 = BitVec.ofInt 64 b) ∧ Inv x2 := rnI (F7 := F_X7_truncate 50000 0 (scr Θ (i + 1))) (F8 := F_X8_truncate 50000 0 (scr Θ (i + 1))) (p_truncate h (scr Θ (i + 1))) (fun L w => n_X8_truncate L 50000 0 (scr Θ (i + 1)) w)
  obtain ⟨k, x1, b, x2, e1, e2, e3, e4, e5⟩ := hq1
  refine Ev.aload_n (q := 1) ⟨dL_law_328, rfl⟩ rfl rfl ?_
  refine Ev.aload_n (q := 0) ⟨dL_law_329, rfl⟩ rfl rfl ?_
  refine Ev.iload (q := 4) ⟨dL_law_330, rfl⟩ rfl ?_
  refine Ev.iconst ⟨dL_law_332, rfl⟩ (inRd rfl) ?_
  refine Ev.iadd ⟨dL_law_333, rfl⟩ (inRo (by omega) (by omega)) ?_
  refine Ev.sload (by omega) (by omega) ⟨dL_law_334, rfl⟩ ?_
  refine Ev.aload_n (q := 3) ⟨dL_law_335, rfl⟩ rfl rfl ?_
  refine Ev.callH1 (mc1 := mc) (ms1 := ms) (v := vi k) (h1 := hq D x1) hL_149 (c_L_truncate Θ D 50000 _ x _ e1) rfl rfl ⟨by decide, by decide, by omega, by omega, Nat.le_of_ble_eq_true rfl⟩ ⟨dL_law_336, rfl⟩ ?_
  refine Ev.istore (i := 5) (ls' := [(0, vr 13 1), (1, vr 7 (0 + 1)), (2, vr 8 (0 + 1)), (3, vr 31 (0 + 1)), (4, vi i), (5, vi k)]) ⟨dL_law_339, rfl⟩ (Nat.le_of_ble_eq_true rfl) rfl ?_
  refine Ev.aload_n (q := 2) ⟨dL_law_341, rfl⟩ rfl rfl ?_
  refine Ev.aload_n (q := 0) ⟨dL_law_342, rfl⟩ rfl rfl ?_
  refine Ev.iload (q := 4) ⟨dL_law_343, rfl⟩ rfl ?_
  refine Ev.iconst ⟨dL_law_345, rfl⟩ (inRd rfl) ?_
  refine Ev.iadd ⟨dL_law_346, rfl⟩ (inRo (by omega) (by omega)) ?_
  refine Ev.sload (by omega) (by omega) ⟨dL_law_347, rfl⟩ ?_
  refine Ev.callV1 (mc1 := mc) (ms1 := ms) (v := vi b) (h1 := hq D x2) vL_152 (c_X8_truncate Θ D 50000 0 _ x1 _ e2) rfl rfl (by decide) rfl ⟨by decide, by decide, by omega, by omega, Nat.le_of_ble_eq_true rfl⟩ ⟨dL_law_348, rfl⟩ ?_
  refine Ev.istore (i := 6) (ls' := [(0, vr 13 1), (1, vr 7 (0 + 1)), (2, vr 8 (0 + 1)), (3, vr 31 (0 + 1)), (4, vi i), (5, vi k), (6, vi b)]) ⟨dL_law_351, rfl⟩ (Nat.le_of_ble_eq_true rfl) rfl ?_
  refine Ev.aload_n (q := 2) ⟨dL_law_353, rfl⟩ rfl rfl ?_
  refine Ev.callV1 (mc1 := mc) (ms1 := ms) (v := vi (x2.1 8 0 0)) (h1 := hq D x2) vL_146 (c_X8_thrown Θ D 50000 0 x2 _ f_thrown) rfl rfl (by decide) rfl ⟨by decide, by decide, by omega, by omega, Nat.le_of_ble_eq_true rfl⟩ ⟨dL_law_354, rfl⟩ ?_
  refine Ev.iload (q := 5) ⟨dL_law_357, rfl⟩ rfl ?_
  refine Ev.icmp_eq jL_law_359 (fun _ => ?_) (fun hc => absurd e3 hc)
  refine Ev.iload (q := 5) ⟨dL_law_364, rfl⟩ rfl ?_
  have fin : Ev Θ (mL_law nm hh) 14 504 mc ms 381 [(0, vr 13 1), (1, vr 7 (0 + 1)), (2, vr 8 (0 + 1)), (3, vr 31 (0 + 1)), (4, vi i), (5, vi k), (6, vi b)] [] (hq D x2) lQ := by
    refine Ev.goto jL_law_381 ?_
    refine Ev.keep [0, 1, 2, 3, 4] rfl ?_
    exact kk x2 e5
  refine Ev.if_ne jL_law_366 (fun _ => fin) (fun hc => ?_)
  refine Ev.aload_n (q := 3) ⟨dL_law_369, rfl⟩ rfl rfl ?_
  refine Ev.iconst ⟨dL_law_370, rfl⟩ (inRd rfl) ?_
  refine Ev.laload (by decide) (by decide) (show (0 : Int) < ((1 : Nat) : Int) by decide) ⟨dL_law_371, rfl⟩ ?_
  refine Ev.iload (q := 6) ⟨dL_law_372, rfl⟩ rfl ?_
  refine Ev.i2l ⟨dL_law_374, rfl⟩ ?_
  refine Ev.lcmp ⟨dL_law_375, rfl⟩ ?_
  refine Ev.if_eq jL_law_376 (fun _ => fin) (fun hc => absurd ?_ hc)
  show lcm (x2.2 31 0 0) (BitVec.ofInt 64 b) = 0
  rw [e4 (by assumption)]; exact lcm_self _

set_option maxHeartbeats 4000000 in
set_option maxRecDepth 20000 in
theorem la_errorPosition {nm : String} {hh : List (Nat × Nat × Nat × Nat)} {Θ : GC} {D : Nat → Nat → Prop} {x : Mm} {i : Int} {mc ms : Nat} (h : Inv x) (hN : gN Θ ≤ 3072) (h0 : 0 ≤ i) (h6 : i + 6 ≤ (gN Θ : Int)) (kk : ∀ x2, Inv x2 → Ev Θ (mL_law nm hh) 14 504 mc ms 2743 [(0, vr 13 1), (1, vr 7 (0 + 1)), (2, vr 8 (0 + 1)), (3, vr 31 (0 + 1)), (4, vi i)] [] (hq D x2) lQ) : Ev Θ (mL_law nm hh) 14 504 (mc + 6) (ms + 36) 384 [(0, vr 13 1), (1, vr 7 (0 + 1)), (2, vr 8 (0 + 1)), (3, vr 31 (0 + 1)), (4, vi i)] [] (hq D x) lQ := by
  obtain ⟨v, x1, x2, e1, e2, e5⟩ := p_errorPosition (z := 50000) (by decide) h
  refine Ev.aload_n (q := 1) ⟨dL_law_384, rfl⟩ rfl rfl ?_
  refine Ev.callV1 (mc1 := mc) (ms1 := ms) (v := vi v) (h1 := hq D x1) vL_153 (c_X7_errorPosition Θ D 50000 0  x _ e1) rfl rfl (by decide) rfl ⟨by decide, by decide, by omega, by omega, Nat.le_of_ble_eq_true rfl⟩ ⟨dL_law_385, rfl⟩ ?_
  refine Ev.aload_n (q := 2) ⟨dL_law_388, rfl⟩ rfl rfl ?_
  refine Ev.callV1 (mc1 := mc) (ms1 := ms) (v := vi v) (h1 := hq D x2) vL_156 (c_X8_errorPosition Θ D 50000 0  x1 _ e2) rfl rfl (by decide) rfl ⟨by decide, by decide, by omega, by omega, Nat.le_of_ble_eq_true rfl⟩ ⟨dL_law_389, rfl⟩ ?_
  refine Ev.icmp_eq jL_law_392 (fun _ => ?_) (fun hc => absurd rfl hc)
  exact kk x2 e5

set_option maxHeartbeats 4000000 in
set_option maxRecDepth 20000 in
theorem la_load {nm : String} {hh : List (Nat × Nat × Nat × Nat)} {Θ : GC} {D : Nat → Nat → Prop} {x : Mm} {i : Int} {mc ms : Nat} (h : Inv x) (hN : gN Θ ≤ 3072) (h0 : 0 ≤ i) (h6 : i + 6 ≤ (gN Θ : Int)) (kk : ∀ x2, Inv x2 → Ev Θ (mL_law nm hh) 14 504 mc ms 2743 [(0, vr 13 1), (1, vr 7 (0 + 1)), (2, vr 8 (0 + 1)), (3, vr 31 (0 + 1)), (4, vi i)] [] (hq D x2) lQ) : Ev Θ (mL_law nm hh) 14 504 (mc + 6) (ms + 36) 397 [(0, vr 13 1), (1, vr 7 (0 + 1)), (2, vr 8 (0 + 1)), (3, vr 31 (0 + 1)), (4, vi i)] [] (hq D x) lQ := by
  have hq1 : ∃ k x1 b x2, F_L_load 50000  x = some (k, x1) ∧ F_X8_load 50000 0  x1 = some (b, x2) ∧ x2.1 8 0 0 = k ∧ (k = 0 → x2.2 31 0 0 = BitVec.ofInt 64 b) ∧ Inv x2 := rnI (F7 := F_X7_load 50000 0) (F8 := F_X8_load 50000 0) (p_load (by decide) h ) (fun L w => n_X8_load L 50000 0 w)
  obtain ⟨k, x1, b, x2, e1, e2, e3, e4, e5⟩ := hq1
  refine Ev.aload_n (q := 1) ⟨dL_law_397, rfl⟩ rfl rfl ?_
  refine Ev.aload_n (q := 3) ⟨dL_law_398, rfl⟩ rfl rfl ?_
  refine Ev.callH1 (mc1 := mc) (ms1 := ms) (v := vi k) (h1 := hq D x1) hL_157 (c_L_load Θ D 50000  x _ e1) rfl rfl ⟨by decide, by decide, by omega, by omega, Nat.le_of_ble_eq_true rfl⟩ ⟨dL_law_399, rfl⟩ ?_
  refine Ev.istore (i := 5) (ls' := [(0, vr 13 1), (1, vr 7 (0 + 1)), (2, vr 8 (0 + 1)), (3, vr 31 (0 + 1)), (4, vi i), (5, vi k)]) ⟨dL_law_402, rfl⟩ (Nat.le_of_ble_eq_true rfl) rfl ?_
  refine Ev.aload_n (q := 2) ⟨dL_law_404, rfl⟩ rfl rfl ?_
  refine Ev.callV1 (mc1 := mc) (ms1 := ms) (v := vi b) (h1 := hq D x2) vL_160 (c_X8_load Θ D 50000 0  x1 _ e2) rfl rfl (by decide) rfl ⟨by decide, by decide, by omega, by omega, Nat.le_of_ble_eq_true rfl⟩ ⟨dL_law_405, rfl⟩ ?_
  refine Ev.istore (i := 6) (ls' := [(0, vr 13 1), (1, vr 7 (0 + 1)), (2, vr 8 (0 + 1)), (3, vr 31 (0 + 1)), (4, vi i), (5, vi k), (6, vi b)]) ⟨dL_law_408, rfl⟩ (Nat.le_of_ble_eq_true rfl) rfl ?_
  refine Ev.aload_n (q := 2) ⟨dL_law_410, rfl⟩ rfl rfl ?_
  refine Ev.callV1 (mc1 := mc) (ms1 := ms) (v := vi (x2.1 8 0 0)) (h1 := hq D x2) vL_146 (c_X8_thrown Θ D 50000 0 x2 _ f_thrown) rfl rfl (by decide) rfl ⟨by decide, by decide, by omega, by omega, Nat.le_of_ble_eq_true rfl⟩ ⟨dL_law_411, rfl⟩ ?_
  refine Ev.iload (q := 5) ⟨dL_law_414, rfl⟩ rfl ?_
  refine Ev.icmp_eq jL_law_416 (fun _ => ?_) (fun hc => absurd e3 hc)
  refine Ev.iload (q := 5) ⟨dL_law_421, rfl⟩ rfl ?_
  have fin : Ev Θ (mL_law nm hh) 14 504 mc ms 438 [(0, vr 13 1), (1, vr 7 (0 + 1)), (2, vr 8 (0 + 1)), (3, vr 31 (0 + 1)), (4, vi i), (5, vi k), (6, vi b)] [] (hq D x2) lQ := by
    refine Ev.goto jL_law_438 ?_
    refine Ev.keep [0, 1, 2, 3, 4] rfl ?_
    exact kk x2 e5
  refine Ev.if_ne jL_law_423 (fun _ => fin) (fun hc => ?_)
  refine Ev.aload_n (q := 3) ⟨dL_law_426, rfl⟩ rfl rfl ?_
  refine Ev.iconst ⟨dL_law_427, rfl⟩ (inRd rfl) ?_
  refine Ev.laload (by decide) (by decide) (show (0 : Int) < ((1 : Nat) : Int) by decide) ⟨dL_law_428, rfl⟩ ?_
  refine Ev.iload (q := 6) ⟨dL_law_429, rfl⟩ rfl ?_
  refine Ev.i2l ⟨dL_law_431, rfl⟩ ?_
  refine Ev.lcmp ⟨dL_law_432, rfl⟩ ?_
  refine Ev.if_eq jL_law_433 (fun _ => fin) (fun hc => absurd ?_ hc)
  show lcm (x2.2 31 0 0) (BitVec.ofInt 64 b) = 0
  rw [e4 (by assumption)]; exact lcm_self _

set_option maxHeartbeats 4000000 in
set_option maxRecDepth 20000 in
theorem la_lease {nm : String} {hh : List (Nat × Nat × Nat × Nat)} {Θ : GC} {D : Nat → Nat → Prop} {x : Mm} {i : Int} {mc ms : Nat} (h : Inv x) (hI : ∀ k, -2147483648 ≤ x.1 27 0 k ∧ x.1 27 0 k ≤ 2147483647) (hN : gN Θ ≤ 3072) (h0 : 0 ≤ i) (h6 : i + 6 ≤ (gN Θ : Int)) (kk : ∀ x2, Inv x2 → Ev Θ (mL_law nm hh) 14 504 mc ms 2743 [(0, vr 13 1), (1, vr 7 (0 + 1)), (2, vr 8 (0 + 1)), (3, vr 31 (0 + 1)), (4, vi i)] [] (hq D x2) lQ) : Ev Θ (mL_law nm hh) 14 504 (mc + 6) (ms + 36) 441 [(0, vr 13 1), (1, vr 7 (0 + 1)), (2, vr 8 (0 + 1)), (3, vr 31 (0 + 1)), (4, vi i)] [] (hq D x) lQ := by
  have hq1 : ∃ k x1 b x2, F_L_lease 50000 (scr Θ (i + 1)) (scr Θ (i + 2)) (scr Θ (i + 3)) (bnz (scr Θ (i + 4))) x = some (k, x1) ∧ F_X8_lease 50000 0 (scr Θ (i + 1)) (scr Θ (i + 2)) (scr Θ (i + 3)) (bnz (scr Θ (i + 4))) x1 = some (b, x2) ∧ x2.1 8 0 0 = k ∧ (k = 0 → x2.2 31 0 0 = BitVec.ofInt 64 b) ∧ Inv x2 := rnI (F7 := F_X7_lease 50000 0 (scr Θ (i + 1)) (scr Θ (i + 2)) (scr Θ (i + 3)) (bnz (scr Θ (i + 4)))) (F8 := F_X8_lease 50000 0 (scr Θ (i + 1)) (scr Θ (i + 2)) (scr Θ (i + 3)) (bnz (scr Θ (i + 4)))) (p_lease (by decide) h hI (scr Θ (i + 1)) (scr Θ (i + 2)) (scr Θ (i + 3)) (bnz (scr Θ (i + 4))) (bnz_01 _)) (fun L w => n_X8_lease L 50000 0 (scr Θ (i + 1)) (scr Θ (i + 2)) (scr Θ (i + 3)) (bnz (scr Θ (i + 4))) w)
  obtain ⟨k, x1, b, x2, e1, e2, e3, e4, e5⟩ := hq1
  refine Ev.aload_n (q := 1) ⟨dL_law_441, rfl⟩ rfl rfl ?_
  refine Ev.aload_n (q := 0) ⟨dL_law_442, rfl⟩ rfl rfl ?_
  refine Ev.iload (q := 4) ⟨dL_law_443, rfl⟩ rfl ?_
  refine Ev.iconst ⟨dL_law_445, rfl⟩ (inRd rfl) ?_
  refine Ev.iadd ⟨dL_law_446, rfl⟩ (inRo (by omega) (by omega)) ?_
  refine Ev.sload (by omega) (by omega) ⟨dL_law_447, rfl⟩ ?_
  refine Ev.aload_n (q := 0) ⟨dL_law_448, rfl⟩ rfl rfl ?_
  refine Ev.iload (q := 4) ⟨dL_law_449, rfl⟩ rfl ?_
  refine Ev.iconst ⟨dL_law_451, rfl⟩ (inRd rfl) ?_
  refine Ev.iadd ⟨dL_law_452, rfl⟩ (inRo (by omega) (by omega)) ?_
  refine Ev.sload (by omega) (by omega) ⟨dL_law_453, rfl⟩ ?_
  refine Ev.aload_n (q := 0) ⟨dL_law_454, rfl⟩ rfl rfl ?_
  refine Ev.iload (q := 4) ⟨dL_law_455, rfl⟩ rfl ?_
  refine Ev.iconst ⟨dL_law_457, rfl⟩ (inRd rfl) ?_
  refine Ev.iadd ⟨dL_law_458, rfl⟩ (inRo (by omega) (by omega)) ?_
  refine Ev.sload (by omega) (by omega) ⟨dL_law_459, rfl⟩ ?_
  refine Ev.aload_n (q := 0) ⟨dL_law_460, rfl⟩ rfl rfl ?_
  refine Ev.iload (q := 4) ⟨dL_law_461, rfl⟩ rfl ?_
  refine Ev.iconst ⟨dL_law_463, rfl⟩ (inRd rfl) ?_
  refine Ev.iadd ⟨dL_law_464, rfl⟩ (inRo (by omega) (by omega)) ?_
  refine Ev.sload (by omega) (by omega) ⟨dL_law_465, rfl⟩ ?_
  refine Ev.bz jL_law_466 ⟨dL_law_469, rfl⟩ jL_law_470 ⟨dL_law_473, rfl⟩ ?_
  refine Ev.aload_n (q := 3) ⟨dL_law_474, rfl⟩ rfl rfl ?_
  refine Ev.callH1 (mc1 := mc) (ms1 := ms) (v := vi k) (h1 := hq D x1) hL_161 (c_L_lease Θ D 50000 _ _ _ _ x _ e1) rfl rfl ⟨by decide, by decide, by omega, by omega, Nat.le_of_ble_eq_true rfl⟩ ⟨dL_law_475, rfl⟩ ?_
  refine Ev.istore (i := 5) (ls' := [(0, vr 13 1), (1, vr 7 (0 + 1)), (2, vr 8 (0 + 1)), (3, vr 31 (0 + 1)), (4, vi i), (5, vi k)]) ⟨dL_law_478, rfl⟩ (Nat.le_of_ble_eq_true rfl) rfl ?_
  refine Ev.aload_n (q := 2) ⟨dL_law_480, rfl⟩ rfl rfl ?_
  refine Ev.aload_n (q := 0) ⟨dL_law_481, rfl⟩ rfl rfl ?_
  refine Ev.iload (q := 4) ⟨dL_law_482, rfl⟩ rfl ?_
  refine Ev.iconst ⟨dL_law_484, rfl⟩ (inRd rfl) ?_
  refine Ev.iadd ⟨dL_law_485, rfl⟩ (inRo (by omega) (by omega)) ?_
  refine Ev.sload (by omega) (by omega) ⟨dL_law_486, rfl⟩ ?_
  refine Ev.aload_n (q := 0) ⟨dL_law_487, rfl⟩ rfl rfl ?_
  refine Ev.iload (q := 4) ⟨dL_law_488, rfl⟩ rfl ?_
  refine Ev.iconst ⟨dL_law_490, rfl⟩ (inRd rfl) ?_
  refine Ev.iadd ⟨dL_law_491, rfl⟩ (inRo (by omega) (by omega)) ?_
  refine Ev.sload (by omega) (by omega) ⟨dL_law_492, rfl⟩ ?_
  refine Ev.aload_n (q := 0) ⟨dL_law_493, rfl⟩ rfl rfl ?_
  refine Ev.iload (q := 4) ⟨dL_law_494, rfl⟩ rfl ?_
  refine Ev.iconst ⟨dL_law_496, rfl⟩ (inRd rfl) ?_
  refine Ev.iadd ⟨dL_law_497, rfl⟩ (inRo (by omega) (by omega)) ?_
  refine Ev.sload (by omega) (by omega) ⟨dL_law_498, rfl⟩ ?_
  refine Ev.aload_n (q := 0) ⟨dL_law_499, rfl⟩ rfl rfl ?_
  refine Ev.iload (q := 4) ⟨dL_law_500, rfl⟩ rfl ?_
  refine Ev.iconst ⟨dL_law_502, rfl⟩ (inRd rfl) ?_
  refine Ev.iadd ⟨dL_law_503, rfl⟩ (inRo (by omega) (by omega)) ?_
  refine Ev.sload (by omega) (by omega) ⟨dL_law_504, rfl⟩ ?_
  refine Ev.bz jL_law_505 ⟨dL_law_508, rfl⟩ jL_law_509 ⟨dL_law_512, rfl⟩ ?_
  refine Ev.callV1 (mc1 := mc) (ms1 := ms) (v := vi b) (h1 := hq D x2) vL_164 (c_X8_lease Θ D 50000 0 _ _ _ _ x1 _ e2) rfl rfl (by decide) rfl ⟨by decide, by decide, by omega, by omega, Nat.le_of_ble_eq_true rfl⟩ ⟨dL_law_513, rfl⟩ ?_
  refine Ev.istore (i := 6) (ls' := [(0, vr 13 1), (1, vr 7 (0 + 1)), (2, vr 8 (0 + 1)), (3, vr 31 (0 + 1)), (4, vi i), (5, vi k), (6, vi b)]) ⟨dL_law_516, rfl⟩ (Nat.le_of_ble_eq_true rfl) rfl ?_
  refine Ev.aload_n (q := 2) ⟨dL_law_518, rfl⟩ rfl rfl ?_
  refine Ev.callV1 (mc1 := mc) (ms1 := ms) (v := vi (x2.1 8 0 0)) (h1 := hq D x2) vL_146 (c_X8_thrown Θ D 50000 0 x2 _ f_thrown) rfl rfl (by decide) rfl ⟨by decide, by decide, by omega, by omega, Nat.le_of_ble_eq_true rfl⟩ ⟨dL_law_519, rfl⟩ ?_
  refine Ev.iload (q := 5) ⟨dL_law_522, rfl⟩ rfl ?_
  refine Ev.icmp_eq jL_law_524 (fun _ => ?_) (fun hc => absurd e3 hc)
  refine Ev.iload (q := 5) ⟨dL_law_529, rfl⟩ rfl ?_
  have fin : Ev Θ (mL_law nm hh) 14 504 mc ms 546 [(0, vr 13 1), (1, vr 7 (0 + 1)), (2, vr 8 (0 + 1)), (3, vr 31 (0 + 1)), (4, vi i), (5, vi k), (6, vi b)] [] (hq D x2) lQ := by
    refine Ev.goto jL_law_546 ?_
    refine Ev.keep [0, 1, 2, 3, 4] rfl ?_
    exact kk x2 e5
  refine Ev.if_ne jL_law_531 (fun _ => fin) (fun hc => ?_)
  refine Ev.aload_n (q := 3) ⟨dL_law_534, rfl⟩ rfl rfl ?_
  refine Ev.iconst ⟨dL_law_535, rfl⟩ (inRd rfl) ?_
  refine Ev.laload (by decide) (by decide) (show (0 : Int) < ((1 : Nat) : Int) by decide) ⟨dL_law_536, rfl⟩ ?_
  refine Ev.iload (q := 6) ⟨dL_law_537, rfl⟩ rfl ?_
  refine Ev.i2l ⟨dL_law_539, rfl⟩ ?_
  refine Ev.lcmp ⟨dL_law_540, rfl⟩ ?_
  refine Ev.if_eq jL_law_541 (fun _ => fin) (fun hc => absurd ?_ hc)
  show lcm (x2.2 31 0 0) (BitVec.ofInt 64 b) = 0
  rw [e4 (by assumption)]; exact lcm_self _

set_option maxHeartbeats 4000000 in
set_option maxRecDepth 20000 in
theorem la_renew {nm : String} {hh : List (Nat × Nat × Nat × Nat)} {Θ : GC} {D : Nat → Nat → Prop} {x : Mm} {i : Int} {mc ms : Nat} (h : Inv x) (hN : gN Θ ≤ 3072) (h0 : 0 ≤ i) (h6 : i + 6 ≤ (gN Θ : Int)) (kk : ∀ x2, Inv x2 → Ev Θ (mL_law nm hh) 14 504 mc ms 2743 [(0, vr 13 1), (1, vr 7 (0 + 1)), (2, vr 8 (0 + 1)), (3, vr 31 (0 + 1)), (4, vi i)] [] (hq D x2) lQ) : Ev Θ (mL_law nm hh) 14 504 (mc + 6) (ms + 36) 549 [(0, vr 13 1), (1, vr 7 (0 + 1)), (2, vr 8 (0 + 1)), (3, vr 31 (0 + 1)), (4, vi i)] [] (hq D x) lQ := by
  have hq1 : ∃ k x1 b x2, F_L_renew 50000 (scr Θ (i + 1)) (scr Θ (i + 2)) x = some (k, x1) ∧ F_X8_renew 50000 0 (scr Θ (i + 1)) (scr Θ (i + 2)) x1 = some (b, x2) ∧ x2.1 8 0 0 = k ∧ (k = 0 → x2.2 31 0 0 = BitVec.ofInt 64 b) ∧ Inv x2 := rnI (F7 := F_X7_renew 50000 0 (scr Θ (i + 1)) (scr Θ (i + 2))) (F8 := F_X8_renew 50000 0 (scr Θ (i + 1)) (scr Θ (i + 2))) (p_renew (by decide) h (scr Θ (i + 1)) (scr Θ (i + 2))) (fun L w => n_X8_renew L 50000 0 (scr Θ (i + 1)) (scr Θ (i + 2)) w)
  obtain ⟨k, x1, b, x2, e1, e2, e3, e4, e5⟩ := hq1
  refine Ev.aload_n (q := 1) ⟨dL_law_549, rfl⟩ rfl rfl ?_
  refine Ev.aload_n (q := 0) ⟨dL_law_550, rfl⟩ rfl rfl ?_
  refine Ev.iload (q := 4) ⟨dL_law_551, rfl⟩ rfl ?_
  refine Ev.iconst ⟨dL_law_553, rfl⟩ (inRd rfl) ?_
  refine Ev.iadd ⟨dL_law_554, rfl⟩ (inRo (by omega) (by omega)) ?_
  refine Ev.sload (by omega) (by omega) ⟨dL_law_555, rfl⟩ ?_
  refine Ev.aload_n (q := 0) ⟨dL_law_556, rfl⟩ rfl rfl ?_
  refine Ev.iload (q := 4) ⟨dL_law_557, rfl⟩ rfl ?_
  refine Ev.iconst ⟨dL_law_559, rfl⟩ (inRd rfl) ?_
  refine Ev.iadd ⟨dL_law_560, rfl⟩ (inRo (by omega) (by omega)) ?_
  refine Ev.sload (by omega) (by omega) ⟨dL_law_561, rfl⟩ ?_
  refine Ev.aload_n (q := 3) ⟨dL_law_562, rfl⟩ rfl rfl ?_
  refine Ev.callH1 (mc1 := mc) (ms1 := ms) (v := vi k) (h1 := hq D x1) hL_165 (c_L_renew Θ D 50000 _ _ x _ e1) rfl rfl ⟨by decide, by decide, by omega, by omega, Nat.le_of_ble_eq_true rfl⟩ ⟨dL_law_563, rfl⟩ ?_
  refine Ev.istore (i := 5) (ls' := [(0, vr 13 1), (1, vr 7 (0 + 1)), (2, vr 8 (0 + 1)), (3, vr 31 (0 + 1)), (4, vi i), (5, vi k)]) ⟨dL_law_566, rfl⟩ (Nat.le_of_ble_eq_true rfl) rfl ?_
  refine Ev.aload_n (q := 2) ⟨dL_law_568, rfl⟩ rfl rfl ?_
  refine Ev.aload_n (q := 0) ⟨dL_law_569, rfl⟩ rfl rfl ?_
  refine Ev.iload (q := 4) ⟨dL_law_570, rfl⟩ rfl ?_
  refine Ev.iconst ⟨dL_law_572, rfl⟩ (inRd rfl) ?_
  refine Ev.iadd ⟨dL_law_573, rfl⟩ (inRo (by omega) (by omega)) ?_
  refine Ev.sload (by omega) (by omega) ⟨dL_law_574, rfl⟩ ?_
  refine Ev.aload_n (q := 0) ⟨dL_law_575, rfl⟩ rfl rfl ?_
  refine Ev.iload (q := 4) ⟨dL_law_576, rfl⟩ rfl ?_
  refine Ev.iconst ⟨dL_law_578, rfl⟩ (inRd rfl) ?_
  refine Ev.iadd ⟨dL_law_579, rfl⟩ (inRo (by omega) (by omega)) ?_
  refine Ev.sload (by omega) (by omega) ⟨dL_law_580, rfl⟩ ?_
  refine Ev.callV1 (mc1 := mc) (ms1 := ms) (v := vi b) (h1 := hq D x2) vL_168 (c_X8_renew Θ D 50000 0 _ _ x1 _ e2) rfl rfl (by decide) rfl ⟨by decide, by decide, by omega, by omega, Nat.le_of_ble_eq_true rfl⟩ ⟨dL_law_581, rfl⟩ ?_
  refine Ev.istore (i := 6) (ls' := [(0, vr 13 1), (1, vr 7 (0 + 1)), (2, vr 8 (0 + 1)), (3, vr 31 (0 + 1)), (4, vi i), (5, vi k), (6, vi b)]) ⟨dL_law_584, rfl⟩ (Nat.le_of_ble_eq_true rfl) rfl ?_
  refine Ev.aload_n (q := 2) ⟨dL_law_586, rfl⟩ rfl rfl ?_
  refine Ev.callV1 (mc1 := mc) (ms1 := ms) (v := vi (x2.1 8 0 0)) (h1 := hq D x2) vL_146 (c_X8_thrown Θ D 50000 0 x2 _ f_thrown) rfl rfl (by decide) rfl ⟨by decide, by decide, by omega, by omega, Nat.le_of_ble_eq_true rfl⟩ ⟨dL_law_587, rfl⟩ ?_
  refine Ev.iload (q := 5) ⟨dL_law_590, rfl⟩ rfl ?_
  refine Ev.icmp_eq jL_law_592 (fun _ => ?_) (fun hc => absurd e3 hc)
  refine Ev.iload (q := 5) ⟨dL_law_597, rfl⟩ rfl ?_
  have fin : Ev Θ (mL_law nm hh) 14 504 mc ms 614 [(0, vr 13 1), (1, vr 7 (0 + 1)), (2, vr 8 (0 + 1)), (3, vr 31 (0 + 1)), (4, vi i), (5, vi k), (6, vi b)] [] (hq D x2) lQ := by
    refine Ev.goto jL_law_614 ?_
    refine Ev.keep [0, 1, 2, 3, 4] rfl ?_
    exact kk x2 e5
  refine Ev.if_ne jL_law_599 (fun _ => fin) (fun hc => ?_)
  refine Ev.aload_n (q := 3) ⟨dL_law_602, rfl⟩ rfl rfl ?_
  refine Ev.iconst ⟨dL_law_603, rfl⟩ (inRd rfl) ?_
  refine Ev.laload (by decide) (by decide) (show (0 : Int) < ((1 : Nat) : Int) by decide) ⟨dL_law_604, rfl⟩ ?_
  refine Ev.iload (q := 6) ⟨dL_law_605, rfl⟩ rfl ?_
  refine Ev.i2l ⟨dL_law_607, rfl⟩ ?_
  refine Ev.lcmp ⟨dL_law_608, rfl⟩ ?_
  refine Ev.if_eq jL_law_609 (fun _ => fin) (fun hc => absurd ?_ hc)
  show lcm (x2.2 31 0 0) (BitVec.ofInt 64 b) = 0
  rw [e4 (by assumption)]; exact lcm_self _

set_option maxHeartbeats 4000000 in
set_option maxRecDepth 20000 in
theorem la_setField {nm : String} {hh : List (Nat × Nat × Nat × Nat)} {Θ : GC} {D : Nat → Nat → Prop} {x : Mm} {i : Int} {mc ms : Nat} (h : Inv x) (hN : gN Θ ≤ 3072) (h0 : 0 ≤ i) (h6 : i + 6 ≤ (gN Θ : Int)) (kk : ∀ x2, Inv x2 → Ev Θ (mL_law nm hh) 14 504 mc ms 2743 [(0, vr 13 1), (1, vr 7 (0 + 1)), (2, vr 8 (0 + 1)), (3, vr 31 (0 + 1)), (4, vi i)] [] (hq D x2) lQ) : Ev Θ (mL_law nm hh) 14 504 (mc + 6) (ms + 36) 617 [(0, vr 13 1), (1, vr 7 (0 + 1)), (2, vr 8 (0 + 1)), (3, vr 31 (0 + 1)), (4, vi i)] [] (hq D x) lQ := by
  have hq1 : ∃ k x1 b x2, F_L_setField 50000 (scr Θ (i + 1)) (scr Θ (i + 2)) (scr Θ (i + 3)) (scr Θ (i + 4)) x = some (k, x1) ∧ F_X8_setField 50000 0 (scr Θ (i + 1)) (scr Θ (i + 2)) (scr Θ (i + 3)) (scr Θ (i + 4)) x1 = some (b, x2) ∧ x2.1 8 0 0 = k ∧ (k = 0 → x2.2 31 0 0 = BitVec.ofInt 64 b) ∧ Inv x2 := rnI (F7 := F_X7_setField 50000 0 (scr Θ (i + 1)) (scr Θ (i + 2)) (scr Θ (i + 3)) (scr Θ (i + 4))) (F8 := F_X8_setField 50000 0 (scr Θ (i + 1)) (scr Θ (i + 2)) (scr Θ (i + 3)) (scr Θ (i + 4))) (p_setField (by decide) h (scr Θ (i + 1)) (scr Θ (i + 2)) (scr Θ (i + 3)) (scr Θ (i + 4))) (fun L w => n_X8_setField L 50000 0 (scr Θ (i + 1)) (scr Θ (i + 2)) (scr Θ (i + 3)) (scr Θ (i + 4)) w)
  obtain ⟨k, x1, b, x2, e1, e2, e3, e4, e5⟩ := hq1
  refine Ev.aload_n (q := 1) ⟨dL_law_617, rfl⟩ rfl rfl ?_
  refine Ev.aload_n (q := 0) ⟨dL_law_618, rfl⟩ rfl rfl ?_
  refine Ev.iload (q := 4) ⟨dL_law_619, rfl⟩ rfl ?_
  refine Ev.iconst ⟨dL_law_621, rfl⟩ (inRd rfl) ?_
  refine Ev.iadd ⟨dL_law_622, rfl⟩ (inRo (by omega) (by omega)) ?_
  refine Ev.sload (by omega) (by omega) ⟨dL_law_623, rfl⟩ ?_
  refine Ev.aload_n (q := 0) ⟨dL_law_624, rfl⟩ rfl rfl ?_
  refine Ev.iload (q := 4) ⟨dL_law_625, rfl⟩ rfl ?_
  refine Ev.iconst ⟨dL_law_627, rfl⟩ (inRd rfl) ?_
  refine Ev.iadd ⟨dL_law_628, rfl⟩ (inRo (by omega) (by omega)) ?_
  refine Ev.sload (by omega) (by omega) ⟨dL_law_629, rfl⟩ ?_
  refine Ev.aload_n (q := 0) ⟨dL_law_630, rfl⟩ rfl rfl ?_
  refine Ev.iload (q := 4) ⟨dL_law_631, rfl⟩ rfl ?_
  refine Ev.iconst ⟨dL_law_633, rfl⟩ (inRd rfl) ?_
  refine Ev.iadd ⟨dL_law_634, rfl⟩ (inRo (by omega) (by omega)) ?_
  refine Ev.sload (by omega) (by omega) ⟨dL_law_635, rfl⟩ ?_
  refine Ev.aload_n (q := 0) ⟨dL_law_636, rfl⟩ rfl rfl ?_
  refine Ev.iload (q := 4) ⟨dL_law_637, rfl⟩ rfl ?_
  refine Ev.iconst ⟨dL_law_639, rfl⟩ (inRd rfl) ?_
  refine Ev.iadd ⟨dL_law_640, rfl⟩ (inRo (by omega) (by omega)) ?_
  refine Ev.sload (by omega) (by omega) ⟨dL_law_641, rfl⟩ ?_
  refine Ev.aload_n (q := 3) ⟨dL_law_642, rfl⟩ rfl rfl ?_
  refine Ev.callH1 (mc1 := mc) (ms1 := ms) (v := vi k) (h1 := hq D x1) hL_169 (c_L_setField Θ D 50000 _ _ _ _ x _ e1) rfl rfl ⟨by decide, by decide, by omega, by omega, Nat.le_of_ble_eq_true rfl⟩ ⟨dL_law_643, rfl⟩ ?_
  refine Ev.istore (i := 5) (ls' := [(0, vr 13 1), (1, vr 7 (0 + 1)), (2, vr 8 (0 + 1)), (3, vr 31 (0 + 1)), (4, vi i), (5, vi k)]) ⟨dL_law_646, rfl⟩ (Nat.le_of_ble_eq_true rfl) rfl ?_
  refine Ev.aload_n (q := 2) ⟨dL_law_648, rfl⟩ rfl rfl ?_
  refine Ev.aload_n (q := 0) ⟨dL_law_649, rfl⟩ rfl rfl ?_
  refine Ev.iload (q := 4) ⟨dL_law_650, rfl⟩ rfl ?_
  refine Ev.iconst ⟨dL_law_652, rfl⟩ (inRd rfl) ?_
  refine Ev.iadd ⟨dL_law_653, rfl⟩ (inRo (by omega) (by omega)) ?_
  refine Ev.sload (by omega) (by omega) ⟨dL_law_654, rfl⟩ ?_
  refine Ev.aload_n (q := 0) ⟨dL_law_655, rfl⟩ rfl rfl ?_
  refine Ev.iload (q := 4) ⟨dL_law_656, rfl⟩ rfl ?_
  refine Ev.iconst ⟨dL_law_658, rfl⟩ (inRd rfl) ?_
  refine Ev.iadd ⟨dL_law_659, rfl⟩ (inRo (by omega) (by omega)) ?_
  refine Ev.sload (by omega) (by omega) ⟨dL_law_660, rfl⟩ ?_
  refine Ev.aload_n (q := 0) ⟨dL_law_661, rfl⟩ rfl rfl ?_
  refine Ev.iload (q := 4) ⟨dL_law_662, rfl⟩ rfl ?_
  refine Ev.iconst ⟨dL_law_664, rfl⟩ (inRd rfl) ?_
  refine Ev.iadd ⟨dL_law_665, rfl⟩ (inRo (by omega) (by omega)) ?_
  refine Ev.sload (by omega) (by omega) ⟨dL_law_666, rfl⟩ ?_
  refine Ev.aload_n (q := 0) ⟨dL_law_667, rfl⟩ rfl rfl ?_
  refine Ev.iload (q := 4) ⟨dL_law_668, rfl⟩ rfl ?_
  refine Ev.iconst ⟨dL_law_670, rfl⟩ (inRd rfl) ?_
  refine Ev.iadd ⟨dL_law_671, rfl⟩ (inRo (by omega) (by omega)) ?_
  refine Ev.sload (by omega) (by omega) ⟨dL_law_672, rfl⟩ ?_
  refine Ev.callV1 (mc1 := mc) (ms1 := ms) (v := vi b) (h1 := hq D x2) vL_172 (c_X8_setField Θ D 50000 0 _ _ _ _ x1 _ e2) rfl rfl (by decide) rfl ⟨by decide, by decide, by omega, by omega, Nat.le_of_ble_eq_true rfl⟩ ⟨dL_law_673, rfl⟩ ?_
  refine Ev.istore (i := 6) (ls' := [(0, vr 13 1), (1, vr 7 (0 + 1)), (2, vr 8 (0 + 1)), (3, vr 31 (0 + 1)), (4, vi i), (5, vi k), (6, vi b)]) ⟨dL_law_676, rfl⟩ (Nat.le_of_ble_eq_true rfl) rfl ?_
  refine Ev.aload_n (q := 2) ⟨dL_law_678, rfl⟩ rfl rfl ?_
  refine Ev.callV1 (mc1 := mc) (ms1 := ms) (v := vi (x2.1 8 0 0)) (h1 := hq D x2) vL_146 (c_X8_thrown Θ D 50000 0 x2 _ f_thrown) rfl rfl (by decide) rfl ⟨by decide, by decide, by omega, by omega, Nat.le_of_ble_eq_true rfl⟩ ⟨dL_law_679, rfl⟩ ?_
  refine Ev.iload (q := 5) ⟨dL_law_682, rfl⟩ rfl ?_
  refine Ev.icmp_eq jL_law_684 (fun _ => ?_) (fun hc => absurd e3 hc)
  refine Ev.iload (q := 5) ⟨dL_law_689, rfl⟩ rfl ?_
  have fin : Ev Θ (mL_law nm hh) 14 504 mc ms 706 [(0, vr 13 1), (1, vr 7 (0 + 1)), (2, vr 8 (0 + 1)), (3, vr 31 (0 + 1)), (4, vi i), (5, vi k), (6, vi b)] [] (hq D x2) lQ := by
    refine Ev.goto jL_law_706 ?_
    refine Ev.keep [0, 1, 2, 3, 4] rfl ?_
    exact kk x2 e5
  refine Ev.if_ne jL_law_691 (fun _ => fin) (fun hc => ?_)
  refine Ev.aload_n (q := 3) ⟨dL_law_694, rfl⟩ rfl rfl ?_
  refine Ev.iconst ⟨dL_law_695, rfl⟩ (inRd rfl) ?_
  refine Ev.laload (by decide) (by decide) (show (0 : Int) < ((1 : Nat) : Int) by decide) ⟨dL_law_696, rfl⟩ ?_
  refine Ev.iload (q := 6) ⟨dL_law_697, rfl⟩ rfl ?_
  refine Ev.i2l ⟨dL_law_699, rfl⟩ ?_
  refine Ev.lcmp ⟨dL_law_700, rfl⟩ ?_
  refine Ev.if_eq jL_law_701 (fun _ => fin) (fun hc => absurd ?_ hc)
  show lcm (x2.2 31 0 0) (BitVec.ofInt 64 b) = 0
  rw [e4 (by assumption)]; exact lcm_self _

set_option maxHeartbeats 4000000 in
set_option maxRecDepth 20000 in
theorem la_addNode {nm : String} {hh : List (Nat × Nat × Nat × Nat)} {Θ : GC} {D : Nat → Nat → Prop} {x : Mm} {i : Int} {mc ms : Nat} (h : Inv x) (hN : gN Θ ≤ 3072) (h0 : 0 ≤ i) (h6 : i + 6 ≤ (gN Θ : Int)) (kk : ∀ x2, Inv x2 → Ev Θ (mL_law nm hh) 14 504 mc ms 2743 [(0, vr 13 1), (1, vr 7 (0 + 1)), (2, vr 8 (0 + 1)), (3, vr 31 (0 + 1)), (4, vi i)] [] (hq D x2) lQ) : Ev Θ (mL_law nm hh) 14 504 (mc + 6) (ms + 36) 709 [(0, vr 13 1), (1, vr 7 (0 + 1)), (2, vr 8 (0 + 1)), (3, vr 31 (0 + 1)), (4, vi i)] [] (hq D x) lQ := by
  have hq1 : ∃ k x1 b x2, F_L_addNode 50000 (scr Θ (i + 1)) (scr Θ (i + 2)) (scr Θ (i + 3)) (bnz (scr Θ (i + 4))) x = some (k, x1) ∧ F_X8_addNode 50000 0 (scr Θ (i + 1)) (scr Θ (i + 2)) (scr Θ (i + 3)) (bnz (scr Θ (i + 4))) x1 = some (b, x2) ∧ x2.1 8 0 0 = k ∧ (k = 0 → x2.2 31 0 0 = BitVec.ofInt 64 b) ∧ Inv x2 := rnI (F7 := F_X7_addNode 50000 0 (scr Θ (i + 1)) (scr Θ (i + 2)) (scr Θ (i + 3)) (bnz (scr Θ (i + 4)))) (F8 := F_X8_addNode 50000 0 (scr Θ (i + 1)) (scr Θ (i + 2)) (scr Θ (i + 3)) (bnz (scr Θ (i + 4)))) (p_addNode (by decide) h (scr Θ (i + 1)) (scr Θ (i + 2)) (scr Θ (i + 3)) (bnz (scr Θ (i + 4))) (bnz_01 _)) (fun L w => n_X8_addNode L 50000 0 (scr Θ (i + 1)) (scr Θ (i + 2)) (scr Θ (i + 3)) (bnz (scr Θ (i + 4))) w)
  obtain ⟨k, x1, b, x2, e1, e2, e3, e4, e5⟩ := hq1
  refine Ev.aload_n (q := 1) ⟨dL_law_709, rfl⟩ rfl rfl ?_
  refine Ev.aload_n (q := 0) ⟨dL_law_710, rfl⟩ rfl rfl ?_
  refine Ev.iload (q := 4) ⟨dL_law_711, rfl⟩ rfl ?_
  refine Ev.iconst ⟨dL_law_713, rfl⟩ (inRd rfl) ?_
  refine Ev.iadd ⟨dL_law_714, rfl⟩ (inRo (by omega) (by omega)) ?_
  refine Ev.sload (by omega) (by omega) ⟨dL_law_715, rfl⟩ ?_
  refine Ev.aload_n (q := 0) ⟨dL_law_716, rfl⟩ rfl rfl ?_
  refine Ev.iload (q := 4) ⟨dL_law_717, rfl⟩ rfl ?_
  refine Ev.iconst ⟨dL_law_719, rfl⟩ (inRd rfl) ?_
  refine Ev.iadd ⟨dL_law_720, rfl⟩ (inRo (by omega) (by omega)) ?_
  refine Ev.sload (by omega) (by omega) ⟨dL_law_721, rfl⟩ ?_
  refine Ev.aload_n (q := 0) ⟨dL_law_722, rfl⟩ rfl rfl ?_
  refine Ev.iload (q := 4) ⟨dL_law_723, rfl⟩ rfl ?_
  refine Ev.iconst ⟨dL_law_725, rfl⟩ (inRd rfl) ?_
  refine Ev.iadd ⟨dL_law_726, rfl⟩ (inRo (by omega) (by omega)) ?_
  refine Ev.sload (by omega) (by omega) ⟨dL_law_727, rfl⟩ ?_
  refine Ev.aload_n (q := 0) ⟨dL_law_728, rfl⟩ rfl rfl ?_
  refine Ev.iload (q := 4) ⟨dL_law_729, rfl⟩ rfl ?_
  refine Ev.iconst ⟨dL_law_731, rfl⟩ (inRd rfl) ?_
  refine Ev.iadd ⟨dL_law_732, rfl⟩ (inRo (by omega) (by omega)) ?_
  refine Ev.sload (by omega) (by omega) ⟨dL_law_733, rfl⟩ ?_
  refine Ev.bz jL_law_734 ⟨dL_law_737, rfl⟩ jL_law_738 ⟨dL_law_741, rfl⟩ ?_
  refine Ev.aload_n (q := 3) ⟨dL_law_742, rfl⟩ rfl rfl ?_
  refine Ev.callH1 (mc1 := mc) (ms1 := ms) (v := vi k) (h1 := hq D x1) hL_173 (c_L_addNode Θ D 50000 _ _ _ _ x _ e1) rfl rfl ⟨by decide, by decide, by omega, by omega, Nat.le_of_ble_eq_true rfl⟩ ⟨dL_law_743, rfl⟩ ?_
  refine Ev.istore (i := 5) (ls' := [(0, vr 13 1), (1, vr 7 (0 + 1)), (2, vr 8 (0 + 1)), (3, vr 31 (0 + 1)), (4, vi i), (5, vi k)]) ⟨dL_law_746, rfl⟩ (Nat.le_of_ble_eq_true rfl) rfl ?_
  refine Ev.aload_n (q := 2) ⟨dL_law_748, rfl⟩ rfl rfl ?_
  refine Ev.aload_n (q := 0) ⟨dL_law_749, rfl⟩ rfl rfl ?_
  refine Ev.iload (q := 4) ⟨dL_law_750, rfl⟩ rfl ?_
  refine Ev.iconst ⟨dL_law_752, rfl⟩ (inRd rfl) ?_
  refine Ev.iadd ⟨dL_law_753, rfl⟩ (inRo (by omega) (by omega)) ?_
  refine Ev.sload (by omega) (by omega) ⟨dL_law_754, rfl⟩ ?_
  refine Ev.aload_n (q := 0) ⟨dL_law_755, rfl⟩ rfl rfl ?_
  refine Ev.iload (q := 4) ⟨dL_law_756, rfl⟩ rfl ?_
  refine Ev.iconst ⟨dL_law_758, rfl⟩ (inRd rfl) ?_
  refine Ev.iadd ⟨dL_law_759, rfl⟩ (inRo (by omega) (by omega)) ?_
  refine Ev.sload (by omega) (by omega) ⟨dL_law_760, rfl⟩ ?_
  refine Ev.aload_n (q := 0) ⟨dL_law_761, rfl⟩ rfl rfl ?_
  refine Ev.iload (q := 4) ⟨dL_law_762, rfl⟩ rfl ?_
  refine Ev.iconst ⟨dL_law_764, rfl⟩ (inRd rfl) ?_
  refine Ev.iadd ⟨dL_law_765, rfl⟩ (inRo (by omega) (by omega)) ?_
  refine Ev.sload (by omega) (by omega) ⟨dL_law_766, rfl⟩ ?_
  refine Ev.aload_n (q := 0) ⟨dL_law_767, rfl⟩ rfl rfl ?_
  refine Ev.iload (q := 4) ⟨dL_law_768, rfl⟩ rfl ?_
  refine Ev.iconst ⟨dL_law_770, rfl⟩ (inRd rfl) ?_
  refine Ev.iadd ⟨dL_law_771, rfl⟩ (inRo (by omega) (by omega)) ?_
  refine Ev.sload (by omega) (by omega) ⟨dL_law_772, rfl⟩ ?_
  refine Ev.bz jL_law_773 ⟨dL_law_776, rfl⟩ jL_law_777 ⟨dL_law_780, rfl⟩ ?_
  refine Ev.callV1 (mc1 := mc) (ms1 := ms) (v := vi b) (h1 := hq D x2) vL_175 (c_X8_addNode Θ D 50000 0 _ _ _ _ x1 _ e2) rfl rfl (by decide) rfl ⟨by decide, by decide, by omega, by omega, Nat.le_of_ble_eq_true rfl⟩ ⟨dL_law_781, rfl⟩ ?_
  refine Ev.istore (i := 6) (ls' := [(0, vr 13 1), (1, vr 7 (0 + 1)), (2, vr 8 (0 + 1)), (3, vr 31 (0 + 1)), (4, vi i), (5, vi k), (6, vi b)]) ⟨dL_law_784, rfl⟩ (Nat.le_of_ble_eq_true rfl) rfl ?_
  refine Ev.aload_n (q := 2) ⟨dL_law_786, rfl⟩ rfl rfl ?_
  refine Ev.callV1 (mc1 := mc) (ms1 := ms) (v := vi (x2.1 8 0 0)) (h1 := hq D x2) vL_146 (c_X8_thrown Θ D 50000 0 x2 _ f_thrown) rfl rfl (by decide) rfl ⟨by decide, by decide, by omega, by omega, Nat.le_of_ble_eq_true rfl⟩ ⟨dL_law_787, rfl⟩ ?_
  refine Ev.iload (q := 5) ⟨dL_law_790, rfl⟩ rfl ?_
  refine Ev.icmp_eq jL_law_792 (fun _ => ?_) (fun hc => absurd e3 hc)
  refine Ev.iload (q := 5) ⟨dL_law_797, rfl⟩ rfl ?_
  have fin : Ev Θ (mL_law nm hh) 14 504 mc ms 814 [(0, vr 13 1), (1, vr 7 (0 + 1)), (2, vr 8 (0 + 1)), (3, vr 31 (0 + 1)), (4, vi i), (5, vi k), (6, vi b)] [] (hq D x2) lQ := by
    refine Ev.goto jL_law_814 ?_
    refine Ev.keep [0, 1, 2, 3, 4] rfl ?_
    exact kk x2 e5
  refine Ev.if_ne jL_law_799 (fun _ => fin) (fun hc => ?_)
  refine Ev.aload_n (q := 3) ⟨dL_law_802, rfl⟩ rfl rfl ?_
  refine Ev.iconst ⟨dL_law_803, rfl⟩ (inRd rfl) ?_
  refine Ev.laload (by decide) (by decide) (show (0 : Int) < ((1 : Nat) : Int) by decide) ⟨dL_law_804, rfl⟩ ?_
  refine Ev.iload (q := 6) ⟨dL_law_805, rfl⟩ rfl ?_
  refine Ev.i2l ⟨dL_law_807, rfl⟩ ?_
  refine Ev.lcmp ⟨dL_law_808, rfl⟩ ?_
  refine Ev.if_eq jL_law_809 (fun _ => fin) (fun hc => absurd ?_ hc)
  show lcm (x2.2 31 0 0) (BitVec.ofInt 64 b) = 0
  rw [e4 (by assumption)]; exact lcm_self _

set_option maxHeartbeats 4000000 in
set_option maxRecDepth 20000 in
theorem la_removeNode {nm : String} {hh : List (Nat × Nat × Nat × Nat)} {Θ : GC} {D : Nat → Nat → Prop} {x : Mm} {i : Int} {mc ms : Nat} (h : Inv x) (hN : gN Θ ≤ 3072) (h0 : 0 ≤ i) (h6 : i + 6 ≤ (gN Θ : Int)) (kk : ∀ x2, Inv x2 → Ev Θ (mL_law nm hh) 14 504 mc ms 2743 [(0, vr 13 1), (1, vr 7 (0 + 1)), (2, vr 8 (0 + 1)), (3, vr 31 (0 + 1)), (4, vi i)] [] (hq D x2) lQ) : Ev Θ (mL_law nm hh) 14 504 (mc + 6) (ms + 36) 817 [(0, vr 13 1), (1, vr 7 (0 + 1)), (2, vr 8 (0 + 1)), (3, vr 31 (0 + 1)), (4, vi i)] [] (hq D x) lQ := by
  have hq1 : ∃ k x1 b x2, F_L_removeNode 50000 (scr Θ (i + 1)) (scr Θ (i + 2)) x = some (k, x1) ∧ F_X8_removeNode 50000 0 (scr Θ (i + 1)) (scr Θ (i + 2)) x1 = some (b, x2) ∧ x2.1 8 0 0 = k ∧ (k = 0 → x2.2 31 0 0 = BitVec.ofInt 64 b) ∧ Inv x2 := rnI (F7 := F_X7_removeNode 50000 0 (scr Θ (i + 1)) (scr Θ (i + 2))) (F8 := F_X8_removeNode 50000 0 (scr Θ (i + 1)) (scr Θ (i + 2))) (p_removeNode (by decide) h (scr Θ (i + 1)) (scr Θ (i + 2))) (fun L w => n_X8_removeNode L 50000 0 (scr Θ (i + 1)) (scr Θ (i + 2)) w)
  obtain ⟨k, x1, b, x2, e1, e2, e3, e4, e5⟩ := hq1
  refine Ev.aload_n (q := 1) ⟨dL_law_817, rfl⟩ rfl rfl ?_
  refine Ev.aload_n (q := 0) ⟨dL_law_818, rfl⟩ rfl rfl ?_
  refine Ev.iload (q := 4) ⟨dL_law_819, rfl⟩ rfl ?_
  refine Ev.iconst ⟨dL_law_821, rfl⟩ (inRd rfl) ?_
  refine Ev.iadd ⟨dL_law_822, rfl⟩ (inRo (by omega) (by omega)) ?_
  refine Ev.sload (by omega) (by omega) ⟨dL_law_823, rfl⟩ ?_
  refine Ev.aload_n (q := 0) ⟨dL_law_824, rfl⟩ rfl rfl ?_
  refine Ev.iload (q := 4) ⟨dL_law_825, rfl⟩ rfl ?_
  refine Ev.iconst ⟨dL_law_827, rfl⟩ (inRd rfl) ?_
  refine Ev.iadd ⟨dL_law_828, rfl⟩ (inRo (by omega) (by omega)) ?_
  refine Ev.sload (by omega) (by omega) ⟨dL_law_829, rfl⟩ ?_
  refine Ev.aload_n (q := 3) ⟨dL_law_830, rfl⟩ rfl rfl ?_
  refine Ev.callH1 (mc1 := mc) (ms1 := ms) (v := vi k) (h1 := hq D x1) hL_176 (c_L_removeNode Θ D 50000 _ _ x _ e1) rfl rfl ⟨by decide, by decide, by omega, by omega, Nat.le_of_ble_eq_true rfl⟩ ⟨dL_law_831, rfl⟩ ?_
  refine Ev.istore (i := 5) (ls' := [(0, vr 13 1), (1, vr 7 (0 + 1)), (2, vr 8 (0 + 1)), (3, vr 31 (0 + 1)), (4, vi i), (5, vi k)]) ⟨dL_law_834, rfl⟩ (Nat.le_of_ble_eq_true rfl) rfl ?_
  refine Ev.aload_n (q := 2) ⟨dL_law_836, rfl⟩ rfl rfl ?_
  refine Ev.aload_n (q := 0) ⟨dL_law_837, rfl⟩ rfl rfl ?_
  refine Ev.iload (q := 4) ⟨dL_law_838, rfl⟩ rfl ?_
  refine Ev.iconst ⟨dL_law_840, rfl⟩ (inRd rfl) ?_
  refine Ev.iadd ⟨dL_law_841, rfl⟩ (inRo (by omega) (by omega)) ?_
  refine Ev.sload (by omega) (by omega) ⟨dL_law_842, rfl⟩ ?_
  refine Ev.aload_n (q := 0) ⟨dL_law_843, rfl⟩ rfl rfl ?_
  refine Ev.iload (q := 4) ⟨dL_law_844, rfl⟩ rfl ?_
  refine Ev.iconst ⟨dL_law_846, rfl⟩ (inRd rfl) ?_
  refine Ev.iadd ⟨dL_law_847, rfl⟩ (inRo (by omega) (by omega)) ?_
  refine Ev.sload (by omega) (by omega) ⟨dL_law_848, rfl⟩ ?_
  refine Ev.callV1 (mc1 := mc) (ms1 := ms) (v := vi b) (h1 := hq D x2) vL_178 (c_X8_removeNode Θ D 50000 0 _ _ x1 _ e2) rfl rfl (by decide) rfl ⟨by decide, by decide, by omega, by omega, Nat.le_of_ble_eq_true rfl⟩ ⟨dL_law_849, rfl⟩ ?_
  refine Ev.istore (i := 6) (ls' := [(0, vr 13 1), (1, vr 7 (0 + 1)), (2, vr 8 (0 + 1)), (3, vr 31 (0 + 1)), (4, vi i), (5, vi k), (6, vi b)]) ⟨dL_law_852, rfl⟩ (Nat.le_of_ble_eq_true rfl) rfl ?_
  refine Ev.aload_n (q := 2) ⟨dL_law_854, rfl⟩ rfl rfl ?_
  refine Ev.callV1 (mc1 := mc) (ms1 := ms) (v := vi (x2.1 8 0 0)) (h1 := hq D x2) vL_146 (c_X8_thrown Θ D 50000 0 x2 _ f_thrown) rfl rfl (by decide) rfl ⟨by decide, by decide, by omega, by omega, Nat.le_of_ble_eq_true rfl⟩ ⟨dL_law_855, rfl⟩ ?_
  refine Ev.iload (q := 5) ⟨dL_law_858, rfl⟩ rfl ?_
  refine Ev.icmp_eq jL_law_860 (fun _ => ?_) (fun hc => absurd e3 hc)
  refine Ev.iload (q := 5) ⟨dL_law_865, rfl⟩ rfl ?_
  have fin : Ev Θ (mL_law nm hh) 14 504 mc ms 882 [(0, vr 13 1), (1, vr 7 (0 + 1)), (2, vr 8 (0 + 1)), (3, vr 31 (0 + 1)), (4, vi i), (5, vi k), (6, vi b)] [] (hq D x2) lQ := by
    refine Ev.goto jL_law_882 ?_
    refine Ev.keep [0, 1, 2, 3, 4] rfl ?_
    exact kk x2 e5
  refine Ev.if_ne jL_law_867 (fun _ => fin) (fun hc => ?_)
  refine Ev.aload_n (q := 3) ⟨dL_law_870, rfl⟩ rfl rfl ?_
  refine Ev.iconst ⟨dL_law_871, rfl⟩ (inRd rfl) ?_
  refine Ev.laload (by decide) (by decide) (show (0 : Int) < ((1 : Nat) : Int) by decide) ⟨dL_law_872, rfl⟩ ?_
  refine Ev.iload (q := 6) ⟨dL_law_873, rfl⟩ rfl ?_
  refine Ev.i2l ⟨dL_law_875, rfl⟩ ?_
  refine Ev.lcmp ⟨dL_law_876, rfl⟩ ?_
  refine Ev.if_eq jL_law_877 (fun _ => fin) (fun hc => absurd ?_ hc)
  show lcm (x2.2 31 0 0) (BitVec.ofInt 64 b) = 0
  rw [e4 (by assumption)]; exact lcm_self _

set_option maxHeartbeats 4000000 in
set_option maxRecDepth 20000 in
theorem la_commit {nm : String} {hh : List (Nat × Nat × Nat × Nat)} {Θ : GC} {D : Nat → Nat → Prop} {x : Mm} {i : Int} {mc ms : Nat} (h : Inv x) (hN : gN Θ ≤ 3072) (h0 : 0 ≤ i) (h6 : i + 6 ≤ (gN Θ : Int)) (kk : ∀ x2, Inv x2 → Ev Θ (mL_law nm hh) 14 504 mc ms 2743 [(0, vr 13 1), (1, vr 7 (0 + 1)), (2, vr 8 (0 + 1)), (3, vr 31 (0 + 1)), (4, vi i)] [] (hq D x2) lQ) : Ev Θ (mL_law nm hh) 14 504 (mc + 6) (ms + 36) 885 [(0, vr 13 1), (1, vr 7 (0 + 1)), (2, vr 8 (0 + 1)), (3, vr 31 (0 + 1)), (4, vi i)] [] (hq D x) lQ := by
  have hq1 : ∃ k x1 b x2, F_L_commit 50000 (scr Θ (i + 1)) x = some (k, x1) ∧ F_X8_commit 50000 0 (scr Θ (i + 1)) x1 = some (b, x2) ∧ x2.1 8 0 0 = k ∧ (k = 0 → x2.2 31 0 0 = BitVec.ofInt 64 b) ∧ Inv x2 := rnI (F7 := F_X7_commit 50000 0 (scr Θ (i + 1))) (F8 := F_X8_commit 50000 0 (scr Θ (i + 1))) (p_commit (by decide) h (scr Θ (i + 1))) (fun L w => n_X8_commit L 50000 0 (scr Θ (i + 1)) w)
  obtain ⟨k, x1, b, x2, e1, e2, e3, e4, e5⟩ := hq1
  refine Ev.aload_n (q := 1) ⟨dL_law_885, rfl⟩ rfl rfl ?_
  refine Ev.aload_n (q := 0) ⟨dL_law_886, rfl⟩ rfl rfl ?_
  refine Ev.iload (q := 4) ⟨dL_law_887, rfl⟩ rfl ?_
  refine Ev.iconst ⟨dL_law_889, rfl⟩ (inRd rfl) ?_
  refine Ev.iadd ⟨dL_law_890, rfl⟩ (inRo (by omega) (by omega)) ?_
  refine Ev.sload (by omega) (by omega) ⟨dL_law_891, rfl⟩ ?_
  refine Ev.aload_n (q := 3) ⟨dL_law_892, rfl⟩ rfl rfl ?_
  refine Ev.callH1 (mc1 := mc) (ms1 := ms) (v := vi k) (h1 := hq D x1) hL_179 (c_L_commit Θ D 50000 _ x _ e1) rfl rfl ⟨by decide, by decide, by omega, by omega, Nat.le_of_ble_eq_true rfl⟩ ⟨dL_law_893, rfl⟩ ?_
  refine Ev.istore (i := 5) (ls' := [(0, vr 13 1), (1, vr 7 (0 + 1)), (2, vr 8 (0 + 1)), (3, vr 31 (0 + 1)), (4, vi i), (5, vi k)]) ⟨dL_law_896, rfl⟩ (Nat.le_of_ble_eq_true rfl) rfl ?_
  refine Ev.aload_n (q := 2) ⟨dL_law_898, rfl⟩ rfl rfl ?_
  refine Ev.aload_n (q := 0) ⟨dL_law_899, rfl⟩ rfl rfl ?_
  refine Ev.iload (q := 4) ⟨dL_law_900, rfl⟩ rfl ?_
  refine Ev.iconst ⟨dL_law_902, rfl⟩ (inRd rfl) ?_
  refine Ev.iadd ⟨dL_law_903, rfl⟩ (inRo (by omega) (by omega)) ?_
  refine Ev.sload (by omega) (by omega) ⟨dL_law_904, rfl⟩ ?_
  refine Ev.callV1 (mc1 := mc) (ms1 := ms) (v := vi b) (h1 := hq D x2) vL_181 (c_X8_commit Θ D 50000 0 _ x1 _ e2) rfl rfl (by decide) rfl ⟨by decide, by decide, by omega, by omega, Nat.le_of_ble_eq_true rfl⟩ ⟨dL_law_905, rfl⟩ ?_
  refine Ev.istore (i := 6) (ls' := [(0, vr 13 1), (1, vr 7 (0 + 1)), (2, vr 8 (0 + 1)), (3, vr 31 (0 + 1)), (4, vi i), (5, vi k), (6, vi b)]) ⟨dL_law_908, rfl⟩ (Nat.le_of_ble_eq_true rfl) rfl ?_
  refine Ev.aload_n (q := 2) ⟨dL_law_910, rfl⟩ rfl rfl ?_
  refine Ev.callV1 (mc1 := mc) (ms1 := ms) (v := vi (x2.1 8 0 0)) (h1 := hq D x2) vL_146 (c_X8_thrown Θ D 50000 0 x2 _ f_thrown) rfl rfl (by decide) rfl ⟨by decide, by decide, by omega, by omega, Nat.le_of_ble_eq_true rfl⟩ ⟨dL_law_911, rfl⟩ ?_
  refine Ev.iload (q := 5) ⟨dL_law_914, rfl⟩ rfl ?_
  refine Ev.icmp_eq jL_law_916 (fun _ => ?_) (fun hc => absurd e3 hc)
  refine Ev.iload (q := 5) ⟨dL_law_921, rfl⟩ rfl ?_
  have fin : Ev Θ (mL_law nm hh) 14 504 mc ms 938 [(0, vr 13 1), (1, vr 7 (0 + 1)), (2, vr 8 (0 + 1)), (3, vr 31 (0 + 1)), (4, vi i), (5, vi k), (6, vi b)] [] (hq D x2) lQ := by
    refine Ev.goto jL_law_938 ?_
    refine Ev.keep [0, 1, 2, 3, 4] rfl ?_
    exact kk x2 e5
  refine Ev.if_ne jL_law_923 (fun _ => fin) (fun hc => ?_)
  refine Ev.aload_n (q := 3) ⟨dL_law_926, rfl⟩ rfl rfl ?_
  refine Ev.iconst ⟨dL_law_927, rfl⟩ (inRd rfl) ?_
  refine Ev.laload (by decide) (by decide) (show (0 : Int) < ((1 : Nat) : Int) by decide) ⟨dL_law_928, rfl⟩ ?_
  refine Ev.iload (q := 6) ⟨dL_law_929, rfl⟩ rfl ?_
  refine Ev.i2l ⟨dL_law_931, rfl⟩ ?_
  refine Ev.lcmp ⟨dL_law_932, rfl⟩ ?_
  refine Ev.if_eq jL_law_933 (fun _ => fin) (fun hc => absurd ?_ hc)
  show lcm (x2.2 31 0 0) (BitVec.ofInt 64 b) = 0
  rw [e4 (by assumption)]; exact lcm_self _

set_option maxHeartbeats 4000000 in
set_option maxRecDepth 20000 in
theorem la_abandon {nm : String} {hh : List (Nat × Nat × Nat × Nat)} {Θ : GC} {D : Nat → Nat → Prop} {x : Mm} {i : Int} {mc ms : Nat} (h : Inv x) (hN : gN Θ ≤ 3072) (h0 : 0 ≤ i) (h6 : i + 6 ≤ (gN Θ : Int)) (kk : ∀ x2, Inv x2 → Ev Θ (mL_law nm hh) 14 504 mc ms 2743 [(0, vr 13 1), (1, vr 7 (0 + 1)), (2, vr 8 (0 + 1)), (3, vr 31 (0 + 1)), (4, vi i)] [] (hq D x2) lQ) : Ev Θ (mL_law nm hh) 14 504 (mc + 6) (ms + 36) 941 [(0, vr 13 1), (1, vr 7 (0 + 1)), (2, vr 8 (0 + 1)), (3, vr 31 (0 + 1)), (4, vi i)] [] (hq D x) lQ := by
  have hq1 : ∃ k x1 b x2, F_L_abandon 50000 (scr Θ (i + 1)) x = some (k, x1) ∧ F_X8_abandon 50000 0 (scr Θ (i + 1)) x1 = some (b, x2) ∧ x2.1 8 0 0 = k ∧ (k = 0 → x2.2 31 0 0 = BitVec.ofInt 64 b) ∧ Inv x2 := rnI (F7 := F_X7_abandon 50000 0 (scr Θ (i + 1))) (F8 := F_X8_abandon 50000 0 (scr Θ (i + 1))) (p_abandon (by decide) h (scr Θ (i + 1))) (fun L w => n_X8_abandon L 50000 0 (scr Θ (i + 1)) w)
  obtain ⟨k, x1, b, x2, e1, e2, e3, e4, e5⟩ := hq1
  refine Ev.aload_n (q := 1) ⟨dL_law_941, rfl⟩ rfl rfl ?_
  refine Ev.aload_n (q := 0) ⟨dL_law_942, rfl⟩ rfl rfl ?_
  refine Ev.iload (q := 4) ⟨dL_law_943, rfl⟩ rfl ?_
  refine Ev.iconst ⟨dL_law_945, rfl⟩ (inRd rfl) ?_
  refine Ev.iadd ⟨dL_law_946, rfl⟩ (inRo (by omega) (by omega)) ?_
  refine Ev.sload (by omega) (by omega) ⟨dL_law_947, rfl⟩ ?_
  refine Ev.aload_n (q := 3) ⟨dL_law_948, rfl⟩ rfl rfl ?_
  refine Ev.callH1 (mc1 := mc) (ms1 := ms) (v := vi k) (h1 := hq D x1) hL_182 (c_L_abandon Θ D 50000 _ x _ e1) rfl rfl ⟨by decide, by decide, by omega, by omega, Nat.le_of_ble_eq_true rfl⟩ ⟨dL_law_949, rfl⟩ ?_
  refine Ev.istore (i := 5) (ls' := [(0, vr 13 1), (1, vr 7 (0 + 1)), (2, vr 8 (0 + 1)), (3, vr 31 (0 + 1)), (4, vi i), (5, vi k)]) ⟨dL_law_952, rfl⟩ (Nat.le_of_ble_eq_true rfl) rfl ?_
  refine Ev.aload_n (q := 2) ⟨dL_law_954, rfl⟩ rfl rfl ?_
  refine Ev.aload_n (q := 0) ⟨dL_law_955, rfl⟩ rfl rfl ?_
  refine Ev.iload (q := 4) ⟨dL_law_956, rfl⟩ rfl ?_
  refine Ev.iconst ⟨dL_law_958, rfl⟩ (inRd rfl) ?_
  refine Ev.iadd ⟨dL_law_959, rfl⟩ (inRo (by omega) (by omega)) ?_
  refine Ev.sload (by omega) (by omega) ⟨dL_law_960, rfl⟩ ?_
  refine Ev.callV1 (mc1 := mc) (ms1 := ms) (v := vi b) (h1 := hq D x2) vL_184 (c_X8_abandon Θ D 50000 0 _ x1 _ e2) rfl rfl (by decide) rfl ⟨by decide, by decide, by omega, by omega, Nat.le_of_ble_eq_true rfl⟩ ⟨dL_law_961, rfl⟩ ?_
  refine Ev.istore (i := 6) (ls' := [(0, vr 13 1), (1, vr 7 (0 + 1)), (2, vr 8 (0 + 1)), (3, vr 31 (0 + 1)), (4, vi i), (5, vi k), (6, vi b)]) ⟨dL_law_964, rfl⟩ (Nat.le_of_ble_eq_true rfl) rfl ?_
  refine Ev.aload_n (q := 2) ⟨dL_law_966, rfl⟩ rfl rfl ?_
  refine Ev.callV1 (mc1 := mc) (ms1 := ms) (v := vi (x2.1 8 0 0)) (h1 := hq D x2) vL_146 (c_X8_thrown Θ D 50000 0 x2 _ f_thrown) rfl rfl (by decide) rfl ⟨by decide, by decide, by omega, by omega, Nat.le_of_ble_eq_true rfl⟩ ⟨dL_law_967, rfl⟩ ?_
  refine Ev.iload (q := 5) ⟨dL_law_970, rfl⟩ rfl ?_
  refine Ev.icmp_eq jL_law_972 (fun _ => ?_) (fun hc => absurd e3 hc)
  refine Ev.iload (q := 5) ⟨dL_law_977, rfl⟩ rfl ?_
  have fin : Ev Θ (mL_law nm hh) 14 504 mc ms 994 [(0, vr 13 1), (1, vr 7 (0 + 1)), (2, vr 8 (0 + 1)), (3, vr 31 (0 + 1)), (4, vi i), (5, vi k), (6, vi b)] [] (hq D x2) lQ := by
    refine Ev.goto jL_law_994 ?_
    refine Ev.keep [0, 1, 2, 3, 4] rfl ?_
    exact kk x2 e5
  refine Ev.if_ne jL_law_979 (fun _ => fin) (fun hc => ?_)
  refine Ev.aload_n (q := 3) ⟨dL_law_982, rfl⟩ rfl rfl ?_
  refine Ev.iconst ⟨dL_law_983, rfl⟩ (inRd rfl) ?_
  refine Ev.laload (by decide) (by decide) (show (0 : Int) < ((1 : Nat) : Int) by decide) ⟨dL_law_984, rfl⟩ ?_
  refine Ev.iload (q := 6) ⟨dL_law_985, rfl⟩ rfl ?_
  refine Ev.i2l ⟨dL_law_987, rfl⟩ ?_
  refine Ev.lcmp ⟨dL_law_988, rfl⟩ ?_
  refine Ev.if_eq jL_law_989 (fun _ => fin) (fun hc => absurd ?_ hc)
  show lcm (x2.2 31 0 0) (BitVec.ofInt 64 b) = 0
  rw [e4 (by assumption)]; exact lcm_self _

set_option maxHeartbeats 4000000 in
set_option maxRecDepth 20000 in
theorem la_resolve {nm : String} {hh : List (Nat × Nat × Nat × Nat)} {Θ : GC} {D : Nat → Nat → Prop} {x : Mm} {i : Int} {mc ms : Nat} (h : Inv x) (hN : gN Θ ≤ 3072) (h0 : 0 ≤ i) (h6 : i + 6 ≤ (gN Θ : Int)) (kk : ∀ x2, Inv x2 → Ev Θ (mL_law nm hh) 14 504 mc ms 2743 [(0, vr 13 1), (1, vr 7 (0 + 1)), (2, vr 8 (0 + 1)), (3, vr 31 (0 + 1)), (4, vi i)] [] (hq D x2) lQ) : Ev Θ (mL_law nm hh) 14 504 (mc + 6) (ms + 36) 997 [(0, vr 13 1), (1, vr 7 (0 + 1)), (2, vr 8 (0 + 1)), (3, vr 31 (0 + 1)), (4, vi i)] [] (hq D x) lQ := by
  have hq1 : ∃ k x1 b x2, F_L_resolve 50000 (scr Θ (i + 1)) (bnz (scr Θ (i + 2))) x = some (k, x1) ∧ F_X8_resolve 50000 0 (scr Θ (i + 1)) (bnz (scr Θ (i + 2))) x1 = some (b, x2) ∧ x2.1 8 0 0 = k ∧ (k = 0 → x2.2 31 0 0 = BitVec.ofInt 64 b) ∧ Inv x2 := rnI (F7 := F_X7_resolve 50000 0 (scr Θ (i + 1)) (bnz (scr Θ (i + 2)))) (F8 := F_X8_resolve 50000 0 (scr Θ (i + 1)) (bnz (scr Θ (i + 2)))) (p_resolve (by decide) h (scr Θ (i + 1)) (bnz (scr Θ (i + 2)))) (fun L w => n_X8_resolve L 50000 0 (scr Θ (i + 1)) (bnz (scr Θ (i + 2))) w)
  obtain ⟨k, x1, b, x2, e1, e2, e3, e4, e5⟩ := hq1
  refine Ev.aload_n (q := 1) ⟨dL_law_997, rfl⟩ rfl rfl ?_
  refine Ev.aload_n (q := 0) ⟨dL_law_998, rfl⟩ rfl rfl ?_
  refine Ev.iload (q := 4) ⟨dL_law_999, rfl⟩ rfl ?_
  refine Ev.iconst ⟨dL_law_1001, rfl⟩ (inRd rfl) ?_
  refine Ev.iadd ⟨dL_law_1002, rfl⟩ (inRo (by omega) (by omega)) ?_
  refine Ev.sload (by omega) (by omega) ⟨dL_law_1003, rfl⟩ ?_
  refine Ev.aload_n (q := 0) ⟨dL_law_1004, rfl⟩ rfl rfl ?_
  refine Ev.iload (q := 4) ⟨dL_law_1005, rfl⟩ rfl ?_
  refine Ev.iconst ⟨dL_law_1007, rfl⟩ (inRd rfl) ?_
  refine Ev.iadd ⟨dL_law_1008, rfl⟩ (inRo (by omega) (by omega)) ?_
  refine Ev.sload (by omega) (by omega) ⟨dL_law_1009, rfl⟩ ?_
  refine Ev.bz jL_law_1010 ⟨dL_law_1013, rfl⟩ jL_law_1014 ⟨dL_law_1017, rfl⟩ ?_
  refine Ev.aload_n (q := 3) ⟨dL_law_1018, rfl⟩ rfl rfl ?_
  refine Ev.callH1 (mc1 := mc) (ms1 := ms) (v := vi k) (h1 := hq D x1) hL_185 (c_L_resolve Θ D 50000 _ _ x _ e1) rfl rfl ⟨by decide, by decide, by omega, by omega, Nat.le_of_ble_eq_true rfl⟩ ⟨dL_law_1019, rfl⟩ ?_
  refine Ev.istore (i := 5) (ls' := [(0, vr 13 1), (1, vr 7 (0 + 1)), (2, vr 8 (0 + 1)), (3, vr 31 (0 + 1)), (4, vi i), (5, vi k)]) ⟨dL_law_1022, rfl⟩ (Nat.le_of_ble_eq_true rfl) rfl ?_
  refine Ev.aload_n (q := 2) ⟨dL_law_1024, rfl⟩ rfl rfl ?_
  refine Ev.aload_n (q := 0) ⟨dL_law_1025, rfl⟩ rfl rfl ?_
  refine Ev.iload (q := 4) ⟨dL_law_1026, rfl⟩ rfl ?_
  refine Ev.iconst ⟨dL_law_1028, rfl⟩ (inRd rfl) ?_
  refine Ev.iadd ⟨dL_law_1029, rfl⟩ (inRo (by omega) (by omega)) ?_
  refine Ev.sload (by omega) (by omega) ⟨dL_law_1030, rfl⟩ ?_
  refine Ev.aload_n (q := 0) ⟨dL_law_1031, rfl⟩ rfl rfl ?_
  refine Ev.iload (q := 4) ⟨dL_law_1032, rfl⟩ rfl ?_
  refine Ev.iconst ⟨dL_law_1034, rfl⟩ (inRd rfl) ?_
  refine Ev.iadd ⟨dL_law_1035, rfl⟩ (inRo (by omega) (by omega)) ?_
  refine Ev.sload (by omega) (by omega) ⟨dL_law_1036, rfl⟩ ?_
  refine Ev.bz jL_law_1037 ⟨dL_law_1040, rfl⟩ jL_law_1041 ⟨dL_law_1044, rfl⟩ ?_
  refine Ev.callV1 (mc1 := mc) (ms1 := ms) (v := vi b) (h1 := hq D x2) vL_188 (c_X8_resolve Θ D 50000 0 _ _ x1 _ e2) rfl rfl (by decide) rfl ⟨by decide, by decide, by omega, by omega, Nat.le_of_ble_eq_true rfl⟩ ⟨dL_law_1045, rfl⟩ ?_
  refine Ev.istore (i := 6) (ls' := [(0, vr 13 1), (1, vr 7 (0 + 1)), (2, vr 8 (0 + 1)), (3, vr 31 (0 + 1)), (4, vi i), (5, vi k), (6, vi b)]) ⟨dL_law_1048, rfl⟩ (Nat.le_of_ble_eq_true rfl) rfl ?_
  refine Ev.aload_n (q := 2) ⟨dL_law_1050, rfl⟩ rfl rfl ?_
  refine Ev.callV1 (mc1 := mc) (ms1 := ms) (v := vi (x2.1 8 0 0)) (h1 := hq D x2) vL_146 (c_X8_thrown Θ D 50000 0 x2 _ f_thrown) rfl rfl (by decide) rfl ⟨by decide, by decide, by omega, by omega, Nat.le_of_ble_eq_true rfl⟩ ⟨dL_law_1051, rfl⟩ ?_
  refine Ev.iload (q := 5) ⟨dL_law_1054, rfl⟩ rfl ?_
  refine Ev.icmp_eq jL_law_1056 (fun _ => ?_) (fun hc => absurd e3 hc)
  refine Ev.iload (q := 5) ⟨dL_law_1061, rfl⟩ rfl ?_
  have fin : Ev Θ (mL_law nm hh) 14 504 mc ms 1078 [(0, vr 13 1), (1, vr 7 (0 + 1)), (2, vr 8 (0 + 1)), (3, vr 31 (0 + 1)), (4, vi i), (5, vi k), (6, vi b)] [] (hq D x2) lQ := by
    refine Ev.goto jL_law_1078 ?_
    refine Ev.keep [0, 1, 2, 3, 4] rfl ?_
    exact kk x2 e5
  refine Ev.if_ne jL_law_1063 (fun _ => fin) (fun hc => ?_)
  refine Ev.aload_n (q := 3) ⟨dL_law_1066, rfl⟩ rfl rfl ?_
  refine Ev.iconst ⟨dL_law_1067, rfl⟩ (inRd rfl) ?_
  refine Ev.laload (by decide) (by decide) (show (0 : Int) < ((1 : Nat) : Int) by decide) ⟨dL_law_1068, rfl⟩ ?_
  refine Ev.iload (q := 6) ⟨dL_law_1069, rfl⟩ rfl ?_
  refine Ev.i2l ⟨dL_law_1071, rfl⟩ ?_
  refine Ev.lcmp ⟨dL_law_1072, rfl⟩ ?_
  refine Ev.if_eq jL_law_1073 (fun _ => fin) (fun hc => absurd ?_ hc)
  show lcm (x2.2 31 0 0) (BitVec.ofInt 64 b) = 0
  rw [e4 (by assumption)]; exact lcm_self _

set_option maxHeartbeats 4000000 in
set_option maxRecDepth 20000 in
theorem la_advance {nm : String} {hh : List (Nat × Nat × Nat × Nat)} {Θ : GC} {D : Nat → Nat → Prop} {x : Mm} {i : Int} {mc ms : Nat} (h : Inv x) (hN : gN Θ ≤ 3072) (h0 : 0 ≤ i) (h6 : i + 6 ≤ (gN Θ : Int)) (kk : ∀ x2, Inv x2 → Ev Θ (mL_law nm hh) 14 504 mc ms 2743 [(0, vr 13 1), (1, vr 7 (0 + 1)), (2, vr 8 (0 + 1)), (3, vr 31 (0 + 1)), (4, vi i)] [] (hq D x2) lQ) : Ev Θ (mL_law nm hh) 14 504 (mc + 6) (ms + 36) 1081 [(0, vr 13 1), (1, vr 7 (0 + 1)), (2, vr 8 (0 + 1)), (3, vr 31 (0 + 1)), (4, vi i)] [] (hq D x) lQ := by
  have hq1 : ∃ k x1 b x2, F_L_advance 50000 (scr Θ (i + 1)) x = some (k, x1) ∧ F_X8_advance 50000 0 (scr Θ (i + 1)) x1 = some (b, x2) ∧ x2.1 8 0 0 = k ∧ (k = 0 → x2.2 31 0 0 = BitVec.ofInt 64 b) ∧ Inv x2 := rnI (F7 := F_X7_advance 50000 0 (scr Θ (i + 1))) (F8 := F_X8_advance 50000 0 (scr Θ (i + 1))) (p_advance (by decide) h (scr Θ (i + 1))) (fun L w => n_X8_advance L 50000 0 (scr Θ (i + 1)) w)
  obtain ⟨k, x1, b, x2, e1, e2, e3, e4, e5⟩ := hq1
  refine Ev.aload_n (q := 1) ⟨dL_law_1081, rfl⟩ rfl rfl ?_
  refine Ev.aload_n (q := 0) ⟨dL_law_1082, rfl⟩ rfl rfl ?_
  refine Ev.iload (q := 4) ⟨dL_law_1083, rfl⟩ rfl ?_
  refine Ev.iconst ⟨dL_law_1085, rfl⟩ (inRd rfl) ?_
  refine Ev.iadd ⟨dL_law_1086, rfl⟩ (inRo (by omega) (by omega)) ?_
  refine Ev.sload (by omega) (by omega) ⟨dL_law_1087, rfl⟩ ?_
  refine Ev.aload_n (q := 3) ⟨dL_law_1088, rfl⟩ rfl rfl ?_
  refine Ev.callH1 (mc1 := mc) (ms1 := ms) (v := vi k) (h1 := hq D x1) hL_189 (c_L_advance Θ D 50000 _ x _ e1) rfl rfl ⟨by decide, by decide, by omega, by omega, Nat.le_of_ble_eq_true rfl⟩ ⟨dL_law_1089, rfl⟩ ?_
  refine Ev.istore (i := 5) (ls' := [(0, vr 13 1), (1, vr 7 (0 + 1)), (2, vr 8 (0 + 1)), (3, vr 31 (0 + 1)), (4, vi i), (5, vi k)]) ⟨dL_law_1092, rfl⟩ (Nat.le_of_ble_eq_true rfl) rfl ?_
  refine Ev.aload_n (q := 2) ⟨dL_law_1094, rfl⟩ rfl rfl ?_
  refine Ev.aload_n (q := 0) ⟨dL_law_1095, rfl⟩ rfl rfl ?_
  refine Ev.iload (q := 4) ⟨dL_law_1096, rfl⟩ rfl ?_
  refine Ev.iconst ⟨dL_law_1098, rfl⟩ (inRd rfl) ?_
  refine Ev.iadd ⟨dL_law_1099, rfl⟩ (inRo (by omega) (by omega)) ?_
  refine Ev.sload (by omega) (by omega) ⟨dL_law_1100, rfl⟩ ?_
  refine Ev.callV1 (mc1 := mc) (ms1 := ms) (v := vi b) (h1 := hq D x2) vL_191 (c_X8_advance Θ D 50000 0 _ x1 _ e2) rfl rfl (by decide) rfl ⟨by decide, by decide, by omega, by omega, Nat.le_of_ble_eq_true rfl⟩ ⟨dL_law_1101, rfl⟩ ?_
  refine Ev.istore (i := 6) (ls' := [(0, vr 13 1), (1, vr 7 (0 + 1)), (2, vr 8 (0 + 1)), (3, vr 31 (0 + 1)), (4, vi i), (5, vi k), (6, vi b)]) ⟨dL_law_1104, rfl⟩ (Nat.le_of_ble_eq_true rfl) rfl ?_
  refine Ev.aload_n (q := 2) ⟨dL_law_1106, rfl⟩ rfl rfl ?_
  refine Ev.callV1 (mc1 := mc) (ms1 := ms) (v := vi (x2.1 8 0 0)) (h1 := hq D x2) vL_146 (c_X8_thrown Θ D 50000 0 x2 _ f_thrown) rfl rfl (by decide) rfl ⟨by decide, by decide, by omega, by omega, Nat.le_of_ble_eq_true rfl⟩ ⟨dL_law_1107, rfl⟩ ?_
  refine Ev.iload (q := 5) ⟨dL_law_1110, rfl⟩ rfl ?_
  refine Ev.icmp_eq jL_law_1112 (fun _ => ?_) (fun hc => absurd e3 hc)
  refine Ev.iload (q := 5) ⟨dL_law_1117, rfl⟩ rfl ?_
  have fin : Ev Θ (mL_law nm hh) 14 504 mc ms 1134 [(0, vr 13 1), (1, vr 7 (0 + 1)), (2, vr 8 (0 + 1)), (3, vr 31 (0 + 1)), (4, vi i), (5, vi k), (6, vi b)] [] (hq D x2) lQ := by
    refine Ev.goto jL_law_1134 ?_
    refine Ev.keep [0, 1, 2, 3, 4] rfl ?_
    exact kk x2 e5
  refine Ev.if_ne jL_law_1119 (fun _ => fin) (fun hc => ?_)
  refine Ev.aload_n (q := 3) ⟨dL_law_1122, rfl⟩ rfl rfl ?_
  refine Ev.iconst ⟨dL_law_1123, rfl⟩ (inRd rfl) ?_
  refine Ev.laload (by decide) (by decide) (show (0 : Int) < ((1 : Nat) : Int) by decide) ⟨dL_law_1124, rfl⟩ ?_
  refine Ev.iload (q := 6) ⟨dL_law_1125, rfl⟩ rfl ?_
  refine Ev.i2l ⟨dL_law_1127, rfl⟩ ?_
  refine Ev.lcmp ⟨dL_law_1128, rfl⟩ ?_
  refine Ev.if_eq jL_law_1129 (fun _ => fin) (fun hc => absurd ?_ hc)
  show lcm (x2.2 31 0 0) (BitVec.ofInt 64 b) = 0
  rw [e4 (by assumption)]; exact lcm_self _

set_option maxHeartbeats 4000000 in
set_option maxRecDepth 20000 in
theorem la_undo {nm : String} {hh : List (Nat × Nat × Nat × Nat)} {Θ : GC} {D : Nat → Nat → Prop} {x : Mm} {i : Int} {mc ms : Nat} (h : Inv x) (hN : gN Θ ≤ 3072) (h0 : 0 ≤ i) (h6 : i + 6 ≤ (gN Θ : Int)) (kk : ∀ x2, Inv x2 → Ev Θ (mL_law nm hh) 14 504 mc ms 2743 [(0, vr 13 1), (1, vr 7 (0 + 1)), (2, vr 8 (0 + 1)), (3, vr 31 (0 + 1)), (4, vi i)] [] (hq D x2) lQ) : Ev Θ (mL_law nm hh) 14 504 (mc + 6) (ms + 36) 1137 [(0, vr 13 1), (1, vr 7 (0 + 1)), (2, vr 8 (0 + 1)), (3, vr 31 (0 + 1)), (4, vi i)] [] (hq D x) lQ := by
  have hq1 : ∃ k x1 b x2, F_L_undo 50000  x = some (k, x1) ∧ F_X8_undo 50000 0  x1 = some (b, x2) ∧ x2.1 8 0 0 = k ∧ (k = 0 → x2.2 31 0 0 = BitVec.ofInt 64 b) ∧ Inv x2 := rnI (F7 := F_X7_undo 50000 0) (F8 := F_X8_undo 50000 0) (p_undo (by decide) h ) (fun L w => n_X8_undo L 50000 0 w)
  obtain ⟨k, x1, b, x2, e1, e2, e3, e4, e5⟩ := hq1
  refine Ev.aload_n (q := 1) ⟨dL_law_1137, rfl⟩ rfl rfl ?_
  refine Ev.aload_n (q := 3) ⟨dL_law_1138, rfl⟩ rfl rfl ?_
  refine Ev.callH1 (mc1 := mc) (ms1 := ms) (v := vi k) (h1 := hq D x1) hL_192 (c_L_undo Θ D 50000  x _ e1) rfl rfl ⟨by decide, by decide, by omega, by omega, Nat.le_of_ble_eq_true rfl⟩ ⟨dL_law_1139, rfl⟩ ?_
  refine Ev.istore (i := 5) (ls' := [(0, vr 13 1), (1, vr 7 (0 + 1)), (2, vr 8 (0 + 1)), (3, vr 31 (0 + 1)), (4, vi i), (5, vi k)]) ⟨dL_law_1142, rfl⟩ (Nat.le_of_ble_eq_true rfl) rfl ?_
  refine Ev.aload_n (q := 2) ⟨dL_law_1144, rfl⟩ rfl rfl ?_
  refine Ev.callV1 (mc1 := mc) (ms1 := ms) (v := vi b) (h1 := hq D x2) vL_194 (c_X8_undo Θ D 50000 0  x1 _ e2) rfl rfl (by decide) rfl ⟨by decide, by decide, by omega, by omega, Nat.le_of_ble_eq_true rfl⟩ ⟨dL_law_1145, rfl⟩ ?_
  refine Ev.istore (i := 6) (ls' := [(0, vr 13 1), (1, vr 7 (0 + 1)), (2, vr 8 (0 + 1)), (3, vr 31 (0 + 1)), (4, vi i), (5, vi k), (6, vi b)]) ⟨dL_law_1148, rfl⟩ (Nat.le_of_ble_eq_true rfl) rfl ?_
  refine Ev.aload_n (q := 2) ⟨dL_law_1150, rfl⟩ rfl rfl ?_
  refine Ev.callV1 (mc1 := mc) (ms1 := ms) (v := vi (x2.1 8 0 0)) (h1 := hq D x2) vL_146 (c_X8_thrown Θ D 50000 0 x2 _ f_thrown) rfl rfl (by decide) rfl ⟨by decide, by decide, by omega, by omega, Nat.le_of_ble_eq_true rfl⟩ ⟨dL_law_1151, rfl⟩ ?_
  refine Ev.iload (q := 5) ⟨dL_law_1154, rfl⟩ rfl ?_
  refine Ev.icmp_eq jL_law_1156 (fun _ => ?_) (fun hc => absurd e3 hc)
  refine Ev.iload (q := 5) ⟨dL_law_1161, rfl⟩ rfl ?_
  have fin : Ev Θ (mL_law nm hh) 14 504 mc ms 1178 [(0, vr 13 1), (1, vr 7 (0 + 1)), (2, vr 8 (0 + 1)), (3, vr 31 (0 + 1)), (4, vi i), (5, vi k), (6, vi b)] [] (hq D x2) lQ := by
    refine Ev.goto jL_law_1178 ?_
    refine Ev.keep [0, 1, 2, 3, 4] rfl ?_
    exact kk x2 e5
  refine Ev.if_ne jL_law_1163 (fun _ => fin) (fun hc => ?_)
  refine Ev.aload_n (q := 3) ⟨dL_law_1166, rfl⟩ rfl rfl ?_
  refine Ev.iconst ⟨dL_law_1167, rfl⟩ (inRd rfl) ?_
  refine Ev.laload (by decide) (by decide) (show (0 : Int) < ((1 : Nat) : Int) by decide) ⟨dL_law_1168, rfl⟩ ?_
  refine Ev.iload (q := 6) ⟨dL_law_1169, rfl⟩ rfl ?_
  refine Ev.i2l ⟨dL_law_1171, rfl⟩ ?_
  refine Ev.lcmp ⟨dL_law_1172, rfl⟩ ?_
  refine Ev.if_eq jL_law_1173 (fun _ => fin) (fun hc => absurd ?_ hc)
  show lcm (x2.2 31 0 0) (BitVec.ofInt 64 b) = 0
  rw [e4 (by assumption)]; exact lcm_self _

set_option maxHeartbeats 4000000 in
set_option maxRecDepth 20000 in
theorem la_undoCount {nm : String} {hh : List (Nat × Nat × Nat × Nat)} {Θ : GC} {D : Nat → Nat → Prop} {x : Mm} {i : Int} {mc ms : Nat} (h : Inv x) (hN : gN Θ ≤ 3072) (h0 : 0 ≤ i) (h6 : i + 6 ≤ (gN Θ : Int)) (kk : ∀ x2, Inv x2 → Ev Θ (mL_law nm hh) 14 504 mc ms 2743 [(0, vr 13 1), (1, vr 7 (0 + 1)), (2, vr 8 (0 + 1)), (3, vr 31 (0 + 1)), (4, vi i)] [] (hq D x2) lQ) : Ev Θ (mL_law nm hh) 14 504 (mc + 6) (ms + 36) 1181 [(0, vr 13 1), (1, vr 7 (0 + 1)), (2, vr 8 (0 + 1)), (3, vr 31 (0 + 1)), (4, vi i)] [] (hq D x) lQ := by
  obtain ⟨v, x2, e1, e2, e5⟩ := p_undoCount (z := 50000) h
  refine Ev.aload_n (q := 1) ⟨dL_law_1181, rfl⟩ rfl rfl ?_
  refine Ev.callV1 (mc1 := mc) (ms1 := ms) (v := vi v) (h1 := hq D x) vL_195 (c_X7_undoCount Θ D 50000 0  x _ e1) rfl rfl (by decide) rfl ⟨by decide, by decide, by omega, by omega, Nat.le_of_ble_eq_true rfl⟩ ⟨dL_law_1182, rfl⟩ ?_
  refine Ev.aload_n (q := 2) ⟨dL_law_1185, rfl⟩ rfl rfl ?_
  refine Ev.callV1 (mc1 := mc) (ms1 := ms) (v := vi v) (h1 := hq D x2) vL_198 (c_X8_undoCount Θ D 50000 0  x _ e2) rfl rfl (by decide) rfl ⟨by decide, by decide, by omega, by omega, Nat.le_of_ble_eq_true rfl⟩ ⟨dL_law_1186, rfl⟩ ?_
  refine Ev.icmp_eq jL_law_1189 (fun _ => ?_) (fun hc => absurd rfl hc)
  exact kk x2 e5

set_option maxHeartbeats 4000000 in
set_option maxRecDepth 20000 in
theorem la_save {nm : String} {hh : List (Nat × Nat × Nat × Nat)} {Θ : GC} {D : Nat → Nat → Prop} {x : Mm} {i : Int} {mc ms : Nat} (h : Inv x) (hN : gN Θ ≤ 3072) (h0 : 0 ≤ i) (h6 : i + 6 ≤ (gN Θ : Int)) (kk : ∀ x2, Inv x2 → Ev Θ (mL_law nm hh) 14 504 mc ms 2743 [(0, vr 13 1), (1, vr 7 (0 + 1)), (2, vr 8 (0 + 1)), (3, vr 31 (0 + 1)), (4, vi i)] [] (hq D x2) lQ) : Ev Θ (mL_law nm hh) 14 504 (mc + 6) (ms + 36) 1194 [(0, vr 13 1), (1, vr 7 (0 + 1)), (2, vr 8 (0 + 1)), (3, vr 31 (0 + 1)), (4, vi i)] [] (hq D x) lQ := by
  obtain ⟨v, x1, x2, e1, e2, e5⟩ := p_save (z := 50000) (by decide) h
  refine Ev.aload_n (q := 1) ⟨dL_law_1194, rfl⟩ rfl rfl ?_
  refine Ev.callV1 (mc1 := mc) (ms1 := ms) (v := vi v) (h1 := hq D x1) vL_199 (c_X7_save Θ D 50000 0  x _ e1) rfl rfl (by decide) rfl ⟨by decide, by decide, by omega, by omega, Nat.le_of_ble_eq_true rfl⟩ ⟨dL_law_1195, rfl⟩ ?_
  refine Ev.aload_n (q := 2) ⟨dL_law_1198, rfl⟩ rfl rfl ?_
  refine Ev.callV1 (mc1 := mc) (ms1 := ms) (v := vi v) (h1 := hq D x2) vL_202 (c_X8_save Θ D 50000 0  x1 _ e2) rfl rfl (by decide) rfl ⟨by decide, by decide, by omega, by omega, Nat.le_of_ble_eq_true rfl⟩ ⟨dL_law_1199, rfl⟩ ?_
  refine Ev.icmp_eq jL_law_1202 (fun _ => ?_) (fun hc => absurd rfl hc)
  exact kk x2 e5

set_option maxHeartbeats 4000000 in
set_option maxRecDepth 20000 in
theorem la_restore {nm : String} {hh : List (Nat × Nat × Nat × Nat)} {Θ : GC} {D : Nat → Nat → Prop} {x : Mm} {i : Int} {mc ms : Nat} (h : Inv x) (hN : gN Θ ≤ 3072) (h0 : 0 ≤ i) (h6 : i + 6 ≤ (gN Θ : Int)) (kk : ∀ x2, Inv x2 → Ev Θ (mL_law nm hh) 14 504 mc ms 2743 [(0, vr 13 1), (1, vr 7 (0 + 1)), (2, vr 8 (0 + 1)), (3, vr 31 (0 + 1)), (4, vi i)] [] (hq D x2) lQ) : Ev Θ (mL_law nm hh) 14 504 (mc + 6) (ms + 36) 1207 [(0, vr 13 1), (1, vr 7 (0 + 1)), (2, vr 8 (0 + 1)), (3, vr 31 (0 + 1)), (4, vi i)] [] (hq D x) lQ := by
  have hq1 : ∃ k x1 b x2, F_L_restore 50000  x = some (k, x1) ∧ F_X8_restore 50000 0  x1 = some (b, x2) ∧ x2.1 8 0 0 = k ∧ (k = 0 → x2.2 31 0 0 = BitVec.ofInt 64 b) ∧ Inv x2 := rnI (F7 := F_X7_restore 50000 0) (F8 := F_X8_restore 50000 0) (p_restore (by decide) h ) (fun L w => n_X8_restore L 50000 0 w)
  obtain ⟨k, x1, b, x2, e1, e2, e3, e4, e5⟩ := hq1
  refine Ev.aload_n (q := 1) ⟨dL_law_1207, rfl⟩ rfl rfl ?_
  refine Ev.aload_n (q := 3) ⟨dL_law_1208, rfl⟩ rfl rfl ?_
  refine Ev.callH1 (mc1 := mc) (ms1 := ms) (v := vi k) (h1 := hq D x1) hL_203 (c_L_restore Θ D 50000  x _ e1) rfl rfl ⟨by decide, by decide, by omega, by omega, Nat.le_of_ble_eq_true rfl⟩ ⟨dL_law_1209, rfl⟩ ?_
  refine Ev.istore (i := 5) (ls' := [(0, vr 13 1), (1, vr 7 (0 + 1)), (2, vr 8 (0 + 1)), (3, vr 31 (0 + 1)), (4, vi i), (5, vi k)]) ⟨dL_law_1212, rfl⟩ (Nat.le_of_ble_eq_true rfl) rfl ?_
  refine Ev.aload_n (q := 2) ⟨dL_law_1214, rfl⟩ rfl rfl ?_
  refine Ev.callV1 (mc1 := mc) (ms1 := ms) (v := vi b) (h1 := hq D x2) vL_205 (c_X8_restore Θ D 50000 0  x1 _ e2) rfl rfl (by decide) rfl ⟨by decide, by decide, by omega, by omega, Nat.le_of_ble_eq_true rfl⟩ ⟨dL_law_1215, rfl⟩ ?_
  refine Ev.istore (i := 6) (ls' := [(0, vr 13 1), (1, vr 7 (0 + 1)), (2, vr 8 (0 + 1)), (3, vr 31 (0 + 1)), (4, vi i), (5, vi k), (6, vi b)]) ⟨dL_law_1218, rfl⟩ (Nat.le_of_ble_eq_true rfl) rfl ?_
  refine Ev.aload_n (q := 2) ⟨dL_law_1220, rfl⟩ rfl rfl ?_
  refine Ev.callV1 (mc1 := mc) (ms1 := ms) (v := vi (x2.1 8 0 0)) (h1 := hq D x2) vL_146 (c_X8_thrown Θ D 50000 0 x2 _ f_thrown) rfl rfl (by decide) rfl ⟨by decide, by decide, by omega, by omega, Nat.le_of_ble_eq_true rfl⟩ ⟨dL_law_1221, rfl⟩ ?_
  refine Ev.iload (q := 5) ⟨dL_law_1224, rfl⟩ rfl ?_
  refine Ev.icmp_eq jL_law_1226 (fun _ => ?_) (fun hc => absurd e3 hc)
  refine Ev.iload (q := 5) ⟨dL_law_1231, rfl⟩ rfl ?_
  have fin : Ev Θ (mL_law nm hh) 14 504 mc ms 1248 [(0, vr 13 1), (1, vr 7 (0 + 1)), (2, vr 8 (0 + 1)), (3, vr 31 (0 + 1)), (4, vi i), (5, vi k), (6, vi b)] [] (hq D x2) lQ := by
    refine Ev.goto jL_law_1248 ?_
    refine Ev.keep [0, 1, 2, 3, 4] rfl ?_
    exact kk x2 e5
  refine Ev.if_ne jL_law_1233 (fun _ => fin) (fun hc => ?_)
  refine Ev.aload_n (q := 3) ⟨dL_law_1236, rfl⟩ rfl rfl ?_
  refine Ev.iconst ⟨dL_law_1237, rfl⟩ (inRd rfl) ?_
  refine Ev.laload (by decide) (by decide) (show (0 : Int) < ((1 : Nat) : Int) by decide) ⟨dL_law_1238, rfl⟩ ?_
  refine Ev.iload (q := 6) ⟨dL_law_1239, rfl⟩ rfl ?_
  refine Ev.i2l ⟨dL_law_1241, rfl⟩ ?_
  refine Ev.lcmp ⟨dL_law_1242, rfl⟩ ?_
  refine Ev.if_eq jL_law_1243 (fun _ => fin) (fun hc => absurd ?_ hc)
  show lcm (x2.2 31 0 0) (BitVec.ofInt 64 b) = 0
  rw [e4 (by assumption)]; exact lcm_self _

set_option maxHeartbeats 4000000 in
set_option maxRecDepth 20000 in
theorem la_tick {nm : String} {hh : List (Nat × Nat × Nat × Nat)} {Θ : GC} {D : Nat → Nat → Prop} {x : Mm} {i : Int} {mc ms : Nat} (h : Inv x) (hN : gN Θ ≤ 3072) (h0 : 0 ≤ i) (h6 : i + 6 ≤ (gN Θ : Int)) (kk : ∀ x2, Inv x2 → Ev Θ (mL_law nm hh) 14 504 mc ms 2743 [(0, vr 13 1), (1, vr 7 (0 + 1)), (2, vr 8 (0 + 1)), (3, vr 31 (0 + 1)), (4, vi i)] [] (hq D x2) lQ) : Ev Θ (mL_law nm hh) 14 504 (mc + 6) (ms + 36) 1251 [(0, vr 13 1), (1, vr 7 (0 + 1)), (2, vr 8 (0 + 1)), (3, vr 31 (0 + 1)), (4, vi i)] [] (hq D x) lQ := by
  obtain ⟨v, x2, e1, e2, e5⟩ := p_tick (z := 50000) h
  refine Ev.aload_n (q := 1) ⟨dL_law_1251, rfl⟩ rfl rfl ?_
  refine Ev.callV1 (mc1 := mc) (ms1 := ms) (v := vi v) (h1 := hq D x) vL_206 (c_X7_tick Θ D 50000 0  x _ e1) rfl rfl (by decide) rfl ⟨by decide, by decide, by omega, by omega, Nat.le_of_ble_eq_true rfl⟩ ⟨dL_law_1252, rfl⟩ ?_
  refine Ev.aload_n (q := 2) ⟨dL_law_1255, rfl⟩ rfl rfl ?_
  refine Ev.callV1 (mc1 := mc) (ms1 := ms) (v := vi v) (h1 := hq D x2) vL_209 (c_X8_tick Θ D 50000 0  x _ e2) rfl rfl (by decide) rfl ⟨by decide, by decide, by omega, by omega, Nat.le_of_ble_eq_true rfl⟩ ⟨dL_law_1256, rfl⟩ ?_
  refine Ev.icmp_eq jL_law_1259 (fun _ => ?_) (fun hc => absurd rfl hc)
  exact kk x2 e5

set_option maxHeartbeats 4000000 in
set_option maxRecDepth 20000 in
theorem la_setup {nm : String} {hh : List (Nat × Nat × Nat × Nat)} {Θ : GC} {D : Nat → Nat → Prop} {x : Mm} {i : Int} {mc ms : Nat} (h : Inv x) (hN : gN Θ ≤ 3072) (h0 : 0 ≤ i) (h6 : i + 6 ≤ (gN Θ : Int)) (kk : ∀ x2, Inv x2 → Ev Θ (mL_law nm hh) 14 504 mc ms 2743 [(0, vr 13 1), (1, vr 7 (0 + 1)), (2, vr 8 (0 + 1)), (3, vr 31 (0 + 1)), (4, vi i)] [] (hq D x2) lQ) : Ev Θ (mL_law nm hh) 14 504 (mc + 6) (ms + 36) 1264 [(0, vr 13 1), (1, vr 7 (0 + 1)), (2, vr 8 (0 + 1)), (3, vr 31 (0 + 1)), (4, vi i)] [] (hq D x) lQ := by
  have hq1 : ∃ k x1 b x2, F_L_setup 50000 (scr Θ (i + 1)) x = some (k, x1) ∧ F_X8_setup 50000 0 (scr Θ (i + 1)) x1 = some (b, x2) ∧ x2.1 8 0 0 = k ∧ (k = 0 → x2.2 31 0 0 = BitVec.ofInt 64 b) ∧ Inv x2 := rnI (F7 := F_X7_setup 50000 0 (scr Θ (i + 1))) (F8 := F_X8_setup 50000 0 (scr Θ (i + 1))) (p_setup h (scr Θ (i + 1))) (fun L w => n_X8_setup L 50000 0 (scr Θ (i + 1)) w)
  obtain ⟨k, x1, b, x2, e1, e2, e3, e4, e5⟩ := hq1
  refine Ev.aload_n (q := 1) ⟨dL_law_1264, rfl⟩ rfl rfl ?_
  refine Ev.aload_n (q := 0) ⟨dL_law_1265, rfl⟩ rfl rfl ?_
  refine Ev.iload (q := 4) ⟨dL_law_1266, rfl⟩ rfl ?_
  refine Ev.iconst ⟨dL_law_1268, rfl⟩ (inRd rfl) ?_
  refine Ev.iadd ⟨dL_law_1269, rfl⟩ (inRo (by omega) (by omega)) ?_
  refine Ev.sload (by omega) (by omega) ⟨dL_law_1270, rfl⟩ ?_
  refine Ev.aload_n (q := 3) ⟨dL_law_1271, rfl⟩ rfl rfl ?_
  refine Ev.callH1 (mc1 := mc) (ms1 := ms) (v := vi k) (h1 := hq D x1) hL_210 (c_L_setup Θ D 50000 _ x _ e1) rfl rfl ⟨by decide, by decide, by omega, by omega, Nat.le_of_ble_eq_true rfl⟩ ⟨dL_law_1272, rfl⟩ ?_
  refine Ev.istore (i := 5) (ls' := [(0, vr 13 1), (1, vr 7 (0 + 1)), (2, vr 8 (0 + 1)), (3, vr 31 (0 + 1)), (4, vi i), (5, vi k)]) ⟨dL_law_1275, rfl⟩ (Nat.le_of_ble_eq_true rfl) rfl ?_
  refine Ev.aload_n (q := 2) ⟨dL_law_1277, rfl⟩ rfl rfl ?_
  refine Ev.aload_n (q := 0) ⟨dL_law_1278, rfl⟩ rfl rfl ?_
  refine Ev.iload (q := 4) ⟨dL_law_1279, rfl⟩ rfl ?_
  refine Ev.iconst ⟨dL_law_1281, rfl⟩ (inRd rfl) ?_
  refine Ev.iadd ⟨dL_law_1282, rfl⟩ (inRo (by omega) (by omega)) ?_
  refine Ev.sload (by omega) (by omega) ⟨dL_law_1283, rfl⟩ ?_
  refine Ev.callV1 (mc1 := mc) (ms1 := ms) (v := vi b) (h1 := hq D x2) vL_212 (c_X8_setup Θ D 50000 0 _ x1 _ e2) rfl rfl (by decide) rfl ⟨by decide, by decide, by omega, by omega, Nat.le_of_ble_eq_true rfl⟩ ⟨dL_law_1284, rfl⟩ ?_
  refine Ev.istore (i := 6) (ls' := [(0, vr 13 1), (1, vr 7 (0 + 1)), (2, vr 8 (0 + 1)), (3, vr 31 (0 + 1)), (4, vi i), (5, vi k), (6, vi b)]) ⟨dL_law_1287, rfl⟩ (Nat.le_of_ble_eq_true rfl) rfl ?_
  refine Ev.aload_n (q := 2) ⟨dL_law_1289, rfl⟩ rfl rfl ?_
  refine Ev.callV1 (mc1 := mc) (ms1 := ms) (v := vi (x2.1 8 0 0)) (h1 := hq D x2) vL_146 (c_X8_thrown Θ D 50000 0 x2 _ f_thrown) rfl rfl (by decide) rfl ⟨by decide, by decide, by omega, by omega, Nat.le_of_ble_eq_true rfl⟩ ⟨dL_law_1290, rfl⟩ ?_
  refine Ev.iload (q := 5) ⟨dL_law_1293, rfl⟩ rfl ?_
  refine Ev.icmp_eq jL_law_1295 (fun _ => ?_) (fun hc => absurd e3 hc)
  refine Ev.iload (q := 5) ⟨dL_law_1300, rfl⟩ rfl ?_
  have fin : Ev Θ (mL_law nm hh) 14 504 mc ms 1317 [(0, vr 13 1), (1, vr 7 (0 + 1)), (2, vr 8 (0 + 1)), (3, vr 31 (0 + 1)), (4, vi i), (5, vi k), (6, vi b)] [] (hq D x2) lQ := by
    refine Ev.goto jL_law_1317 ?_
    refine Ev.keep [0, 1, 2, 3, 4] rfl ?_
    exact kk x2 e5
  refine Ev.if_ne jL_law_1302 (fun _ => fin) (fun hc => ?_)
  refine Ev.aload_n (q := 3) ⟨dL_law_1305, rfl⟩ rfl rfl ?_
  refine Ev.iconst ⟨dL_law_1306, rfl⟩ (inRd rfl) ?_
  refine Ev.laload (by decide) (by decide) (show (0 : Int) < ((1 : Nat) : Int) by decide) ⟨dL_law_1307, rfl⟩ ?_
  refine Ev.iload (q := 6) ⟨dL_law_1308, rfl⟩ rfl ?_
  refine Ev.i2l ⟨dL_law_1310, rfl⟩ ?_
  refine Ev.lcmp ⟨dL_law_1311, rfl⟩ ?_
  refine Ev.if_eq jL_law_1312 (fun _ => fin) (fun hc => absurd ?_ hc)
  show lcm (x2.2 31 0 0) (BitVec.ofInt 64 b) = 0
  rw [e4 (by assumption)]; exact lcm_self _

set_option maxHeartbeats 4000000 in
set_option maxRecDepth 20000 in
theorem la_rule {nm : String} {hh : List (Nat × Nat × Nat × Nat)} {Θ : GC} {D : Nat → Nat → Prop} {x : Mm} {i : Int} {mc ms : Nat} (h : Inv x) (hN : gN Θ ≤ 3072) (h0 : 0 ≤ i) (h6 : i + 6 ≤ (gN Θ : Int)) (kk : ∀ x2, Inv x2 → Ev Θ (mL_law nm hh) 14 504 mc ms 2743 [(0, vr 13 1), (1, vr 7 (0 + 1)), (2, vr 8 (0 + 1)), (3, vr 31 (0 + 1)), (4, vi i)] [] (hq D x2) lQ) : Ev Θ (mL_law nm hh) 14 504 (mc + 6) (ms + 36) 1320 [(0, vr 13 1), (1, vr 7 (0 + 1)), (2, vr 8 (0 + 1)), (3, vr 31 (0 + 1)), (4, vi i)] [] (hq D x) lQ := by
  have hq1 : ∃ k x1 b x2, F_L_rule 50000 (scr Θ (i + 1)) x = some (k, x1) ∧ F_X8_rule 50000 0 (scr Θ (i + 1)) x1 = some (b, x2) ∧ x2.1 8 0 0 = k ∧ (k = 0 → x2.2 31 0 0 = BitVec.ofInt 64 b) ∧ Inv x2 := rnI (F7 := F_X7_rule 50000 0 (scr Θ (i + 1))) (F8 := F_X8_rule 50000 0 (scr Θ (i + 1))) (p_rule h (scr Θ (i + 1))) (fun L w => n_X8_rule L 50000 0 (scr Θ (i + 1)) w)
  obtain ⟨k, x1, b, x2, e1, e2, e3, e4, e5⟩ := hq1
  refine Ev.aload_n (q := 1) ⟨dL_law_1320, rfl⟩ rfl rfl ?_
  refine Ev.aload_n (q := 0) ⟨dL_law_1321, rfl⟩ rfl rfl ?_
  refine Ev.iload (q := 4) ⟨dL_law_1322, rfl⟩ rfl ?_
  refine Ev.iconst ⟨dL_law_1324, rfl⟩ (inRd rfl) ?_
  refine Ev.iadd ⟨dL_law_1325, rfl⟩ (inRo (by omega) (by omega)) ?_
  refine Ev.sload (by omega) (by omega) ⟨dL_law_1326, rfl⟩ ?_
  refine Ev.aload_n (q := 3) ⟨dL_law_1327, rfl⟩ rfl rfl ?_
  refine Ev.callH1 (mc1 := mc) (ms1 := ms) (v := vi k) (h1 := hq D x1) hL_213 (c_L_rule Θ D 50000 _ x _ e1) rfl rfl ⟨by decide, by decide, by omega, by omega, Nat.le_of_ble_eq_true rfl⟩ ⟨dL_law_1328, rfl⟩ ?_
  refine Ev.istore (i := 5) (ls' := [(0, vr 13 1), (1, vr 7 (0 + 1)), (2, vr 8 (0 + 1)), (3, vr 31 (0 + 1)), (4, vi i), (5, vi k)]) ⟨dL_law_1331, rfl⟩ (Nat.le_of_ble_eq_true rfl) rfl ?_
  refine Ev.aload_n (q := 2) ⟨dL_law_1333, rfl⟩ rfl rfl ?_
  refine Ev.aload_n (q := 0) ⟨dL_law_1334, rfl⟩ rfl rfl ?_
  refine Ev.iload (q := 4) ⟨dL_law_1335, rfl⟩ rfl ?_
  refine Ev.iconst ⟨dL_law_1337, rfl⟩ (inRd rfl) ?_
  refine Ev.iadd ⟨dL_law_1338, rfl⟩ (inRo (by omega) (by omega)) ?_
  refine Ev.sload (by omega) (by omega) ⟨dL_law_1339, rfl⟩ ?_
  refine Ev.callV1 (mc1 := mc) (ms1 := ms) (v := vi b) (h1 := hq D x2) vL_215 (c_X8_rule Θ D 50000 0 _ x1 _ e2) rfl rfl (by decide) rfl ⟨by decide, by decide, by omega, by omega, Nat.le_of_ble_eq_true rfl⟩ ⟨dL_law_1340, rfl⟩ ?_
  refine Ev.istore (i := 6) (ls' := [(0, vr 13 1), (1, vr 7 (0 + 1)), (2, vr 8 (0 + 1)), (3, vr 31 (0 + 1)), (4, vi i), (5, vi k), (6, vi b)]) ⟨dL_law_1343, rfl⟩ (Nat.le_of_ble_eq_true rfl) rfl ?_
  refine Ev.aload_n (q := 2) ⟨dL_law_1345, rfl⟩ rfl rfl ?_
  refine Ev.callV1 (mc1 := mc) (ms1 := ms) (v := vi (x2.1 8 0 0)) (h1 := hq D x2) vL_146 (c_X8_thrown Θ D 50000 0 x2 _ f_thrown) rfl rfl (by decide) rfl ⟨by decide, by decide, by omega, by omega, Nat.le_of_ble_eq_true rfl⟩ ⟨dL_law_1346, rfl⟩ ?_
  refine Ev.iload (q := 5) ⟨dL_law_1349, rfl⟩ rfl ?_
  refine Ev.icmp_eq jL_law_1351 (fun _ => ?_) (fun hc => absurd e3 hc)
  refine Ev.iload (q := 5) ⟨dL_law_1356, rfl⟩ rfl ?_
  have fin : Ev Θ (mL_law nm hh) 14 504 mc ms 1373 [(0, vr 13 1), (1, vr 7 (0 + 1)), (2, vr 8 (0 + 1)), (3, vr 31 (0 + 1)), (4, vi i), (5, vi k), (6, vi b)] [] (hq D x2) lQ := by
    refine Ev.goto jL_law_1373 ?_
    refine Ev.keep [0, 1, 2, 3, 4] rfl ?_
    exact kk x2 e5
  refine Ev.if_ne jL_law_1358 (fun _ => fin) (fun hc => ?_)
  refine Ev.aload_n (q := 3) ⟨dL_law_1361, rfl⟩ rfl rfl ?_
  refine Ev.iconst ⟨dL_law_1362, rfl⟩ (inRd rfl) ?_
  refine Ev.laload (by decide) (by decide) (show (0 : Int) < ((1 : Nat) : Int) by decide) ⟨dL_law_1363, rfl⟩ ?_
  refine Ev.iload (q := 6) ⟨dL_law_1364, rfl⟩ rfl ?_
  refine Ev.i2l ⟨dL_law_1366, rfl⟩ ?_
  refine Ev.lcmp ⟨dL_law_1367, rfl⟩ ?_
  refine Ev.if_eq jL_law_1368 (fun _ => fin) (fun hc => absurd ?_ hc)
  show lcm (x2.2 31 0 0) (BitVec.ofInt 64 b) = 0
  rw [e4 (by assumption)]; exact lcm_self _

set_option maxHeartbeats 4000000 in
set_option maxRecDepth 20000 in
theorem la_nodeCount {nm : String} {hh : List (Nat × Nat × Nat × Nat)} {Θ : GC} {D : Nat → Nat → Prop} {x : Mm} {i : Int} {mc ms : Nat} (h : Inv x) (hN : gN Θ ≤ 3072) (h0 : 0 ≤ i) (h6 : i + 6 ≤ (gN Θ : Int)) (kk : ∀ x2, Inv x2 → Ev Θ (mL_law nm hh) 14 504 mc ms 2743 [(0, vr 13 1), (1, vr 7 (0 + 1)), (2, vr 8 (0 + 1)), (3, vr 31 (0 + 1)), (4, vi i)] [] (hq D x2) lQ) : Ev Θ (mL_law nm hh) 14 504 (mc + 6) (ms + 36) 1376 [(0, vr 13 1), (1, vr 7 (0 + 1)), (2, vr 8 (0 + 1)), (3, vr 31 (0 + 1)), (4, vi i)] [] (hq D x) lQ := by
  obtain ⟨v, x2, e1, e2, e5⟩ := p_nodeCount (z := 50000) h
  refine Ev.aload_n (q := 1) ⟨dL_law_1376, rfl⟩ rfl rfl ?_
  refine Ev.callV1 (mc1 := mc) (ms1 := ms) (v := vi v) (h1 := hq D x) vL_216 (c_X7_nodeCount Θ D 50000 0  x _ e1) rfl rfl (by decide) rfl ⟨by decide, by decide, by omega, by omega, Nat.le_of_ble_eq_true rfl⟩ ⟨dL_law_1377, rfl⟩ ?_
  refine Ev.aload_n (q := 2) ⟨dL_law_1380, rfl⟩ rfl rfl ?_
  refine Ev.callV1 (mc1 := mc) (ms1 := ms) (v := vi v) (h1 := hq D x2) vL_219 (c_X8_nodeCount Θ D 50000 0  x _ e2) rfl rfl (by decide) rfl ⟨by decide, by decide, by omega, by omega, Nat.le_of_ble_eq_true rfl⟩ ⟨dL_law_1381, rfl⟩ ?_
  refine Ev.icmp_eq jL_law_1384 (fun _ => ?_) (fun hc => absurd rfl hc)
  exact kk x2 e5
