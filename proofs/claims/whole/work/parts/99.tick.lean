/-! Ticks. -/
def T0 (r r1 : Nat → Int) : Prop := ∀ i : Int, 1 ≤ i → r1 i.toNat = r i.toNat
section
variable {z : Nat} {x y : Mm} {r r1 : Nat → Int}
theorem T0.wk (h : T0 r r1) (hb : Wb r) (ht : Wt r) {m : Int} (hm : 0 ≤ m) : ∀ (t : Nat) (n : Int), n < qct r → qwk r1 m t n = qwk r m t n := by
  intro t
  induction t with
  | zero => intro n _; rfl
  | succ t ih =>
    intro n hn
    show (if n ≤ m then n else qwk r1 m t (qpa r1 n)) = (if n ≤ m then n else qwk r m t (qpa r n))
    by_cases q : n ≤ m
    · rw [if_pos q, if_pos q]
    · have hp := ht.2.2 n (by omega) hn
      have e : qpa r1 n = qpa r n := h _ (by omega)
      rw [if_neg q, if_neg q, e, ih _ (by omega)]
theorem T0.wi (h : T0 r r1) (hb : Wb r) (ht : Wt r) {m n : Int} (hm : 0 ≤ m) (hn : n < qct r) : win r1 n m = win r n m := by
  unfold win; rw [h.wk hb ht hm 64 n hn]
theorem T0.W (h : T0 r r1) (ht1 : 0 ≤ qtk r1 ∧ qtk r1 ≤ 9999) (hW : Wq r) : Wq r1 := by
  obtain ⟨hb, ht, ha, hr, hv, hl, hk⟩ := hW
  have h60 := hb.2.2.2.1
  have hf := hb.2.1
  have ect : qct r1 = qct r := h 3 (by omega)
  have efc : qfc r1 = qfc r := h 1 (by omega)
  have eal : ∀ n : Int, 0 ≤ n → qal r1 n = qal r n := fun n n0 => by unfold qal; rw [h _ (by omega)]
  have epa : ∀ n : Int, 0 ≤ n → qpa r1 n = qpa r n := fun n n0 => h _ (by omega)
  have elb : ∀ n : Int, 0 ≤ n → qlb r1 n = qlb r n := fun n n0 => h _ (by omega)
  refine ⟨⟨ht1, ?_⟩, ?_, ?_, ?_, ?_, ?_, ?_⟩
  · rw [efc, show qcc r1 = qcc r from h 2 (by omega), ect, show qkc r1 = qkc r from h 4 (by omega)]; exact hb.2
  · refine ⟨by rw [epa 0 (by omega)]; exact ht.1, by rw [elb 0 (by omega)]; exact ht.2.1, fun n n0 n1 => ?_⟩
    rw [ect] at n1
    rw [epa n (by omega), elb n (by omega)]; exact ht.2.2 n n0 n1
  · refine ⟨fun n n0 n1 => by rw [h _ (by omega)]; exact ha.1 n n0 n1, fun n n0 n1 => ?_, fun n n0 n1 hn => ?_, fun n m n0 n1 m0 m1 hnm hn hm hp => ?_⟩
    · rw [ect] at n0; rw [eal n (by omega)]; exact ha.2.1 n n0 n1
    · rw [ect] at n1
      have hp := ht.2.2 n n0 n1
      rw [eal n (by omega)] at hn
      rw [epa n (by omega), eal _ (by omega)]; exact ha.2.2.1 n n0 n1 hn
    · rw [ect] at n1 m1
      rw [eal n (by omega)] at hn
      rw [eal m (by omega)] at hm
      rw [epa n (by omega), epa m (by omega)] at hp
      rw [elb n (by omega), elb m (by omega)]
      exact ha.2.2.2 n m n0 n1 m0 m1 hnm hn hm hp
  · intro n n0 n1; rw [h _ (by omega)]; exact hr n n0 n1
  · intro n f n0 n1 f0 f1
    rw [efc] at f0
    show r1 (251 + 6 * n + f).toNat = 0
    rw [h _ (by omega)]; exact hv n f n0 n1 f0 f1
  · intro d d0 d1
    exact WL_cp (hl d d0 d1) hf.1 (by unfold qhl qln; rw [h _ (by omega)]) (h _ (by omega)) (fun w => by rw [show qle r1 d = qle r d from h _ (by omega)]; exact (hl d d0 d1 w).2.1) (h _ (by omega)) ect efc (fun i i0 i1 => h _ (by omega)) h60.1
  · exact hk.same hb.2.2.2.2.2 (by omega) efc (fun i hi => h i (by omega))
theorem Rs_tick {v : Int} (hR : Rs y 0 r) (hv : 0 ≤ v ∧ v ≤ 9999) : Rs (pj y 6 0 (up (y.1 6 0) 0 v)) 0 (up r (0 : Int).toNat v) := by
  have h : T0 r (up r (0 : Int).toNat v) := fun i i0 => up_i (by omega) (by omega) (by omega)
  have etk : qtk (up r (0 : Int).toNat v) = v := up_s
  generalize up r (0 : Int).toNat v = r1 at *
  obtain ⟨hW, hH, hN, hB, hLs, hC⟩ := hR
  have hb := hW.1
  have ht := hW.2.1
  have h60 := hb.2.2.2.1
  have hf := hb.2.1
  have ect : qct r1 = qct r := h 3 (by omega)
  have efc : qfc r1 = qfc r := h 1 (by omega)
  refine ⟨h.W (by rw [etk]; exact hv) hW, ?_, ?_, ?_, ?_, ?_⟩
  · refine ⟨by rw [pj_s, up_s, etk], by rw [pj_s, up_n (by decide), efc]; exact hH.2.1, by rw [pj_s, up_n (by decide), show qcc r1 = qcc r from h 2 (by omega)]; exact hH.2.2.1, fun f f0 f1 => ?_⟩
    rw [efc] at f1
    rw [pj_C (by decide)]
    exact (hH.2.2.2 f f0 f1).trans (h (5 + f) (by omega)).symm
  · have := RN_fr (y := pj y 6 0 (up (y.1 6 0) 0 v)) hN (pj_C (by decide)) rfl (pj_C (by decide)) (pj_C (by decide)) rfl
    refine ⟨this.1.trans ect.symm, fun n n0 n1 => ?_, fun n n0 n1 => ?_⟩
    · rw [ect] at n1
      obtain ⟨g1, g2, g3⟩ := this.2.1 n n0 n1
      refine ⟨g1.trans (h (11 + n) (by omega)).symm, g2.trans (h (71 + n) (by omega)).symm, fun m m0 m1 => ?_⟩
      rw [g3 m m0 m1, h.wi hb ht m0 n1]
    · rw [this.2.2 n n0 n1, ect]
      unfold qrc; rw [h (131 + n) (by omega)]
  · rw [pj_2, pj_C (by decide)]
    refine ⟨fun n n0 n1 => ?_, fun n g n0 n1 g0 g1 => ?_⟩
    · rw [hB.1 n n0 n1, ect]; unfold qal; rw [h (191 + n) (by omega)]
    · rw [hB.2 n g n0 n1 g0 g1]; exact (h (251 + 6 * n + g) (by omega)).symm
  · intro d d0 d1
    have L := RL_fr (y := pj y 6 0 (up (y.1 6 0) 0 v)) (hLs d d0 d1) (pj_C (by decide)) rfl rfl rfl (pj_C (by decide)) (pj_C (by decide))
    have eln : qln r1 d = qln r d := h _ (by omega)
    have ehl : qhl r1 d = qhl r d := by unfold qhl; rw [eln]
    have ecp : ∀ p n : Int, 0 ≤ p → 0 ≤ n → qcp r1 d p n = qcp r d p n := fun p n p0 n0 => by unfold qcp; rw [h _ (by omega)]
    refine ⟨by rw [ehl]; exact L.1, fun w => ?_⟩
    rw [ehl] at w
    obtain ⟨⟨l1, l2, l3⟩, lr, lv⟩ := L.2 w
    refine ⟨⟨l1.trans eln.symm, l2.trans (h _ (by omega)).symm, l3.trans (h _ (by omega)).symm⟩, fun n n0 n1 => ?_, fun n g n0 n1 g0 g1 => ?_⟩
    · rw [ect, ecp _ _ (by omega) n0, ecp _ _ (by omega) n0, ecp _ _ (by omega) n0]; exact lr n n0 n1
    · rw [ecp _ _ (by omega) n0, ecp _ _ (by omega) n0, show qov r1 d n g = qov r d n g from h _ (by omega), show qnv r1 d n g = qnv r d n g from h _ (by omega)]
      exact lv n g n0 n1 g0 g1
  · rw [pj_C (by decide), pj_C (by decide)]
    exact hC.same hb.2.2.2.2.2 (fun i hi => h i (by omega))
theorem mS_mS {x : Mm} {m : Nat → Int} {s s' : Sp} : mS (mS x m s) ((mS x m s).1 8 0) s' = mS x m s' := by
  show pj (pj (mS x m s) 27 0 s'.1) 8 0 (up ((mS x m s).1 8 0) 14 s'.2) = _
  rw [mS_pr, mS_m, up_up]
  unfold mS
  rw [pj_pj]
theorem tick_loop (hz : 50000 ≤ z) : ∀ (t : Nat) (k : Nat) (i v : Int) (y : Mm) (r : Nat → Int), 0 ≤ i → i + (t : Int) = qcc r → t < k → Rs y 0 r → Zr r → 0 ≤ v → v + (t : Int) ≤ 100000 → ∃ y' r' n, F_X6_passTick_14 z 0 k v i y = some (v + n, y') ∧ (∀ (k2 : Nat) (u d T w : Int) (M : Mm) (m : Nat → Int), t < k2 → 0 ≤ u → u + (t : Int) ≤ 100000 → ∃ d', F_X8_advance_71 z 0 T w k2 u i (mS M m (r, d)) = some (u + n, mS M m (r', d'))) ∧ Rs y' 0 r' ∧ Zr r' ∧ Fo (fun o => o = 0) y y' ∧ qcc r' = qcc r ∧ qtk r' = qtk r ∧ 0 ≤ n ∧ n ≤ (t : Int) := by
  intro t
  induction t with
  | zero =>
    intro k i v y r i0 hi hk hR hZ v0 v1
    obtain ⟨k, rfl⟩ : ∃ q, k = q + 1 := ⟨k - 1, by omega⟩
    have hcc := hR.1.1.2.2.1
    refine ⟨y, r, 0, ?_, fun k2 u d T w M m hk2 u0 u1 => ⟨d, ?_⟩, hR, hZ, Fg.rf, rfl, rfl, by omega, by omega⟩
    · show (if y.1 6 0 2 ≤ i then _ else _) = _
      rw [hR.2.1.2.2.1, if_pos (by omega), Int.add_zero]
    · obtain ⟨k2, rfl⟩ : ∃ q, k2 = q + 1 := ⟨k2 - 1, by omega⟩
      show ckI 2 5366 _ = _
      rw [ckI_t (by omega) (by omega), mS_r, if_pos (show r (2 : Int).toNat ≤ i from by show qcc r ≤ i; omega), Int.add_zero]
  | succ t ih =>
    intro k i v y r i0 hi hk hR hZ v0 v1
    obtain ⟨k, rfl⟩ : ∃ q, k = q + 1 := ⟨k - 1, by omega⟩
    have hcc := hR.1.1.2.2.1
    have hL := hR.2.2.2.2.1 i i0 (by omega)
    have cI : ∀ {α : Type} {A : Option α}, ckR (i + 1) A = A := fun {α} {A} => ckR_t (by omega) (by omega)
    have e7 : F_X6_passTick_14 z 0 (k + 1) v i y = (if b2i (qhl r i) = 0 then F_X6_passTick_14 z 0 k v (i + 1) y else if (y.1 3 (5 * 0 + i.toNat) 2) = (y.1 6 0 0) then ((F_X6_merge z 0 i (3 * 0) 0 y).bind fun r8 => (some (wI r8.2 3 (5 * 0 + i.toNat) 0 0)).bind fun x10 => ckR (v + 1) <| F_X6_passTick_14 z 0 k (v + 1) (i + 1) x10) else F_X6_passTick_14 z 0 k v (i + 1) y) := by
      show (if y.1 6 0 2 ≤ i then _ else _) = _
      rw [hR.2.1.2.2.1, if_neg (by omega), ckI_t i0 (by omega), ckI_t i0 (by omega), cI, hL.1]
      congr 1
      congr 1
      congr 1
      funext r8
      rw [ckI_t i0 (by omega)]
      congr 1
      funext x10
      rw [cI]
    have e8 : ∀ (k2 : Nat) (u d T w : Int) (M : Mm) (m : Nat → Int), F_X8_advance_71 z 0 T w (k2 + 1) u i (mS M m (r, d)) = (if qhl r i = false then F_X8_advance_71 z 0 T w k2 u (i + 1) (mS M m (r, d)) else if qle r i = qtk r then ((F_X8_merge z 0 i (mS M m (r, d))).bind fun r23 => ckR (u + 1) <| F_X8_advance_71 z 0 T w k2 (u + 1) (i + 1) r23.2) else F_X8_advance_71 z 0 T w k2 u (i + 1) (mS M m (r, d))) := by
      intro k2 u d T w M m
      have hh : F_X8_hasLease z 0 i (mS M m (r, d)) = some (b2i (qhl r i)) := by
        have := e_hasLease z i (mS M m (r, d)) i0 (by omega)
        rw [mS_r] at this; exact this
      show ckI 2 5366 _ = _
      rw [ckI_t (by omega) (by omega), mS_r, if_neg (show ¬ (r (2 : Int).toNat ≤ i) from by show ¬ (qcc r ≤ i); omega), hh, sbind, ib, ckR_t (by omega) (by omega), ckR_t (by omega) (by omega), ckR_t (by omega) (by omega), ckR_t (by omega) (by omega), ckI_t (by omega) (by omega), ckI_t (by omega) (by omega)]
      simp only [cI]
      rfl
    rw [e7, ib]
    cases ql : qhl r i
    · rw [if_pos rfl]
      obtain ⟨y', r', n, g1, g2, g3, g4, g5, g6, g7, g8, g9⟩ := ih k (i + 1) v y r (by omega) (by omega) (by omega) hR hZ v0 (by omega)
      refine ⟨y', r', n, g1, fun k2 u d T w M m hk2 u0 u1 => ?_, g3, g4, g5, g6, g7, g8, by omega⟩
      obtain ⟨k2, rfl⟩ : ∃ q, k2 = q + 1 := ⟨k2 - 1, by omega⟩
      rw [e8, if_pos ql]
      exact g2 k2 u d T w M m (by omega) u0 (by omega)
    · rw [if_neg (show ¬ (true = false) by decide), (hL.2 ql).1.2.1, hR.2.1.1]
      by_cases qe : qle r i = qtk r
      · rw [if_pos qe]
        obtain ⟨⟨v', p⟩, e2, hv, hR1, hF1⟩ := k_mergeEnd (z := z) hz hR i0 (by omega) ql
        simp only at hv hR1 hF1
        have hSlc := Slc_qen (r := (qm3 i (r, 0)).1) (c := i) i0 (by omega)
        have hMI := (MW.m3 (c := i) hR.1.2.2.1 hR.1.2.2.2.2.2.2 hR.1.1 hR.1.2.1 i0 (hR.1.2.2.2.2.2.1 i i0 (by omega) ql).2.2.2.1.1).1
        have ecc : qcc (qen (qm3 i (r, 0)).1 i) = qcc r := (hSlc.sm i0 (by omega) (by omega) (by omega)).trans hMI.1.cc
        have etk : qtk (qen (qm3 i (r, 0)).1 i) = qtk r := (hSlc.sm i0 (by omega) (by omega) (by omega)).trans hMI.1.tk
        obtain ⟨y', r', n, g1, g2, g3, g4, g5, g6, g7, g8, g9⟩ := ih k (i + 1) (v + 1) (pj p 3 (5 * 0 + i.toNat) (up (p.1 3 (5 * 0 + i.toNat)) 0 0)) (qen (qm3 i (r, 0)).1 i) (by omega) (by rw [ecc]; omega) (by omega) hR1 (zr_qen (zr_m3 hZ hR.1.1) i0 (by omega)) (by omega) (by omega)
        refine ⟨y', r', n + 1, ?_, fun k2 u d T w M m hk2 u0 u1 => ?_, g3, g4, hF1.tr g5, g6.trans ecc, g7.trans etk, by omega, by omega⟩
        · rw [e2, sbind, sbind, wI_pj, ckR_t (by omega) (by omega), g1]; congr 2; omega
        · obtain ⟨k2, rfl⟩ : ∃ q, k2 = q + 1 := ⟨k2 - 1, by omega⟩
          have em := e_merge z hz i (mS M m (r, d)) (by rw [mS_r]; exact hR.1.1) (by rw [mS_r]; exact hR.1.2.1) i0 (by omega) (by rw [mS_r]; exact (hR.1.2.2.2.2.2.1 i i0 (by omega) ql).2.2.2.1.1)
          rw [mS_r, mS_mS] at em
          obtain ⟨d', gd⟩ := g2 k2 (u + 1) (qm3 i (r, 0)).2 T w M m (by omega) (by omega) (by omega)
          refine ⟨d', ?_⟩
          rw [e8, if_neg (by rw [ql]; decide), if_pos qe, em, sbind, ckR_t (by omega) (by omega)]
          show F_X8_advance_71 z 0 T w k2 (u + 1) (i + 1) (mS M m (qen (qm3 i (r, 0)).1 i, (qm3 i (r, 0)).2)) = _
          rw [gd]; congr 2; omega
      · rw [if_neg qe]
        obtain ⟨y', r', n, g1, g2, g3, g4, g5, g6, g7, g8, g9⟩ := ih k (i + 1) v y r (by omega) (by omega) (by omega) hR hZ v0 (by omega)
        refine ⟨y', r', n, g1, fun k2 u d T w M m hk2 u0 u1 => ?_, g3, g4, g5, g6, g7, g8, by omega⟩
        obtain ⟨k2, rfl⟩ : ∃ q, k2 = q + 1 := ⟨k2 - 1, by omega⟩
        rw [e8, if_neg (by rw [ql]; decide), if_neg qe]
        exact g2 k2 u d T w M m (by omega) u0 (by omega)
end
