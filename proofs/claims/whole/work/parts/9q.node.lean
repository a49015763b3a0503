/-! The statements that read nodes and values. -/
section
variable {z : Nat} {x y X X' W W' : Mm} {n : Int} {f : Int → Int} {r r' : Nat → Int}
theorem m_dup0 (hz : 50000 ≤ z) (hg : 0 ≤ W.1 8 0 7) {e v p : Int} (v0 : 1 ≤ v) (v1 : v ≤ 60) : F_X8_readNode_88 z 0 e v p z 1 W = some W := by
  refine Tt.eq ?_
  refine loopU (fun k i (s : Mm) => F_X8_readNode_88 z 0 e v p k i s) v (fun i s => 1 ≤ i ∧ i ≤ v ∧ s = W) _ ?_ ?_ z 1 W (by omega) (by omega) ⟨by omega, by omega, rfl⟩
  · rintro k s i hN ⟨i0, i1, rfl⟩
    exact Tt.of (v := s) (if_pos hN) rfl
  · rintro k s i hN ⟨i0, i1, rfl⟩
    refine Or.inl ⟨s, ?_, by omega, by omega, rfl⟩
    show (if v ≤ i then _ else _) = _
    rw [if_neg (by omega), m_bad hg, sbind, if_pos rfl, ckR_t (by omega) (by omega)]
theorem m_dup (hz : 50000 ≤ z) (h : TP n f X W) (hr : W.1 27 1 = r) {e v p : Int} (v0 : 1 ≤ v) (v1 : v ≤ 60) : Tt (F_X8_readNode_88 z 0 e v p z 1 W) (fun V => (V = W ∧ (W.1 8 0 5 = 2 → ∀ m : Int, 1 ≤ m → m < v → ¬ (qpa r m = p ∧ qlb r m = W.1 8 0 6))) ∨ (V = Fw W (W.1 8 0 4) ∧ W.1 8 0 5 = 2 ∧ ∃ m : Int, 1 ≤ m ∧ m < v ∧ qpa r m = p ∧ qlb r m = W.1 8 0 6)) := by
  have hg := h.2.2.1
  have hb := tp_b h
  refine loopU (fun k i (s : Mm) => F_X8_readNode_88 z 0 e v p k i s) v (fun i V => 1 ≤ i ∧ i ≤ v ∧ ((V = W ∧ (W.1 8 0 5 = 2 → ∀ m : Int, 1 ≤ m → m < i → ¬ (qpa r m = p ∧ qlb r m = W.1 8 0 6))) ∨ (V = Fw W (W.1 8 0 4) ∧ W.1 8 0 5 = 2 ∧ ∃ m : Int, 1 ≤ m ∧ m < v ∧ qpa r m = p ∧ qlb r m = W.1 8 0 6))) _ ?_ ?_ z 1 W (by omega) (by omega) ⟨by omega, by omega, Or.inl ⟨rfl, fun _ m m0 m1 => by omega⟩⟩
  · rintro k s i hN ⟨i0, i1, hs⟩
    refine Tt.of (v := s) (if_pos hN) ?_
    rw [show i = v by omega] at hs; exact hs
  · rintro k s i hN ⟨i0, i1, hs⟩
    refine Or.inl ?_
    show ∃ s', F_X8_readNode_88 z 0 e v p (k + 1) i s = _ ∧ _
    have cI : ∀ A : Option Mm, ckR (i + 1) A = A := fun A => ckR_t (by omega) (by omega)
    rcases hs with ⟨rfl, hs⟩ | ⟨rfl, h5, hs⟩
    · have e1 : F_X8_readNode_88 z 0 e v p (k + 1) i s = (if s.1 8 0 5 = 2 then (if qpa r i = p then (if qlb r i = s.1 8 0 6 then F_X8_readNode_88 z 0 e v p k (i + 1) (Fw s (s.1 8 0 4)) else F_X8_readNode_88 z 0 e v p k (i + 1) s) else F_X8_readNode_88 z 0 e v p k (i + 1) s) else F_X8_readNode_88 z 0 e v p k (i + 1) s) := by
        show (if v ≤ i then _ else _) = _
        rw [if_neg (by omega), m_good hg, sbind, if_neg (by decide), ckR_t (by omega) (by omega), ckI_t (by omega) (by omega), ckR_t (by omega) (by omega), ckI_t (by omega) (by omega), m_fail hg, sbind, hr, cI, cI]; rfl
      rw [e1]
      by_cases q1 : s.1 8 0 5 = 2
      · rw [if_pos q1]
        by_cases q2 : qpa r i = p
        · rw [if_pos q2]
          by_cases q3 : qlb r i = s.1 8 0 6
          · rw [if_pos q3]
            exact ⟨_, rfl, by omega, by omega, Or.inr ⟨rfl, q1, i, i0, hN, q2, q3⟩⟩
          · rw [if_neg q3]
            refine ⟨_, rfl, by omega, by omega, Or.inl ⟨rfl, fun w m m0 m1 => ?_⟩⟩
            by_cases e : m = i
            · rw [e]; exact fun u => q3 u.2
            · exact hs w m m0 (by omega)
        · rw [if_neg q2]
          refine ⟨_, rfl, by omega, by omega, Or.inl ⟨rfl, fun w m m0 m1 => ?_⟩⟩
          by_cases e : m = i
          · rw [e]; exact fun u => q2 u.1
          · exact hs w m m0 (by omega)
      · rw [if_neg q1]
        exact ⟨_, rfl, by omega, by omega, Or.inl ⟨rfl, fun w => absurd w q1⟩⟩
    · refine ⟨Fw W (W.1 8 0 4), ?_, by omega, by omega, Or.inr ⟨rfl, h5, hs⟩⟩
      show (if v ≤ i then _ else _) = _
      rw [if_neg (by omega), m_bad (by rw [Fw_r.1]; omega), sbind, if_pos rfl, cI]
theorem m_76b (hz : 50000 ≤ z) (hg : 0 ≤ W.1 8 0 7) {e v : Int} (v0 : 1 ≤ v) (v1 : v ≤ 60) : F_X8_readNode_76 z 0 e v W = some W := by
  unfold F_X8_readNode_76
  rw [ckR_t (by omega) (by omega), m_take0 hg, sbind, m_dup0 hz hg v0 v1, sbind, m_take0 hg, sbind, m_bad hg, sbind, if_pos rfl]
theorem m_76f (hz : 50000 ≤ z) (h : TP n f X W) {e v : Int} (v0 : 1 ≤ v) (v1 : v ≤ 60) (hp : ¬ (0 ≤ X.1 5 0 6 ∧ X.1 5 0 6 ≤ v - 1)) : F_X8_readNode_76 z 0 e v W = some (Fw W (W.1 8 0 4)) := by
  have hb := tp_b h
  have hg : 0 ≤ (Fw W (W.1 8 0 4)).1 8 0 7 := by rw [Fw_r.1]; exact hb.1
  unfold F_X8_readNode_76
  rw [ckR_t (by omega) (by omega), m_take h (by omega), if_neg hp, sbind, m_dup0 hz hg v0 v1, sbind, m_take0 hg, sbind, m_bad hg, sbind, if_pos rfl]
theorem m_19 {v e : Int} (h : TP n f X W) {V : Mm} (hV : F_X8_step z 0 V = some W) (hD : DR X (W.1 27 1)) (v0 : 1 ≤ v) (v1 : v ≤ 60) (hv : v = qct (W.1 27 1)) : F_X8_readNode_19 z 0 e v 0 0 V = (if 0 ≤ X.1 5 0 6 ∧ X.1 5 0 6 < v ∧ qrc (W.1 27 1) (X.1 5 0 6) = true then F_X8_readNode_76 z 0 e v (Fw W (W.1 8 0 4)) else F_X8_readNode_76 z 0 e v W) ∨ (¬ (0 ≤ X.1 5 0 6 ∧ X.1 5 0 6 < v) ∧ F_X8_readNode_19 z 0 e v 0 0 V = F_X8_readNode_76 z 0 e v (Fw W (W.1 8 0 4))) := by
  have hT := h.2.2.2
  have hg := h.2.2.1
  obtain ⟨t1, t2, t3, t4⟩ := hT
  have e1 : F_X8_readNode_19 z 0 e v 0 0 V = (if W.1 8 0 5 = 2 then (if decide (0 ≤ W.1 8 0 6 ∧ W.1 8 0 6 ≤ v - 1) = false then F_X8_readNode_76 z 0 e v W else ckR (131 + W.1 8 0 6) <| ckI (131 + W.1 8 0 6) 5366 <| if W.1 27 1 (131 + W.1 8 0 6).toNat = 1 then F_X8_readNode_76 z 0 e v (Fw W (W.1 8 0 4)) else F_X8_readNode_76 z 0 e v W) else F_X8_readNode_76 z 0 e v W) := by
    unfold F_X8_readNode_19
    rw [begins_0, hV, sbind, sbind, it1, m_good hg, sbind, if_neg (by decide), ckR_t (by omega) (by omega), e_in, sbind, ib, m_fail hg, sbind]
  rw [e1]
  by_cases q1 : W.1 8 0 5 = 2
  · rw [if_pos q1]
    by_cases q2 : 0 ≤ W.1 8 0 6 ∧ W.1 8 0 6 ≤ v - 1
    · rw [decide_eq_true q2, if_neg (by decide), ckR_t (by omega) (by omega), ckI_t (by omega) (by omega)]
      by_cases q3 : W.1 27 1 (131 + W.1 8 0 6).toNat = 1
      · rw [if_pos q3]
        by_cases q4 : X.1 5 0 6 = -1
        · exact Or.inr ⟨by omega, rfl⟩
        · have e6 : X.1 5 0 6 = W.1 8 0 6 := by omega
          rw [e6, if_pos ⟨q2.1, by omega, by unfold qrc; rw [q3]; rfl⟩]
          exact Or.inl rfl
      · rw [if_neg q3, if_neg]
        · exact Or.inl rfl
        · rintro ⟨a, b, c⟩
          have e6 : X.1 5 0 6 = W.1 8 0 6 := by omega
          rw [e6] at c
          unfold qrc at c
          exact q3 (of_decide_eq_true c)
    · rw [decide_eq_false q2, if_pos rfl, if_neg]
      · exact Or.inl rfl
      · rintro ⟨a, b, c⟩
        have e6 : X.1 5 0 6 = W.1 8 0 6 := by omega
        omega
  · rw [if_neg q1, if_neg]
    · exact Or.inl rfl
    · rintro ⟨a, b, c⟩; omega
theorem j_node (hz : 50000 ≤ z) (h : PG n f X W) (hk : W.1 8 0 5 ≠ 0) {e : Int} (he : e = 0 ∨ e = 1) : ∃ b X' W', F_X5_readNode z 0 e X = some (b, X') ∧ F_X8_readNode z 0 e W = some W' ∧ PE n f X W X' W' b := by
  obtain ⟨hT, hD, hZ⟩ := h
  have hb := hD.1.1
  have ht := hD.1.2.1
  have h60 := hb.2.2.2.1
  have hN := hD.2.2.2.1.2.1
  have e2 : X.1 4 10 0 = qct (W.1 27 1) := hN.1
  by_cases q : qct (W.1 27 1) < 60
  · obtain ⟨kd, st, en, nu, a, b, c, d, g1, g2, g3, fW⟩ := tp_step (z := z) hz hT hk
    have e8 : F_X8_readNode z 0 e W = F_X8_readNode_19 z 0 e (qct (W.1 27 1)) 0 0 W := by
      unfold F_X8_readNode
      rw [ckI_t (by omega) (by omega), if_neg (show ¬ W.1 27 1 (3 : Int).toNat = 60 from by show ¬ qct (W.1 27 1) = 60; omega)]; rfl
    have hX1 : ∀ C j, C ≠ 5 → (Sc X kd st en nu).1 C j = X.1 C j := fun C j w => Sc_C w
    have hX2 : (Sc X kd st en nu).2 = X.2 := rfl
    have hW1 : (Sw W a b c d).1 27 1 = W.1 27 1 := Sw_C (by decide)
    have fX : FX X (Sc X kd st en nu) := FX.sc
    generalize Sc X kd st en nu = X1 at *
    generalize Sw W a b c d = W1 at *
    have hD1 : DR X1 (W1.1 27 1) := by rw [hW1]; exact hD.tok hX1 hX2
    have hN1 := hD1.2.2.2.1.2.1
    have h19 := m_19 (z := z) (v := qct (W.1 27 1)) (e := e) g3 g2 hD1 (by omega) (by omega) (by rw [hW1])
    have hb1 := tp_b g3
    have hbad : 0 ≤ (Fw W1 (W1.1 8 0 4)).1 8 0 7 := by rw [Fw_r.1]; exact hb1.1
    have e3 : X1.1 4 10 0 = qct (W.1 27 1) := by rw [hX1 4 10 (by decide)]; exact e2
    rw [hW1] at h19
    by_cases q1 : 0 ≤ X1.1 5 0 6 ∧ X1.1 5 0 6 < qct (W.1 27 1)
    · have h19' : F_X8_readNode_19 z 0 e (qct (W.1 27 1)) 0 0 W = (if qrc (W.1 27 1) (X1.1 5 0 6) = true then some (Fw W1 (W1.1 8 0 4)) else F_X8_readNode_76 z 0 e (qct (W.1 27 1)) W1) := by
        rcases h19 with w | ⟨w, _⟩
        · rw [w]
          by_cases q2 : qrc (W.1 27 1) (X1.1 5 0 6) = true
          · rw [if_pos ⟨q1.1, q1.2, q2⟩, if_pos q2, m_76b hz hbad (by omega) (by omega)]
          · rw [if_neg (fun u => q2 u.2.2), if_neg q2]
        · exact absurd q1 w
      have hrc : has (X1.2 4 10 1) (X1.1 5 0 6) = qrc (W.1 27 1) (X1.1 5 0 6) := by
        rw [hN1.2.2 _ q1.1 (by omega), hW1, decide_eq_true q1.2, Bool.true_and]
      have e7 : F_X5_readNode z 0 e X = (if qrc (W.1 27 1) (X1.1 5 0 6) = false then ((F_X5_nextToken z 0 X1).bind fun r6 => if (r6.1 5 0 6) = (-1 : Int) then (some (((0 : Int), r6))) else (if (999 : Int) < (r6.1 5 0 6) then (some (((0 : Int), r6))) else ((F_X4_childWith z (10) ((r6.2 0 (3 * 10) 0)) ((X1.1 5 0 6)) ((r6.1 5 0 6)) r6).bind fun r8 => if r8 = (-1 : Int) then ((F_X4_addNext z (10) ((X1.1 5 0 6)) ((r6.1 5 0 6)) (e) r6).bind fun r10 => (F_X7_bit z (r10.1) r10.2).bind fun r12 => (some (wL r10.2 0 (3 * 10) 0 (((r6.2 0 (3 * 10) 0) ||| r12)))).bind fun x13 => (F_X5_nextToken z 0 x13).bind fun r15 => some (((1 : Int), r15))) else (some (((0 : Int), r6)))))) else some (0, X1)) := by
        unfold F_X5_readNode
        rw [e2, if_pos q, g1, sbind, if_neg (by omega), e3, if_neg (by omega), k_contains z X1 q1.1 (by omega), sbind, ib, hrc]
      by_cases q2 : qrc (W.1 27 1) (X1.1 5 0 6) = true
      · rw [if_neg (by rw [q2]; decide)] at e7
        rw [if_pos q2] at h19'
        exact ⟨0, X1, _, e7, e8.trans h19', PE.fail fX fW g3⟩
      · rw [if_pos (by simpa using q2)] at e7
        rw [if_neg q2] at h19'
        have hn2 := tp_num g3 q1.1
        obtain ⟨kd2, st2, en2, nu2, a2, b2, c2, d2, k1, k2, k3, kF⟩ := tp_step (z := z) hz g3 (by rw [hn2.1]; decide)
        have hY1 : ∀ C j, C ≠ 5 → (Sc X1 kd2 st2 en2 nu2).1 C j = X1.1 C j := fun C j w => Sc_C w
        have hY2 : (Sc X1 kd2 st2 en2 nu2).2 = X1.2 := rfl
        have hV1 : (Sw W1 a2 b2 c2 d2).1 27 1 = W1.1 27 1 := Sw_C (by decide)
        have fX2 : FX X (Sc X1 kd2 st2 en2 nu2) := fX.tr FX.sc
        have fW2 : FW W (Sw W1 a2 b2 c2 d2) := fW.tr kF
        generalize Sc X1 kd2 st2 en2 nu2 = X2 at *
        generalize Sw W1 a2 b2 c2 d2 = W2 at *
        generalize hp : X1.1 5 0 6 = p at *
        have hW2 : W2.1 27 1 = W.1 27 1 := hV1.trans hW1
        have hD2 : DR X2 (W.1 27 1) := by rw [← hW1]; exact hD1.tok hY1 hY2
        rw [k1, sbind] at e7
        have hb2 := tp_b k3
        obtain ⟨V, eV, hV⟩ := m_dup (z := z) (e := e) (p := p) hz k3 hW2 (v := qct (W.1 27 1)) (by omega) (by omega)
        have e76 : F_X8_readNode_76 z 0 e (qct (W.1 27 1)) W1 = ((F_X8_takeNumber z (0) ((0 : Int)) ((999 : Int)) V).bind fun r24 => (F_X8_isGood z 0 r24.2).bind fun r26 => if r26 = 0 then (some (r24.2)) else (ckR (((11 : Int) + qct (W.1 27 1))) <| ckI ((11 : Int) + qct (W.1 27 1)) 5366 <| (some (wI r24.2 27 1 (((11 : Int) + qct (W.1 27 1))).toNat (p))).bind fun x29 => ckR (((71 : Int) + qct (W.1 27 1))) <| ckI ((71 : Int) + qct (W.1 27 1)) 5366 <| (some (wI x29 27 1 (((71 : Int) + qct (W.1 27 1))).toNat (r24.1))).bind fun x32 => ckR (((131 : Int) + qct (W.1 27 1))) <| if e = 0 then (F_X8_readNode_206 z 0 (qct (W.1 27 1)) ((0 : Int)) (((131 : Int) + qct (W.1 27 1))) (1) x32) else (F_X8_readNode_206 z 0 (qct (W.1 27 1)) ((1 : Int)) (((131 : Int) + qct (W.1 27 1))) (1) x32))) := by
          unfold F_X8_readNode_76
          rw [ckR_t (by omega) (by omega), m_take g3 (by omega), hp, if_pos (by omega), k2, sbind, sbind]
          show ((F_X8_readNode_88 z 0 e (qct (W.1 27 1)) p z 1 W2).bind _) = _
          rw [eV, sbind]
        have hN2 := hD2.2.2.2.1.2.1
        have ecw : ∀ l, F_X4_childWith z 10 (X2.2 0 (3 * 10) 0) p l X2 = some (qcw (W.1 27 1) p l) := fun l => k_childWithR z hz X2 hN2 hb Sm.rf hD2.2.2.2.1.2.2.1
        have hal := fun n n0 n1 => hD2.al (n := n) n0 n1
        have hdup : ∀ l, (∃ m : Int, 1 ≤ m ∧ m < qct (W.1 27 1) ∧ qpa (W.1 27 1) m = p ∧ qlb (W.1 27 1) m = l) → qcw (W.1 27 1) p l ≠ -1 := by
          rintro l ⟨m, m0, m1, m2, m3⟩ w
          have := qff_none (i := 0) (by omega) w m (by omega) (by omega)
          rw [hal m (by omega) (by omega), decide_eq_true m1, decide_eq_true m2, decide_eq_true m3] at this
          cases this
        have hnd : ∀ l, (∀ m : Int, 1 ≤ m → m < qct (W.1 27 1) → ¬ (qpa (W.1 27 1) m = p ∧ qlb (W.1 27 1) m = l)) → qcw (W.1 27 1) p l = -1 := by
          intro l w
          rcases qff_some (p := fun n => qal (W.1 27 1) n && decide (qpa (W.1 27 1) n = p) && decide (qlb (W.1 27 1) n = l)) (qct (W.1 27 1)).toNat 0 (by omega) with ⟨u, _⟩ | ⟨u1, u2, u3⟩
          · exact u
          · exfalso
            simp only [Bool.and_eq_true, decide_eq_true_eq] at u3
            generalize qff (fun n => qal (W.1 27 1) n && decide (qpa (W.1 27 1) n = p) && decide (qlb (W.1 27 1) n = l)) (qct (W.1 27 1)).toNat 0 = m at *
            have m1 : 1 ≤ m := by
              by_cases q : m = 0
              · rw [q, ht.1] at u3; omega
              · omega
            exact w m m1 (by omega) ⟨u3.1.2, u3.2⟩
        by_cases ql : 0 ≤ X2.1 5 0 6 ∧ X2.1 5 0 6 ≤ 999
        · have hn3 := tp_num k3 ql.1
          rw [if_neg (by omega), if_neg (by omega), ecw, sbind] at e7
          rcases hV with ⟨rfl, hv⟩ | ⟨rfl, h5, hv⟩
          · have hq : qcw (W.1 27 1) p (X2.1 5 0 6) = -1 := hnd _ (by rw [← hn3.2]; exact hv hn3.1)
            rw [if_pos hq] at e7
            obtain ⟨X3, e3', f3, hD3⟩ := hD2.node (z := z) (p := p) (l := X2.1 5 0 6) (e := e) q (by omega) (by omega) ql.1 ql.2 he hq
            rw [e3', sbind] at e7
            have eb : F_X7_bit z (qct (W.1 27 1), X3).1 (qct (W.1 27 1), X3).2 = some (bt (qct (W.1 27 1))) := k_bit z _ (by show 0 ≤ qct (W.1 27 1); omega) (by show qct (W.1 27 1) < 64; omega)
            rw [eb, sbind, sbind] at e7
            have f5 : ∀ C j, C = 5 ∨ C = 25 → (pl X3 0 30 (up (X3.2 0 30) 0 ((X2.2 0 30 0) ||| bt (qct (W.1 27 1))))).1 C j = X2.1 C j := fun C j w => (f3 C j (by omega)).1
            have ewL : wL (qct (W.1 27 1), X3).2 0 (3 * 10) 0 ((X2.2 0 (3 * 10) 0) ||| bt (qct (W.1 27 1))) = pl X3 0 30 (up (X3.2 0 30) 0 ((X2.2 0 30 0) ||| bt (qct (W.1 27 1)))) := wL_pl
            rw [ewL] at e7
            have fX3 : FX X2 (pl X3 0 30 (up (X3.2 0 30) 0 ((X2.2 0 30 0) ||| bt (qct (W.1 27 1))))) := by
              intro C j w
              have w4 : ¬ ((C = 4 ∨ C = 21 ∨ C = 22 ∨ C = 30) ∧ j = 10) := fun u => w (Or.inl (by rw [u.2]; exact own_s (by omega)))
              have w0 : ¬ (C = 0 ∧ j = 30) := fun u => w (Or.inl (by rw [u.1, u.2]; exact own_t (j := 10) (Or.inl rfl)))
              refine ⟨(f3 C j w4).1, ?_⟩
              by_cases c0 : C = 0
              · rw [pl_j (fun u => w0 ⟨c0, u⟩)]; exact (f3 C j w4).2
              · rw [pl_C c0]; exact (f3 C j w4).2
            generalize pl X3 0 30 (up (X3.2 0 30) 0 ((X2.2 0 30 0) ||| bt (qct (W.1 27 1)))) = X4 at *
            obtain ⟨kd3, st3, en3, nu3, a3, b3, c3, d3, i1, i2, i3, iF⟩ := tp_step (z := z) hz (X := X4) (k3.fr (V := V) f5 (fun C j w => rfl)) (by rw [hn3.1]; decide)
            refine ⟨1, Sc X4 kd3 st3 en3 nu3, pj (Sw V a3 b3 c3 d3) 27 1 (rN (W.1 27 1) p (X2.1 5 0 6) e), ?_, ?_, ⟨(fX2.tr fX3).tr FX.sc, (fW2.tr iF).tr FW.row, i3.1⟩, Or.inl ⟨rfl, i3.fr (fun C j w => rfl) (fun C j w => pj_C (by omega)), ?_, ?_⟩⟩
            · rw [e7, i1, sbind]
            · rw [e8, h19', e76, m_take k3 (by omega), if_pos ql, i2, sbind, sbind]
              show ((F_X8_isGood z 0 (Sw V a3 b3 c3 d3)).bind _) = _
              have e27 : (Sw V a3 b3 c3 d3).1 27 1 = W.1 27 1 := (Sw_C (by decide)).trans hW2
              rw [m_good i3.2.2.1, sbind, if_neg (by decide), ckR_t (by omega) (by omega), ckI_t (by omega) (by omega), sbind, ckR_t (by omega) (by omega), ckI_t (by omega) (by omega), sbind, ckR_t (by omega) (by omega)]
              have e206 : ∀ u : Int, u = e → F_X8_readNode_206 z 0 (qct (W.1 27 1)) u (131 + qct (W.1 27 1)) 1 (wI (wI (Sw V a3 b3 c3 d3) 27 1 (11 + qct (W.1 27 1)).toNat p) 27 1 (71 + qct (W.1 27 1)).toNat (X2.1 5 0 6)) = some (pj (Sw V a3 b3 c3 d3) 27 1 (rN (W.1 27 1) p (X2.1 5 0 6) e)) := by
                intro u hu
                have r3 : up (up (up (up (W.1 27 1) (11 + qct (W.1 27 1)).toNat p) (71 + qct (W.1 27 1)).toNat (X2.1 5 0 6)) (131 + qct (W.1 27 1)).toNat u) (191 + qct (W.1 27 1)).toNat 1 (3 : Int).toNat = qct (W.1 27 1) := by
                  rw [up_i (by omega) (by omega) (by omega), up_i (by omega) (by omega) (by omega), up_i (by omega) (by omega) (by omega), up_i (by omega) (by omega) (by omega)]; rfl
                unfold F_X8_readNode_206
                rw [ckI_t (by omega) (by omega), sbind, ckR_t (by omega) (by omega), ckI_t (by omega) (by omega), sbind]
                simp only [wI_pj, pj_s, pj_pj, e27]
                rw [r3, ckI_t (by omega) (by omega), ckR_t (by omega) (by omega), ckI_t (by omega) (by omega), sbind, hu]; rfl
              rcases he with h0 | h1
              · rw [if_pos h0]; exact e206 0 h0.symm
              · rw [if_neg (by omega)]; exact e206 1 h1.symm
            · rw [pj_s]; exact hD3.tok (fun C j w => Sc_C w) rfl
            · trivial
          · have hq : qcw (W.1 27 1) p (X2.1 5 0 6) ≠ -1 := hdup _ (by rw [← hn3.2]; exact hv)
            rw [if_neg hq] at e7
            have hbd : 0 ≤ (Fw W2 (W2.1 8 0 4)).1 8 0 7 := by rw [Fw_r.1]; exact hb2.1
            refine ⟨0, X2, Fw W2 (W2.1 8 0 4), e7, ?_, PE.fail fX2 fW2 k3⟩
            rw [e8, h19', e76, m_take0 hbd, sbind]
            show ((F_X8_isGood z 0 (Fw W2 (W2.1 8 0 4))).bind _) = _
            rw [m_bad hbd, sbind, if_pos rfl]
        · have hbd : 0 ≤ (Fw W2 (W2.1 8 0 4)).1 8 0 7 := by rw [Fw_r.1]; exact hb2.1
          refine ⟨0, X2, Fw W2 (W2.1 8 0 4), ?_, ?_, PE.fail fX2 fW2 k3⟩
          · rw [e7]
            by_cases w : X2.1 5 0 6 = -1
            · rw [if_pos w]
            · have hx : 0 ≤ X2.1 5 0 6 := by
                obtain ⟨_, _, _, t1, t2, t3, t4⟩ := k3
                omega
              rw [if_neg w, if_pos (by omega)]
          · rw [e8, h19', e76]
            rcases hV with ⟨rfl, hv⟩ | ⟨rfl, h5, hv⟩
            · rw [m_take k3 (by omega), if_neg ql, sbind]
              show ((F_X8_isGood z 0 (Fw V (V.1 8 0 4))).bind _) = _
              rw [m_bad hbd, sbind, if_pos rfl]
            · rw [m_take0 hbd, sbind]
              show ((F_X8_isGood z 0 (Fw W2 (W2.1 8 0 4))).bind _) = _
              rw [m_bad hbd, sbind, if_pos rfl]
    · have e7 : F_X5_readNode z 0 e X = some (0, X1) := by
        unfold F_X5_readNode
        rw [e2, if_pos q, g1, sbind]
        by_cases w : X1.1 5 0 6 = -1
        · rw [if_pos w]
        · have hx : 0 ≤ X1.1 5 0 6 := by
            obtain ⟨_, _, _, t1, t2, t3, t4⟩ := g3
            omega
          rw [if_neg w, e3, if_pos (by omega)]
      refine ⟨0, X1, Fw W1 (W1.1 8 0 4), e7, ?_, PE.fail fX fW g3⟩
      rw [e8]
      rcases h19 with w | ⟨_, w⟩
      · rw [w, if_neg (fun u => q1 ⟨u.1, u.2.1⟩)]
        exact m_76f hz g3 (by omega) (by omega) (by omega)
      · rw [w]; exact m_76b hz hbad (by omega) (by omega)
  · refine ⟨0, X, Fw W (W.1 8 0 4), ?_, ?_, PE.fail FX.rf FW.rf hT⟩
    · unfold F_X5_readNode; rw [e2, if_neg q]
    · unfold F_X8_readNode
      rw [ckI_t (by omega) (by omega), if_pos (show W.1 27 1 (3 : Int).toNat = 60 from by show qct (W.1 27 1) = 60; omega)]
      unfold F_X8_readNode_19
      rw [begins_1, m_fail hT.2.2.1, sbind, sbind, it0]
end
