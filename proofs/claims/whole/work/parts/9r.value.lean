section
variable {z : Nat} {x y X X' W W' : Mm} {n : Int} {f : Int → Int} {r r' : Nat → Int}
theorem PE.pre {Y V : Mm} {b : Int} (hX : FX X Y) (hW : FW W V) (h : PE n f Y V X' W' b) : PE n f X W X' W' b := by
  obtain ⟨⟨a, b, c⟩, d⟩ := h
  exact ⟨⟨hX.tr a, hW.tr b, c⟩, d⟩
theorem m_101b (hg : 0 ≤ W.1 8 0 7) {a b c : Int} : F_X8_readValue_101 z 0 a b c W = some W := by
  unfold F_X8_readValue_101
  rw [m_take0 hg, sbind, m_bad hg, sbind, if_pos rfl]
theorem m_58b (hg : 0 ≤ W.1 8 0 7) (hb : Wb (W.1 27 1)) : F_X8_readValue_58 z 0 W = some W := by
  have h60 := hb.2.2.2.1
  have hf := hb.2.1
  unfold F_X8_readValue_58
  rw [ckI_t (by omega) (by omega), ckR_t (by show -2147483648 ≤ qct (W.1 27 1) - 1; omega) (by show qct (W.1 27 1) - 1 ≤ 2147483647; omega), m_take0 hg, sbind, ckI_t (by omega) (by omega), ckR_t (by show -2147483648 ≤ qfc (W.1 27 1) - 1; omega) (by show qfc (W.1 27 1) - 1 ≤ 2147483647; omega), m_take0 hg, sbind, m_sign0 hg, sbind, if_pos rfl, m_101b hg]
theorem m_58f (h : TP n f X W) (hb : Wb (W.1 27 1)) (hp : ¬ (0 ≤ X.1 5 0 6 ∧ X.1 5 0 6 ≤ qct (W.1 27 1) - 1)) : F_X8_readValue_58 z 0 W = some (Fw W (W.1 8 0 4)) := by
  have hbb := tp_b h
  have h60 := hb.2.2.2.1
  have hf := hb.2.1
  have hg : 0 ≤ (Fw W (W.1 8 0 4)).1 8 0 7 := by rw [Fw_r.1]; exact hbb.1
  have e27 : (Fw W (W.1 8 0 4)).1 27 1 = W.1 27 1 := Fw_C (by decide)
  have et : F_X8_takeNumber z 0 0 (W.1 27 1 (3 : Int).toNat - 1) W = some (0, Fw W (W.1 8 0 4)) := by
    rw [m_take h (by omega), if_neg (show ¬ (0 ≤ X.1 5 0 6 ∧ X.1 5 0 6 ≤ W.1 27 1 (3 : Int).toNat - 1) from hp)]
  unfold F_X8_readValue_58
  rw [ckI_t (by omega) (by omega), ckR_t (by show -2147483648 ≤ qct (W.1 27 1) - 1; omega) (by show qct (W.1 27 1) - 1 ≤ 2147483647; omega), et, sbind, ckI_t (by omega) (by omega), e27, ckR_t (by show -2147483648 ≤ qfc (W.1 27 1) - 1; omega) (by show qfc (W.1 27 1) - 1 ≤ 2147483647; omega), m_take0 hg, sbind, m_sign0 hg, sbind, if_pos rfl, m_101b hg]
theorem m_v (h : TP n f X W) {V : Mm} (hV : F_X8_step z 0 V = some W) (hD : DR X (W.1 27 1)) : F_X8_readValue z 0 V = (if 0 ≤ X.1 5 0 6 ∧ X.1 5 0 6 < qct (W.1 27 1) ∧ qrc (W.1 27 1) (X.1 5 0 6) = false then F_X8_readValue_58 z 0 (Fw W (W.1 8 0 4)) else F_X8_readValue_58 z 0 W) ∨ (¬ (0 ≤ X.1 5 0 6 ∧ X.1 5 0 6 < qct (W.1 27 1)) ∧ F_X8_readValue z 0 V = F_X8_readValue_58 z 0 (Fw W (W.1 8 0 4))) := by
  have hT := h.2.2.2
  have hg := h.2.2.1
  have h60 := hD.1.1.2.2.2.1
  have hr := hD.1.2.2.1
  obtain ⟨t1, t2, t3, t4⟩ := hT
  have e1 : F_X8_readValue z 0 V = (if W.1 8 0 5 = 2 then (if decide (0 ≤ W.1 8 0 6 ∧ W.1 8 0 6 ≤ qct (W.1 27 1) - 1) = false then F_X8_readValue_58 z 0 W else ckR (131 + W.1 8 0 6) <| ckI (131 + W.1 8 0 6) 5366 <| if W.1 27 1 (131 + W.1 8 0 6).toNat = 0 then F_X8_readValue_58 z 0 (Fw W (W.1 8 0 4)) else F_X8_readValue_58 z 0 W) else F_X8_readValue_58 z 0 W) := by
    unfold F_X8_readValue
    rw [hV, sbind, m_good hg, sbind, if_neg (by decide), ckI_t (by omega) (by omega), ckR_t (by show -2147483648 ≤ qct (W.1 27 1) - 1; omega) (by show qct (W.1 27 1) - 1 ≤ 2147483647; omega), e_in, sbind, ib, m_fail hg, sbind]; rfl
  rw [e1]
  by_cases q1 : W.1 8 0 5 = 2
  · rw [if_pos q1]
    by_cases q2 : 0 ≤ W.1 8 0 6 ∧ W.1 8 0 6 ≤ qct (W.1 27 1) - 1
    · have hr' := hr (W.1 8 0 6) q2.1 (by omega)
      rw [decide_eq_true q2, if_neg (by decide), ckR_t (by omega) (by omega), ckI_t (by omega) (by omega)]
      by_cases q3 : W.1 27 1 (131 + W.1 8 0 6).toNat = 0
      · rw [if_pos q3]
        by_cases q4 : X.1 5 0 6 = -1
        · exact Or.inr ⟨by omega, rfl⟩
        · have e6 : X.1 5 0 6 = W.1 8 0 6 := by omega
          rw [e6, if_pos ⟨q2.1, by omega, by unfold qrc; rw [q3]; rfl⟩]
          exact Or.inl rfl
      · rw [if_neg q3, if_neg]
        · exact Or.inl rfl
        · rintro ⟨a, b, c⟩
          have e6 : X.1 5 0 6 = W.1 8 0 6 := by omega
          rw [e6] at c
          unfold qrc at c
          have := of_decide_eq_false c
          omega
    · rw [decide_eq_false q2, if_pos rfl, if_neg]
      · exact Or.inl rfl
      · rintro ⟨a, b, c⟩
        have e6 : X.1 5 0 6 = W.1 8 0 6 := by omega
        omega
  · rw [if_neg q1, if_neg]
    · exact Or.inl rfl
    · rintro ⟨a, b, c⟩; omega
theorem j_93 (hz : 50000 ≤ z) (h : PG n f X W) {p g s : Int} (p0 : 0 ≤ p) (p1 : p < qct (W.1 27 1)) (g0 : 0 ≤ g) (g1 : g < qfc (W.1 27 1)) : ∃ b X' W', F_X5_readValue_93 z 0 p g s X = some (b, X') ∧ F_X8_readValue_101 z 0 p g s W = some W' ∧ PE n f X W X' W' b := by
  obtain ⟨hT, hD, hZ⟩ := h
  have hb := hD.1.1
  have h60 := hb.2.2.2.1
  have hf := hb.2.1
  have hbb := tp_b hT
  by_cases q : 0 ≤ X.1 5 0 6 ∧ X.1 5 0 6 ≤ 1000000
  · have hn := tp_num hT q.1
    have go : ∀ v : Int, ∃ kd st en nu a b c d, F_X5_nextToken z 0 (pj X 23 30 (up (X.1 23 30) (p * 6 + g).toNat v)) = some (Sc (pj X 23 30 (up (X.1 23 30) (p * 6 + g).toNat v)) kd st en nu) ∧ F_X8_step z 0 W = some (Sw W a b c d) ∧ (Sw W a b c d).1 8 0 7 = -1 ∧ PE n f X W (Sc (pj X 23 30 (up (X.1 23 30) (p * 6 + g).toNat v)) kd st en nu) (pj (Sw W a b c d) 27 1 (rV (W.1 27 1) p g v)) 1 := by
      intro v
      obtain ⟨kd, st, en, nu, a, b, c, d, i1, i2, i3, iF⟩ := tp_step (z := z) hz (X := pj X 23 30 (up (X.1 23 30) (p * 6 + g).toNat v)) (hT.fr (V := W) (fun C j w => pj_C (by omega)) (fun C j w => rfl)) (by rw [hn.1]; decide)
      refine ⟨kd, st, en, nu, a, b, c, d, i1, i2, i3.2.2.1, ⟨?_, iF.tr FW.row, i3.1⟩, Or.inl ⟨rfl, i3.fr (fun C j w => rfl) (fun C j w => pj_C (by omega)), ?_, ?_⟩⟩
      · unfold FX; refine Fg.tr (Fg.pj Fg.rf ?_) FX.sc
        exact Or.inl (own_t (j := 10) (Or.inr rfl))
      · rw [pj_s]; exact (hD.value p0 p1 g0 g1).tok (fun C j w => Sc_C w) rfl
      · trivial
    have kp : ∀ v : Int, F_X0_put z (3 * 10) p g v X = some (pj X 23 30 (up (X.1 23 30) (p * 6 + g).toNat v)) := fun v => k_put z X (b := 30) p0 (by omega) g0 (by omega)
    by_cases qs : s = 0
    · obtain ⟨kd, st, en, nu, a, b, c, d, i1, i2, i3, i4⟩ := go (X.1 5 0 6)
      refine ⟨1, _, _, ?_, ?_, i4⟩
      · unfold F_X5_readValue_93
        rw [if_neg (by omega), if_pos q.2, if_pos qs, kp, sbind, i1, sbind]
      · unfold F_X8_readValue_101
        rw [m_take hT (by omega), if_pos q, i2, sbind, sbind]
        show ((F_X8_isGood z 0 (Sw W a b c d)).bind _) = _
        rw [m_good i3, sbind, if_neg (by decide), ckR_t (by omega) (by omega), ckR_t (by omega) (by omega), ckR_t (by omega) (by omega), if_pos qs, ckI_t (by omega) (by omega), sbind, wI_pj]
        show some (pj (Sw W a b c d) 27 1 (up ((Sw W a b c d).1 27 1) _ _)) = _
        rw [Sw_C (by decide)]; rfl
    · obtain ⟨kd, st, en, nu, a, b, c, d, i1, i2, i3, i4⟩ := go (-X.1 5 0 6)
      refine ⟨1, _, _, ?_, ?_, i4⟩
      · unfold F_X5_readValue_93
        rw [if_neg (by omega), if_pos q.2, if_neg qs, ckR_t (by omega) (by omega), kp, sbind, i1, sbind]
      · unfold F_X8_readValue_101
        rw [m_take hT (by omega), if_pos q, i2, sbind, sbind]
        show ((F_X8_isGood z 0 (Sw W a b c d)).bind _) = _
        rw [m_good i3, sbind, if_neg (by decide), ckR_t (by omega) (by omega), ckR_t (by omega) (by omega), ckR_t (by omega) (by omega), if_neg qs]
        show (ckR (-X.1 5 0 6) _) = _
        rw [ckR_t (by omega) (by omega), ckI_t (by omega) (by omega), sbind, wI_pj]
        show some (pj (Sw W a b c d) 27 1 (up ((Sw W a b c d).1 27 1) _ _)) = _
        rw [Sw_C (by decide)]; rfl
  · have hg : 0 ≤ (Fw W (W.1 8 0 4)).1 8 0 7 := by rw [Fw_r.1]; exact hbb.1
    refine ⟨0, X, Fw W (W.1 8 0 4), ?_, ?_, PE.fail FX.rf FW.rf hT⟩
    · unfold F_X5_readValue_93
      by_cases w : X.1 5 0 6 = -1
      · rw [if_pos w]
      · have hx : 0 ≤ X.1 5 0 6 := by
          obtain ⟨_, _, _, t1, t2, t3, t4⟩ := hT
          omega
        rw [if_neg w, if_neg (by omega)]
    · unfold F_X8_readValue_101
      rw [m_take hT (by omega), if_neg q, sbind]
      show ((F_X8_isGood z 0 (Fw W (W.1 8 0 4))).bind _) = _
      rw [m_bad hg, sbind, if_pos rfl]
theorem pg_step (hz : 50000 ≤ z) (h : PG n f X W) (hk : W.1 8 0 5 ≠ 0) : ∃ X' W', F_X5_nextToken z 0 X = some X' ∧ F_X8_step z 0 W = some W' ∧ PG n f X' W' ∧ FX X X' ∧ FW W W' ∧ W'.1 27 1 = W.1 27 1 := by
  obtain ⟨hT, hD, hZ⟩ := h
  obtain ⟨kd, st, en, nu, a, b, c, d, g1, g2, g3, gFq⟩ := tp_step (z := z) hz hT hk
  have e : (Sw W a b c d).1 27 1 = W.1 27 1 := Sw_C (by decide)
  exact ⟨_, _, g1, g2, ⟨g3, by rw [e]; exact hD.tok (fun C j w => Sc_C w) rfl, trivial⟩, FX.sc, gFq, e⟩
theorem num_c (h : TP n f X W) : X.1 5 0 6 = -1 ∨ 0 ≤ X.1 5 0 6 := by
  obtain ⟨_, _, _, t1, t2, t3, t4⟩ := h
  omega
theorem j_value (hz : 50000 ≤ z) (h : PG n f X W) (hk : W.1 8 0 5 ≠ 0) : ∃ b X' W', F_X5_readValue z 0 X = some (b, X') ∧ F_X8_readValue z 0 W = some W' ∧ PE n f X W X' W' b := by
  obtain ⟨X1, W1, a1, a2, a3, a4, a5, a6⟩ := pg_step (z := z) hz h hk
  have hT1 := a3.1
  have hD1 := a3.2.1
  have hb := hD1.1.1
  have h60 := hb.2.2.2.1
  have hf := hb.2.1
  have hb1 := tp_b hT1
  have hbad : 0 ≤ (Fw W1 (W1.1 8 0 4)).1 8 0 7 := by rw [Fw_r.1]; exact hb1.1
  have hbF : Wb ((Fw W1 (W1.1 8 0 4)).1 27 1) := by rw [Fw_C (by decide)]; exact hb
  have hN1 := hD1.2.2.2.1.2.1
  have e3 : X1.1 4 10 0 = qct (W1.1 27 1) := hN1.1
  have hv := m_v (z := z) hT1 a2 hD1
  by_cases q1 : 0 ≤ X1.1 5 0 6 ∧ X1.1 5 0 6 < qct (W1.1 27 1)
  · have hv' : F_X8_readValue z 0 W = (if qrc (W1.1 27 1) (X1.1 5 0 6) = false then some (Fw W1 (W1.1 8 0 4)) else F_X8_readValue_58 z 0 W1) := by
      rcases hv with w | ⟨w, _⟩
      · rw [w]
        by_cases q2 : qrc (W1.1 27 1) (X1.1 5 0 6) = false
        · rw [if_pos ⟨q1.1, q1.2, q2⟩, if_pos q2, m_58b hbad hbF]
        · rw [if_neg (fun u => q2 u.2.2), if_neg q2]
      · exact absurd q1 w
    have hrc : has (X1.2 4 10 1) (X1.1 5 0 6) = qrc (W1.1 27 1) (X1.1 5 0 6) := by
      rw [hN1.2.2 _ q1.1 (by omega), decide_eq_true q1.2, Bool.true_and]
    have e7 : F_X5_readValue z 0 X = (if qrc (W1.1 27 1) (X1.1 5 0 6) = false then some (0, X1) else ((F_X5_nextToken z 0 X1).bind fun r6 => if (r6.1 5 0 6) = (-1 : Int) then (some (((0 : Int), r6))) else (if (r6.1 5 0 6) < (r6.1 6 10 1) then ((F_X5_nextToken z 0 r6).bind fun r8 => (F_X5_isSign z 0 ((45 : Int)) r8).bind fun r10 => if r10 = 0 then (F_X5_readValue_93 z 0 ((X1.1 5 0 6)) ((r6.1 5 0 6)) (r10) r8) else ((F_X5_nextToken z 0 r8).bind fun r21 => F_X5_readValue_93 z 0 ((X1.1 5 0 6)) ((r6.1 5 0 6)) (r10) r21)) else (some (((0 : Int), r6)))))) := by
      unfold F_X5_readValue
      rw [a1, sbind, if_neg (by omega), e3, if_neg (by omega), k_contains z X1 q1.1 (by omega), sbind, ib, hrc]
    by_cases q2 : qrc (W1.1 27 1) (X1.1 5 0 6) = false
    · rw [if_pos q2] at e7 hv'
      exact ⟨0, X1, _, e7, hv', PE.fail a4 a5 hT1⟩
    · rw [if_neg q2] at e7 hv'
      have hn1 := tp_num hT1 q1.1
      obtain ⟨X2, W2, b1, b2, b3, b4, b5, b6⟩ := pg_step (z := z) hz a3 (by rw [hn1.1]; decide)
      rw [b1, sbind] at e7
      have hT2 := b3.1
      have hb2 := tp_b hT2
      have e4 : X2.1 6 10 1 = qfc (W1.1 27 1) := by rw [← b6]; exact b3.2.1.2.2.2.1.1.2.1
      have et1 : F_X8_takeNumber z 0 0 (W1.1 27 1 (3 : Int).toNat - 1) W1 = some (X1.1 5 0 6, W2) := by
        rw [m_take hT1 (by omega), if_pos (show 0 ≤ X1.1 5 0 6 ∧ X1.1 5 0 6 ≤ W1.1 27 1 (3 : Int).toNat - 1 from ⟨q1.1, by show X1.1 5 0 6 ≤ qct (W1.1 27 1) - 1; omega⟩), b2, sbind]
      have e58 : F_X8_readValue_58 z 0 W1 = ((F_X8_takeNumber z 0 0 (W2.1 27 1 (1 : Int).toNat - 1) W2).bind fun r12 => (F_X8_isSign z 0 ((45 : Int)) r12.2).bind fun r14 => if r14 = 0 then (F_X8_readValue_101 z 0 (X1.1 5 0 6) (r12.1) (r14) r12.2) else ((F_X8_step z 0 r12.2).bind fun r28 => F_X8_readValue_101 z 0 (X1.1 5 0 6) (r12.1) (r14) r28)) := by
        unfold F_X8_readValue_58
        rw [ckI_t (by omega) (by omega), ckR_t (by show -2147483648 ≤ qct (W1.1 27 1) - 1; omega) (by show qct (W1.1 27 1) - 1 ≤ 2147483647; omega), et1, sbind, ckI_t (by omega) (by omega), ckR_t (by show -2147483648 ≤ W2.1 27 1 (1 : Int).toNat - 1; rw [b6]; show -2147483648 ≤ qfc (W1.1 27 1) - 1; omega) (by show W2.1 27 1 (1 : Int).toNat - 1 ≤ 2147483647; rw [b6]; show qfc (W1.1 27 1) - 1 ≤ 2147483647; omega)]
      have hfcW : W2.1 27 1 (1 : Int).toNat = qfc (W1.1 27 1) := by rw [b6]; rfl
      rw [hfcW, m_take hT2 (by omega)] at e58
      by_cases q3 : 0 ≤ X2.1 5 0 6 ∧ X2.1 5 0 6 ≤ qfc (W1.1 27 1) - 1
      · have hn2 := tp_num hT2 q3.1
        obtain ⟨X3, W3, c1, c2, c3, c4, c5, c6⟩ := pg_step (z := z) hz b3 (by rw [hn2.1]; decide)
        rw [if_neg (by omega), e4, if_pos (by omega), c1, sbind, k_isSign c3.1.1 c3.1.2.2.2, sbind, ib] at e7
        rw [if_pos q3, c2, sbind, sbind] at e58
        have es : F_X8_isSign z 0 45 (X2.1 5 0 6, W3).2 = some (b2i (sq f 45 (W3.1 8 0))) := m_isSign c3.1.2.1 c3.1.2.2.1 c3.1.2.2.2
        rw [es, sbind, ib] at e58
        have e27 : W3.1 27 1 = W1.1 27 1 := c6.trans b6
        cases hs : sq f 45 (W3.1 8 0)
        · rw [hs, if_pos rfl] at e7 e58
          obtain ⟨b, X', W', d1, d2, d3⟩ := j_93 (z := z) hz c3 (p := X1.1 5 0 6) (g := X2.1 5 0 6) (s := b2i false) q1.1 (by rw [e27]; exact q1.2) q3.1 (by rw [e27]; omega)
          exact ⟨b, X', W', by rw [e7]; exact d1, by rw [hv', e58]; exact d2, d3.pre ((a4.tr b4).tr c4) ((a5.tr b5).tr c5)⟩
        · rw [hs, if_neg (by decide)] at e7 e58
          have hk3 : W3.1 8 0 5 ≠ 0 := by
            intro w
            unfold sq at hs
            rw [w] at hs; cases hs
          obtain ⟨X4, W4, i1, i2, i3, i4, i5, i6⟩ := pg_step (z := z) hz c3 hk3
          rw [i1, sbind] at e7
          have i2' : F_X8_step z 0 (X2.1 5 0 6, W3).2 = some W4 := i2
          rw [i2', sbind] at e58
          have e27' : W4.1 27 1 = W1.1 27 1 := i6.trans e27
          obtain ⟨b, X', W', d1, d2, d3⟩ := j_93 (z := z) hz i3 (p := X1.1 5 0 6) (g := X2.1 5 0 6) (s := b2i true) q1.1 (by rw [e27']; exact q1.2) q3.1 (by rw [e27']; omega)
          exact ⟨b, X', W', by rw [e7]; exact d1, by rw [hv', e58]; exact d2, d3.pre (((a4.tr b4).tr c4).tr i4) (((a5.tr b5).tr c5).tr i5)⟩
      · have hbd : 0 ≤ (Fw W2 (W2.1 8 0 4)).1 8 0 7 := by rw [Fw_r.1]; exact hb2.1
        refine ⟨0, X2, Fw W2 (W2.1 8 0 4), ?_, ?_, PE.fail (a4.tr b4) (a5.tr b5) hT2⟩
        · rw [e7, e4]
          rcases num_c hT2 with w | w
          · rw [if_pos w]
          · rw [if_neg (by omega), if_neg (by omega)]
        · rw [hv', e58, if_neg q3, sbind]
          show ((F_X8_isSign z 0 45 (Fw W2 (W2.1 8 0 4))).bind _) = _
          rw [m_sign0 hbd, sbind, if_pos rfl]
          exact m_101b hbd
  · refine ⟨0, X1, Fw W1 (W1.1 8 0 4), ?_, ?_, PE.fail a4 a5 hT1⟩
    · unfold F_X5_readValue
      rw [a1, sbind, e3]
      rcases num_c hT1 with w | w
      · rw [if_pos w]
      · rw [if_neg (by omega), if_pos (by omega)]
    · rcases hv with w | ⟨_, w⟩
      · rw [w, if_neg (fun u => q1 ⟨u.1, u.2.1⟩)]
        exact m_58f hT1 hb (by omega)
      · rw [w]; exact m_58b hbad hbF
theorem j_stmt (hz : 50000 ≤ z) (h : PG n f X W) : ∃ b X' W', F_X5_readStatement z 0 X = some (b, X') ∧ F_X8_readStatement z 0 W = some W' ∧ PE n f X W X' W' b := by
  have hT := h.1
  have c : ∀ k, k < 11 → F_X5_isWord z 0 k X = some (b2i (wq f k (W.1 8 0))) := fun k hk => k_isWord hz hT.1 hT.2.2.2 (by omega)
  have m : ∀ k, k < 11 → F_X8_isWord z 0 (k + 11) W = some (b2i (wq f k (W.1 8 0))) := fun k hk => m_isWord hz hT.2.1 hT.2.2.1 (tp_b hT) hk
  have nk : ∀ k, wq f k (W.1 8 0) = true → W.1 8 0 5 ≠ 0 := fun k w u => by
    unfold wq at w; rw [u] at w; cases w
  have z01 : ∀ {X' W' : Mm} {b : Int} {A : Option (Int × Mm)}, PE n f X W X' W' b → ckZ b A = A := fun {X' W' b A} w => by
    rcases w.2 with w | w
    · rw [w.1]; exact ckZ_b (b := true)
    · rw [w.1]; exact ckZ_b (b := false)
  unfold F_X5_readStatement F_X8_readStatement
  rw [c 0 (by decide), sbind, ib, show (11 : Nat) = 0 + 11 from rfl, m 0 (by decide), sbind, ib]
  cases h0 : wq f 0 (W.1 8 0)
  · rw [if_pos rfl, if_pos rfl, c 7 (by decide), sbind, ib, show (18 : Nat) = 7 + 11 from rfl, m 7 (by decide), sbind, ib]
    cases h7 : wq f 7 (W.1 8 0)
    · rw [if_pos rfl, if_pos rfl, c 8 (by decide), sbind, ib, show (19 : Nat) = 8 + 11 from rfl, m 8 (by decide), sbind, ib]
      cases h8 : wq f 8 (W.1 8 0)
      · rw [if_pos rfl, if_pos rfl, c 9 (by decide), sbind, ib, show (20 : Nat) = 9 + 11 from rfl, m 9 (by decide), sbind, ib]
        cases h9 : wq f 9 (W.1 8 0)
        · rw [if_pos rfl, if_pos rfl, c 10 (by decide), sbind, ib, show (21 : Nat) = 10 + 11 from rfl, m 10 (by decide), sbind, ib]
          cases h10 : wq f 10 (W.1 8 0)
          · rw [if_pos rfl, if_pos rfl, m_fail hT.2.2.1, sbind]
            exact ⟨0, X, _, rfl, rfl, PE.fail FX.rf FW.rf hT⟩
          · rw [if_neg (by decide), if_neg (by decide)]
            obtain ⟨b, X', W', e1, e2, e3⟩ := j_value (z := z) hz h (nk 10 h10)
            rw [e1, e2, sbind, sbind]
            refine ⟨b, X', W', ?_, rfl, e3⟩
            rcases e3.2 with w | w
            · rw [w.1]; rfl
            · rw [w.1]; rfl
        · rw [if_neg (by decide), if_neg (by decide)]
          obtain ⟨b, X', W', e1, e2, e3⟩ := j_node (z := z) hz h (nk 9 h9) (e := 1) (Or.inr rfl)
          rw [e1, e2, sbind, sbind]
          exact ⟨b, X', W', z01 e3, rfl, e3⟩
      · rw [if_neg (by decide), if_neg (by decide)]
        obtain ⟨b, X', W', e1, e2, e3⟩ := j_node (z := z) hz h (nk 8 h8) (e := 0) (Or.inl rfl)
        rw [e1, e2, sbind, sbind]
        exact ⟨b, X', W', z01 e3, rfl, e3⟩
    · rw [if_neg (by decide), if_neg (by decide)]
      obtain ⟨b, X', W', e1, e2, e3⟩ := j_client (z := z) hz h (nk 7 h7)
      rw [e1, sbind]
      exact ⟨b, X', W', z01 e3, e2, e3⟩
  · rw [if_neg (by decide), if_neg (by decide)]
    obtain ⟨b, X', W', e1, e2, e3⟩ := j_field (z := z) hz h (nk 0 h0)
    rw [e1, e2, sbind, sbind]
    exact ⟨b, X', W', z01 e3, rfl, e3⟩
end
