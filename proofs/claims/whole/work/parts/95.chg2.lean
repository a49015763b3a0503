/-! setField, removeNode, abandon. -/
section
variable {z : Nat} {x y : Mm} {r : Nat → Int}
theorem n_fresh (e : y.1 27 0 = r) {c n f : Int} (h0 : 0 ≤ c) (h1 : c < 5) (h2 : 0 ≤ n) (h3 : n < 60) (h4 : 0 ≤ f) (h5 : f < 6) {H : Nat → Int} {E : Int} : F_X8_fresh z 0 c n f (rm y H E) = some (qnv r c n f) := by
  have E' := e_fresh z c n f (rm y H E) h0 h1 h2 h3 h4 h5
  rw [rm_C (by decide) (by decide), e] at E'; exact E'
theorem p_setField (hz : 50000 ≤ z) (h : Inv x) (c n f v : Int) : Pr [sI, sA, sS] (F_X7_setField z 0 c n f v) (F_X8_setField z 0 c n f v) x := by
  have hb := h.1.1.1
  have hcc := hb.2.2.1
  have h60 := hb.2.2.2.1
  have hfc := hb.2.1
  have hN := h.1.2.2.1
  by_cases qc : 0 ≤ c ∧ c < qcc (x.1 27 0)
  · by_cases qn : 0 ≤ n ∧ n < qct (x.1 27 0)
    · by_cases qf : 0 ≤ f ∧ f < qfc (x.1 27 0)
      · by_cases qv : -1000000 ≤ v ∧ v ≤ 1000000
        · have hL := h.1.2.2.2.2.1 c qc.1 (by omega)
          by_cases ql : qhl (x.1 27 0) c = true
          · obtain ⟨⟨g1, g2, g3⟩, glr, glv⟩ := hL.2 ql
            have hwl := h.1.1.2.2.2.2.2.1 c qc.1 (by omega)
            cases qi : qcp (x.1 27 0) c 60 n
            · refine Pr.get h (y := .inr sS) ?_ (b := 0) (t := 3) ?_ (Ok.x rfl (by decide))
              · unfold F_X7_setField
                rw [rc_t h qc, bndXl, rn_t h qn, bndXl, rf_t h qf, bndXl, if_neg (by omega), if_pos qv.2, rl_t h qc.1 (by omega) ql, bndXl, rp_f h qc.1 (by omega) ql qn qi, bndXr]
              · unfold F_X8_setField F_X8_setField_35 F_X8_setField_99 F_X8_setField_100
                rw [sbind, th_w, mC h, sbind, dt qc, mN h, sbind, dt qn, mF' h, sbind, dt qf, e_fails1, sbind, it0, e_in, sbind, e_failsT qv, sbind, it0, mH qc.1 (by omega), sbind, ib, if_neg (by rw [ql]; decide), m_is c 60 n 0 qc.1 (by omega) (by omega) qn.1 (by omega), sbind, ib, if_pos qi, e_fails0, sbind, it1, th_th]
            · have hrec := hN.2.2 n qn.1 (by omega)
              rw [decide_eq_true qn.2, Bool.true_and] at hrec
              by_cases qr : qrc (x.1 27 0) n = true
              · obtain ⟨y, e, hHI, hRy, hF⟩ := k_push (z := z) hz h.2.2.2.1 h.1 h.2.1
                have hw := (hwl ql).2.2.2.1.2.2 n qn.1 (by omega) qi
                have hS : Slc (x.1 27 0) (up (x.1 27 0) (866 + 900 * c + 540 + (6 * n + f)).toNat v) c := fun i i0 i1 i2 => up_i i0 (by omega) (by omega)
                have E3 : ∀ i : Int, 0 ≤ i → i < 866 → up (x.1 27 0) (866 + 900 * c + 540 + (6 * n + f)).toNat v i.toNat = x.1 27 0 i.toNat := fun i i0 i1 => up_i i0 (by omega) (by omega)
                have eln : qln (up (x.1 27 0) (866 + 900 * c + 540 + (6 * n + f)).toNat v) c = qln (x.1 27 0) c := E3 _ (by omega) (by omega)
                have ehl : qhl (up (x.1 27 0) (866 + 900 * c + 540 + (6 * n + f)).toNat v) c = qhl (x.1 27 0) c := by unfold qhl; rw [eln]
                have ele : qle (up (x.1 27 0) (866 + 900 * c + 540 + (6 * n + f)).toNat v) c = qle (x.1 27 0) c := E3 _ (by omega) (by omega)
                have elx : qlx (up (x.1 27 0) (866 + 900 * c + 540 + (6 * n + f)).toNat v) c = qlx (x.1 27 0) c := E3 _ (by omega) (by omega)
                have ect := hS.ct qc.1 (by omega)
                have efc := hS.fc qc.1 (by omega)
                have ecp : ∀ p m : Int, 0 ≤ p → 0 ≤ m → p + m < 180 → qcp (up (x.1 27 0) (866 + 900 * c + 540 + (6 * n + f)).toNat v) c p m = qcp (x.1 27 0) c p m := fun p m p0 m0 m1 => by unfold qcp; rw [up_i (by omega) (by omega) (by omega)]
                have eov : ∀ m g : Int, 0 ≤ m → m < 60 → 0 ≤ g → g < 6 → qov (up (x.1 27 0) (866 + 900 * c + 540 + (6 * n + f)).toNat v) c m g = qov (x.1 27 0) c m g := fun m g m0 m1 g0 g1 => up_i (by omega) (by omega) (by omega)
                have env : ∀ m g : Int, 0 ≤ m → m < 60 → 0 ≤ g → g < 6 → qnv (up (x.1 27 0) (866 + 900 * c + 540 + (6 * n + f)).toNat v) c m g = if m = n ∧ g = f then v else qnv (x.1 27 0) c m g := fun m g m0 m1 g0 g1 => by
                  unfold qnv
                  by_cases w : m = n ∧ g = f
                  · rw [if_pos w]; exact up_e (by omega)
                  · rw [if_neg w]; exact up_i (by omega) (by omega) (by omega)
                have hZ : Zr (up (x.1 27 0) (866 + 900 * c + 540 + (6 * n + f)).toNat v) := zr_up h.2.1 (by omega) (by omega)
                generalize hr' : up (x.1 27 0) (866 + 900 * c + 540 + (6 * n + f)).toNat v = r' at *
                have hFy : Fg (fun C j => (C = 3 ∧ j = 5 * 0 + c.toNat) ∨ ((C = 0 ∨ C = 23) ∧ (j = 3 * (5 * 0 + c.toNat) + 1 ∨ j = 3 * (5 * 0 + c.toNat) + 2))) y (pj y 23 (3 * (5 * 0 + c.toNat) + 2) (up (y.1 23 (3 * (5 * 0 + c.toNat) + 2)) (n * 6 + f).toNat v)) := Fg.rf.pj (Or.inr ⟨Or.inr rfl, Or.inr rfl⟩)
                have hWL : WL r' c := by
                  intro w
                  obtain ⟨b1, b2, b3, b4, b5, b6⟩ := hwl ql
                  refine ⟨by rw [eln, ect]; exact b1, by rw [ele]; exact b2, by rw [elx]; exact b3, ⟨?_, ?_, ?_⟩, ?_, ?_⟩
                  · rw [ecp _ _ (by omega) (by omega) (by omega)]; exact b4.1
                  · intro m g m0 m1 g0 g1
                    rw [efc] at g0
                    rw [eov m g m0 m1 (by omega) g1, env m g m0 m1 (by omega) g1, if_neg (by omega)]; exact b4.2.1 m g m0 m1 g0 g1
                  · intro m m0 m1
                    rw [ecp _ _ (by omega) m0 (by omega), ecp _ _ (by omega) m0 (by omega), ecp _ _ (by omega) m0 (by omega)]; exact b4.2.2 m m0 m1
                  · intro m g m0 m1 g0 g1
                    rw [ect] at m0
                    rw [env m g (by omega) m1 g0 g1, if_neg (by omega)]; exact b5 m g m0 m1 g0 g1
                  · intro m m0 m1
                    rw [ect] at m0
                    rw [ecp _ _ (by omega) (by omega) (by omega), ecp _ _ (by omega) (by omega) (by omega), ecp _ _ (by omega) (by omega) (by omega)]; exact b6 m m0 m1
                have hv0 := (((hRy.2.2.2.2.1 c qc.1 (by omega)).2 ql).2.2 n f qn.1 (by omega) qf.1 (by omega)).2 hw
                have hR1 : Rs (pj y 23 (3 * (5 * 0 + c.toNat) + 2) (up (y.1 23 (3 * (5 * 0 + c.toNat) + 2)) (n * 6 + f).toNat v)) 0 r' := by
                  refine Rs_Slc hS qc.1 (by omega) hRy hFy hWL ?_
                  obtain ⟨L1, L2⟩ := hRy.2.2.2.2.1 c qc.1 (by omega)
                  obtain ⟨⟨l1, l2, l3⟩, lr, lv⟩ := L2 ql
                  rw [← ehl] at L1
                  refine ⟨by rw [pj_C (by decide)]; exact L1, fun w => ⟨⟨?_, ?_, ?_⟩, fun m m0 m1 => ?_, fun m g m0 m1 g0 g1 => ?_⟩⟩
                  · rw [pj_C (by decide), eln]; exact l1
                  · rw [pj_C (by decide), ele]; exact l2
                  · rw [pj_C (by decide), elx]; exact l3
                  · rw [pj_2, ect]
                    by_cases q : m < qct (x.1 27 0)
                    · rw [ecp _ _ (by omega) m0 (by omega), ecp _ _ (by omega) m0 (by omega), ecp _ _ (by omega) m0 (by omega)]; exact lr m m0 m1
                    · have := lr m m0 m1
                      rw [decide_eq_false q] at this ⊢; exact this
                  · rw [ecp _ _ (by omega) m0 (by omega), ecp _ _ (by omega) m0 (by omega), eov m g m0 m1 g0 g1, env m g m0 m1 g0 g1, pj_j (by omega), pj_s]
                    refine ⟨(lv m g m0 m1 g0 g1).1, fun u => ?_⟩
                    by_cases w : m = n ∧ g = f
                    · rw [if_pos w]; exact up_e (by omega)
                    · rw [if_neg w, up_i (by omega) (by omega) (by omega)]; exact (lv m g m0 m1 g0 g1).2 u
                refine Pr.chg h hF hHI (fo_pj (own_b (by omega) (by omega)).2) hR1 hZ (b := qnv (x.1 27 0) c n f) ?_ (fun q => ?_)
                · unfold F_X7_setField
                  rw [rc_t h qc, bndXl, rn_t h qn, bndXl, rf_t h qf, bndXl, if_neg (by omega), if_pos qv.2, rl_t h qc.1 (by omega) ql, bndXl, rp_t h qc.1 (by omega) ql qn qi, bndXl, k_contains z x qn.1 (by omega), sbind, ib, hrec, if_neg (by rw [qr]; decide), e, sbind, ckI_t qc.1 (by omega), k_valueOf z y qn.1 (by omega) qf.1 (by omega), sbind, k_put z y qn.1 (by omega) qf.1 (by omega), sbind, hv0]
                · have q27 := q 27 0 (by omega)
                  generalize pj y 23 (3 * (5 * 0 + c.toNat) + 2) (up (y.1 23 (3 * (5 * 0 + c.toNat) + 2)) (n * 6 + f).toNat v) = y1 at *
                  unfold F_X8_setField F_X8_setField_35 F_X8_setField_100
                  rw [sbind, th_w, nC q27 hb, sbind, dt qc, nN q27 hb, sbind, dt qn, nF q27 hb, sbind, dt qf, e_fails1, sbind, it0, e_in, sbind, e_failsT qv, sbind, it0, nH q27 qc.1 (by omega), sbind, ib, if_neg (by rw [ql]; decide), n_is q27 qc.1 (by omega) (by omega) qn.1 (by omega), sbind, ib, if_neg (by rw [qi]; decide), ckR_t (by omega) (by omega), ckI_t (by omega) (by omega), th_C (by decide), q27, if_pos (show x.1 27 0 (131 + n).toNat = 1 from by simpa [qrc] using qr), e_fails1, sbind, it0, n_rec hz h q, sbind, n_fresh q27 qc.1 (by omega) qn.1 (by omega) qf.1 (by omega), sbind, ckR_t (by omega) (by omega), ckR_t (by omega) (by omega), e_partOf z c _ _ _ qc.1 (by omega) (by omega) (by omega) (by omega), sbind, ckI_t (by omega) (by omega), sbind, wI_pj, rm_C (by decide) (by decide), q27, hr']
              · refine Pr.get h (y := .inr sS) ?_ (b := 0) (t := 3) ?_ (Ok.x rfl (by decide))
                · unfold F_X7_setField
                  rw [rc_t h qc, bndXl, rn_t h qn, bndXl, rf_t h qf, bndXl, if_neg (by omega), if_pos qv.2, rl_t h qc.1 (by omega) ql, bndXl, rp_t h qc.1 (by omega) ql qn qi, bndXl, k_contains z x qn.1 (by omega), sbind, ib, hrec, if_pos (by simpa using qr)]
                · unfold F_X8_setField F_X8_setField_35 F_X8_setField_99 F_X8_setField_100
                  rw [sbind, th_w, mC h, sbind, dt qc, mN h, sbind, dt qn, mF' h, sbind, dt qf, e_fails1, sbind, it0, e_in, sbind, e_failsT qv, sbind, it0, mH qc.1 (by omega), sbind, ib, if_neg (by rw [ql]; decide), m_is c 60 n 0 qc.1 (by omega) (by omega) qn.1 (by omega), sbind, ib, if_neg (by rw [qi]; decide), ckR_t (by omega) (by omega), ckI_t (by omega) (by omega), th_C (by decide), if_neg (show ¬ x.1 27 0 (131 + n).toNat = 1 from by simpa [qrc] using qr), e_fails0, sbind, it1, th_th]
          · refine Pr.get h (y := .inr sS) ?_ (b := 0) (t := 3) ?_ (Ok.x rfl (by decide))
            · unfold F_X7_setField
              rw [rc_t h qc, bndXl, rn_t h qn, bndXl, rf_t h qf, bndXl, if_neg (by omega), if_pos qv.2, rl_f h qc.1 (by omega) (by simpa using ql), bndXr]
            · unfold F_X8_setField F_X8_setField_35 F_X8_setField_99 F_X8_setField_100
              rw [sbind, th_w, mC h, sbind, dt qc, mN h, sbind, dt qn, mF' h, sbind, dt qf, e_fails1, sbind, it0, e_in, sbind, e_failsT qv, sbind, it0, mH qc.1 (by omega), sbind, ib, if_pos (by simpa using ql), e_fails0, sbind, it1, th_th]
        · refine Pr.get h (y := .inr sA) ?_ (b := 0) (t := 2) ?_ (Ok.x rfl (by decide))
          · unfold F_X7_setField
            rw [rc_t h qc, bndXl, rn_t h qn, bndXl, rf_t h qf, bndXl]
            by_cases w : v < -1000000
            · rw [if_pos w]
            · rw [if_neg w, if_neg (by omega)]
          · unfold F_X8_setField F_X8_setField_35
            rw [sbind, th_w, mC h, sbind, dt qc, mN h, sbind, dt qn, mF' h, sbind, dt qf, e_fails1, sbind, it0, e_in, sbind, e_failsF qv, sbind, it1, th_th]
      · refine Pr.get h (y := .inr sI) ?_ (b := 0) (t := 1) ?_ (Ok.x rfl (by decide))
        · unfold F_X7_setField
          rw [rc_t h qc, bndXl, rn_t h qn, bndXl, rf_f h qf, bndXr]
        · unfold F_X8_setField F_X8_setField_34 F_X8_setField_35
          rw [sbind, th_w, mC h, sbind, dt qc, mN h, sbind, dt qn, mF' h, sbind, df qf, e_fails0, sbind, it1, th_th]
    · refine Pr.get h (y := .inr sI) ?_ (b := 0) (t := 1) ?_ (Ok.x rfl (by decide))
      · unfold F_X7_setField
        rw [rc_t h qc, bndXl, rn_f h qn, bndXr]
      · unfold F_X8_setField F_X8_setField_34 F_X8_setField_35
        rw [sbind, th_w, mC h, sbind, dt qc, mN h, sbind, df qn, e_fails0, sbind, it1, th_th]
  · refine Pr.get h (y := .inr sI) ?_ (b := 0) (t := 1) ?_ (Ok.x rfl (by decide))
    · unfold F_X7_setField
      rw [rc_f h qc, bndXr]
    · unfold F_X8_setField F_X8_setField_34 F_X8_setField_35
      rw [sbind, th_w, mC h, sbind, df qc, e_fails0, sbind, it1, th_th]
end
