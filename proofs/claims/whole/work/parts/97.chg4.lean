/-! abandon, commit. -/
section
variable {z : Nat} {x y : Mm} {r : Nat → Int}
theorem k_changedInR (hz : 50000 ≤ z) (hR : Rs x 0 r) {c : Int} (c0 : 0 ≤ c) (c1 : c < 5) (ql : qhl r c = true) : F_X6_changedIn z 0 c x = some (qac r c) := by
  have hb := hR.1.1
  have h60 := hb.2.2.2.1
  have hN := hR.2.2.1
  have hw := (hR.1.2.2.2.2.2.1 c c0 c1 ql).2.2.2.1
  unfold F_X6_changedIn
  refine Tt.eq ?_
  refine Tt.bind (P := fun v => v = qac r c) ?_ (fun a e => Tt.ret e)
  refine loopU (fun k i (s : Int) => F_X6_changedIn_4 z 0 c x k s i) (qct r) (fun i s => 0 ≤ i ∧ i ≤ qct r ∧ s = qsm (qco r c) i.toNat) _ ?_ ?_ z 0 0 (by omega) (by omega) ⟨by omega, by omega, rfl⟩
  · rintro k s i hN' ⟨i0, i1, rfl⟩
    refine Tt.of (v := qsm (qco r c) i.toNat) ?_ ?_
    · show (if x.1 4 0 0 ≤ i then _ else _) = _
      rw [hN.1, if_pos hN']
    · rw [show i = qct r by omega]; rfl
  · rintro k s i hN' ⟨i0, i1, rfl⟩
    refine Or.inl ⟨qsm (qco r c) (i + 1).toNat, ?_, by omega, by omega, rfl⟩
    have hc := qsm_le (g := qco r c) (M := 6) (k := i.toNat) (fun j _ _ => qco_le _ _ _ hb)
    have hd := qco_le r c i hb
    show (if x.1 4 0 0 ≤ i then _ else _) = _
    rw [hN.1, if_neg (by omega), ckI_t c0 (by omega), k_changedFields z hz hb c0 c1 hw ql (hR.2.2.2.2.1 c c0 c1) (fun _ _ => rfl) (fun _ _ => rfl) i0 hN', sbind, qsm_s i0, ckR_t (by omega) (by omega), ckR_t (by omega) (by omega)]
theorem Slc_qen {c : Int} (c0 : 0 ≤ c) (c1 : c < 5) : Slc r (qen r c) c := fun i i0 i1 i2 => by
  unfold qen
  rw [if_neg (by omega), up_i (by omega) (by omega) (by omega), up_i (by omega) (by omega) (by omega), up_i (by omega) (by omega) (by omega)]
theorem qhl_qen {c : Int} (c0 : 0 ≤ c) (c1 : c < 5) : qhl (qen r c) c = false := by
  have e : qln (qen r c) c = -1 := by
    unfold qln qen
    rw [if_neg (by omega), up_i (by omega) (by omega) (by omega), up_i (by omega) (by omega) (by omega), up_s]
  unfold qhl; rw [e]; rfl
theorem Rs_end {c : Int} (c0 : 0 ≤ c) (c1 : c < 5) (h : Rs x 0 r) : Rs (pj x 3 (5 * 0 + c.toNat) (up (x.1 3 (5 * 0 + c.toNat)) 0 0)) 0 (qen r c) := by
  refine Rs_Slc (Slc_qen c0 c1) c0 c1 h (Fg.rf.pj (Or.inl ⟨rfl, rfl⟩)) (fun w => by rw [qhl_qen c0 c1] at w; cases w) ⟨?_, fun w => by rw [qhl_qen c0 c1] at w; cases w⟩
  rw [pj_s, up_s, qhl_qen c0 c1]; rfl
theorem p_abandon (hz : 50000 ≤ z) (h : Inv x) (c : Int) : Pr [sI, sS] (F_X7_abandon z 0 c) (F_X8_abandon z 0 c) x := by
  have hb := h.1.1.1
  have hcc := hb.2.2.1
  by_cases qc : 0 ≤ c ∧ c < qcc (x.1 27 0)
  · by_cases ql : qhl (x.1 27 0) c = true
    · obtain ⟨y, e, hHI, hRy, hF⟩ := k_push (z := z) hz h.2.2.2.1 h.1 h.2.1
      refine Pr.chg h hF hHI (fo_pj (own_l (by omega))) (Rs_end qc.1 (by omega) hRy) (zr_qen h.2.1 qc.1 (by omega)) (b := qac (x.1 27 0) c) ?_ (fun q => ?_)
      · unfold F_X7_abandon
        rw [rc_t h qc, bndXl, rl_t h qc.1 (by omega) ql, bndXl, e, sbind, k_changedInR hz hRy qc.1 (by omega) ql, sbind, ckI_t qc.1 (by omega), sbind, wI_pj]
      · have q27 := q 27 0 (by omega)
        generalize pj y 3 (5 * 0 + c.toNat) (up (y.1 3 (5 * 0 + c.toNat)) 0 0) = y1 at *
        unfold F_X8_abandon
        have e1 := e_allChanges z hz c (rm y1 (hrec (x.1 28 0) (x.1 8 0 12) (x.1 27 0)) (enx (x.1 8 0 12))) (by rw [rm_C (by decide) (by decide), q27]; exact hb) qc.1 (by omega)
        have e2 := e_endLease z hz c (rm y1 (hrec (x.1 28 0) (x.1 8 0 12) (x.1 27 0)) (enx (x.1 8 0 12))) qc.1 (by omega)
        rw [rm_C (by decide) (by decide), q27] at e1 e2
        rw [sbind, th_w, nC q27 hb, sbind, e_failsT qc, sbind, it0, nH q27 qc.1 (by omega), sbind, e_failst ql, sbind, it0, n_rec hz h q, sbind, e1, sbind, e2, sbind]
    · refine Pr.get h (y := .inr sS) ?_ (b := 0) (t := 2) ?_ (Ok.x rfl (by decide))
      · unfold F_X7_abandon
        rw [rc_t h qc, bndXl, rl_f h qc.1 (by omega) (by simpa using ql), bndXr]
      · unfold F_X8_abandon
        rw [sbind, th_w, mC h, sbind, e_failsT qc, sbind, it0, mH qc.1 (by omega), sbind, e_failsf (by simpa using ql), sbind, it1, th_th]
  · refine Pr.get h (y := .inr sI) ?_ (b := 0) (t := 1) ?_ (Ok.x rfl (by decide))
    · unfold F_X7_abandon
      rw [rc_f h qc, bndXr]
    · unfold F_X8_abandon
      rw [sbind, th_w, mC h, sbind, e_failsF qc, sbind, it1, th_th]
/-- a merge into the trunk itself -/
theorem WL_Sm {r1 : Nat → Int} {d : Int} (hS : Sm r r1) (d0 : 0 ≤ d) (d1 : d < 5) (hf0 : 0 ≤ qfc r) (h : WL r d) : WL r1 d := by
  have eln : qln r1 d = qln r d := hS _ (by omega) (by omega) (by omega) (by omega)
  have ehl : qhl r1 d = qhl r d := by unfold qhl; rw [eln]
  intro w
  rw [ehl] at w
  obtain ⟨b1, b2, b3, b4, b5, b6⟩ := h w
  have ect := hS.ct
  have efc := hS.fc
  refine ⟨by rw [eln, ect]; exact b1, ?_, ?_, ⟨?_, ?_, ?_⟩, ?_, ?_⟩
  · rw [show qle r1 d = qle r d from hS _ (by omega) (by omega) (by omega) (by omega)]; exact b2
  · rw [show qlx r1 d = qlx r d from hS _ (by omega) (by omega) (by omega) (by omega)]; exact b3
  · rw [hS.cp d0 (by omega) (by omega)]; exact b4.1
  · intro n f n0 n1 f0 f1
    rw [efc] at f0
    rw [hS.ov d0 n0 (by omega), hS.nv d0 n0 (by omega)]; exact b4.2.1 n f n0 n1 f0 f1
  · intro n n0 n1
    rw [hS.cp d0 (by omega) n0, hS.cp d0 (by omega) n0, hS.cp d0 (by omega) n0]; exact b4.2.2 n n0 n1
  · intro n f n0 n1 f0 f1
    rw [ect] at n0
    have := b1.1
    rw [hS.nv d0 (by omega) f0]; exact b5 n f n0 n1 f0 f1
  · intro n n0 n1
    rw [ect] at n0
    have := b1.1
    rw [hS.cp d0 (by omega) (by omega), hS.cp d0 (by omega) (by omega), hS.cp d0 (by omega) (by omega)]; exact b6 n n0 n1
theorem Rs_merge {B : Int} {s : Sp} {p : Mm} (hR : Rs x 0 r) (hS : CS x (3 * 0) 0 True r B s p) (hMW : MW s) : Rs p 0 s.1 ∧ Fo (fun o => o = 0) x p := by
  obtain ⟨al, vs, a, ps, rfl, hRB, hK, hM, hV⟩ := hS
  obtain ⟨hW, hH, hN, hB, hLs, hC⟩ := hR
  have hb := hW.1
  have ht := hW.2.1
  have h60 := hb.2.2.2.1
  have hf := hb.2.1
  refine ⟨⟨⟨hM.wb hb, hM.wt hb ht, hMW.1, ?_, hV, fun d d0 d1 => WL_Sm hM.1 d0 d1 hf.1 (hW.2.2.2.2.2.1 d d0 d1), hMW.2⟩, ?_, ?_, ?_, ?_, ?_⟩, ?_⟩
  · intro n n0 n1
    rw [hM.1 (131 + n) (by omega) (by omega) (by omega) (by omega)]; exact hW.2.2.2.1 n n0 n1
  · unfold RH
    rw [mk_1C (by decide) (by decide) (by decide), mk_1C (by decide) (by decide) (by decide), hM.1.tk, hM.1.fc, hM.1.cc]
    refine ⟨hH.1, hH.2.1, hH.2.2.1, fun f f0 f1 => ?_⟩
    rw [hM.1.ru f0 (by omega)]; exact hH.2.2.2 f f0 f1
  · have := RN_mk (b := 3 * 0) (l := 0) (al := al) (vs := vs) (a := a) (ps := ps) hN
    refine ⟨by rw [hM.1.ct]; exact this.1, fun n n0 n1 => ?_, fun n n0 n1 => ?_⟩
    · rw [hM.1.ct] at n1
      obtain ⟨g1, g2, g3⟩ := this.2.1 n n0 n1
      rw [hM.1.pa n0 (by omega), hM.1.lb n0 (by omega)]
      refine ⟨g1, g2, fun m m0 m1 => ?_⟩
      rw [hM.1.wi m0 hb ht n1]; exact g3 m m0 m1
    · rw [this.2.2 n n0 n1, hM.1.ct]
      by_cases q : n < qct r
      · rw [hM.1.rc n0 (by omega)]
      · rw [decide_eq_false q]; rfl
  · rw [mk_al, mk_vs]; exact hRB
  · intro d d0 d1
    have hL := hLs d d0 d1
    have eln : qln s.1 d = qln r d := hM.1 _ (by omega) (by omega) (by omega) (by omega)
    have ehl : qhl s.1 d = qhl r d := by unfold qhl; rw [eln]
    unfold RLs
    rw [mk_1C (C := 3) (by decide) (by decide) (by decide), mk_2C (C := 3) (by decide), mk_2j (C := 0) (j := 3 * (5 * 0 + d.toNat) + 1) (by omega), mk_2j (C := 0) (j := 3 * (5 * 0 + d.toNat) + 2) (by omega), mk_1v (j := 3 * (5 * 0 + d.toNat) + 1) (by omega), mk_1v (j := 3 * (5 * 0 + d.toNat) + 2) (by omega), ehl, eln, show qle s.1 d = qle r d from hM.1 _ (by omega) (by omega) (by omega) (by omega), show qlx s.1 d = qlx r d from hM.1 _ (by omega) (by omega) (by omega) (by omega), hM.1.ct]
    refine ⟨hL.1, fun w => ?_⟩
    obtain ⟨l1, lr, lv⟩ := hL.2 w
    refine ⟨l1, fun n n0 n1 => ?_, fun n f n0 n1 f0 f1 => ?_⟩
    · rw [hM.1.cp d0 (by omega) n0, hM.1.cp d0 (by omega) n0, hM.1.cp d0 (by omega) n0]; exact lr n n0 n1
    · rw [hM.1.cp d0 (by omega) n0, hM.1.cp d0 (by omega) n0, hM.1.ov d0 n0 f0, hM.1.nv d0 n0 f0]; exact lv n f n0 n1 f0 f1
  · rw [mk_a, mk_ps]; exact hK.2.2 trivial
  · exact Fg.mk (own_t (Or.inl rfl)) (own_t (Or.inr rfl)) (own_s (by omega)) (own_s (by omega))
theorem CX_of (hR : Rs x 0 r) {b : Nat} {c : Int} (hb3 : b % 3 = 0) (c0 : 0 ≤ c) (c1 : c < 5) (ql : qhl r c = true) : CX x b c r := ⟨hb3, c0, c1, hR.1.1, hR.1.2.1, (hR.1.2.2.2.2.2.1 c c0 c1 ql).2.2.2.1, ql, hR.2.2.1, hR.2.1, hR.2.2.2.2.1 c c0 c1⟩
/-- merge, and the lease's end, in the class -/
theorem k_mergeEnd (hz : 50000 ≤ z) (hR : Rs x 0 r) {c : Int} (c0 : 0 ≤ c) (c1 : c < 5) (ql : qhl r c = true) : Tt (F_X6_merge z 0 c (3 * 0) 0 x) (fun p => p.1 = (qm3 c (r, 0)).2 ∧ Rs (pj p.2 3 (5 * 0 + c.toNat) (up (p.2.1 3 (5 * 0 + c.toNat)) 0 0)) 0 (qen (qm3 c (r, 0)).1 c) ∧ Fo (fun o => o = 0) x (pj p.2 3 (5 * 0 + c.toNat) (up (p.2.1 3 (5 * 0 + c.toNat)) 0 0))) := by
  have hk := hR.1.1.2.2.2.2
  have hC := hR.2.2.2.2.2
  have hX := CX_of hR (b := 3 * 0) rfl c0 c1 ql
  refine (k_merge (real := True) (l := 0) hz hX hR.2.2.2.1 ⟨by rw [hC.1]; omega, by rw [hC.1]; omega, fun _ => hC⟩ hR.1.2.2.2.2.1).mono ?_
  rintro ⟨v, p⟩ ⟨e, hS⟩
  have hMW := MW.m3 (c := c) hR.1.2.2.1 hR.1.2.2.2.2.2.2 hR.1.1 hR.1.2.1 c0 hX.2.2.2.2.2.1.1
  obtain ⟨h1, h2⟩ := Rs_merge hR hS hMW.2
  exact ⟨e, Rs_end c0 c1 h1, h2.pj (own_l (by omega))⟩
theorem p_commit (hz : 50000 ≤ z) (h : Inv x) (c : Int) : Pr [sI, sS] (F_X7_commit z 0 c) (F_X8_commit z 0 c) x := by
  have hb := h.1.1.1
  have ht := h.1.1.2.1
  have hcc := hb.2.2.1
  by_cases qc : 0 ≤ c ∧ c < qcc (x.1 27 0)
  · by_cases ql : qhl (x.1 27 0) c = true
    · obtain ⟨y, e, hHI, hRy, hF⟩ := k_push (z := z) hz h.2.2.2.1 h.1 h.2.1
      obtain ⟨⟨v, p⟩, e2, hv, hR1, hF1⟩ := k_mergeEnd (z := z) hz hRy qc.1 (by omega) ql
      simp only at hv hR1 hF1
      refine Pr.chgM h hF hHI hF1 hR1 (zr_qen (zr_m3 h.2.1 hb) qc.1 (by omega)) (b := v) (d := (qm3 c (x.1 27 0, 0)).2) ?_ (fun q => ?_)
      · unfold F_X7_commit
        rw [rc_t h qc, bndXl, rl_t h qc.1 (by omega) ql, bndXl, e, sbind, e2, sbind, ckI_t qc.1 (by omega), sbind, wI_pj]
      · have q27 := q 27 0 (by omega)
        generalize pj p 3 (5 * 0 + c.toNat) (up (p.1 3 (5 * 0 + c.toNat)) 0 0) = y1 at *
        unfold F_X8_commit
        have e1 := e_merge z hz c (rm y1 (hrec (x.1 28 0) (x.1 8 0 12) (x.1 27 0)) (enx (x.1 8 0 12))) (by rw [rm_C (by decide) (by decide), q27]; exact hb) (by rw [rm_C (by decide) (by decide), q27]; exact ht) qc.1 (by omega) (by rw [rm_C (by decide) (by decide), q27]; exact (h.1.1.2.2.2.2.2.1 c qc.1 (by omega) ql).2.2.2.1.1)
        rw [rm_C (by decide) (by decide), q27] at e1
        rw [sbind, th_w, nC q27 hb, sbind, e_failsT qc, sbind, it0, nH q27 qc.1 (by omega), sbind, e_failst ql, sbind, it0, n_rec hz h q, sbind, e1, sbind, ← hv]
        rfl
    · refine Pr.get h (y := .inr sS) ?_ (b := 0) (t := 2) ?_ (Ok.x rfl (by decide))
      · unfold F_X7_commit
        rw [rc_t h qc, bndXl, rl_f h qc.1 (by omega) (by simpa using ql), bndXr]
      · unfold F_X8_commit
        rw [sbind, th_w, mC h, sbind, e_failsT qc, sbind, it0, mH qc.1 (by omega), sbind, e_failsf (by simpa using ql), sbind, it1, th_th]
  · refine Pr.get h (y := .inr sI) ?_ (b := 0) (t := 1) ?_ (Ok.x rfl (by decide))
    · unfold F_X7_commit
      rw [rc_f h qc, bndXr]
    · unfold F_X8_commit
      rw [sbind, th_w, mC h, sbind, e_failsF qc, sbind, it1, th_th]
end
