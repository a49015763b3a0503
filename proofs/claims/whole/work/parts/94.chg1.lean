/-! renew, setField, removeNode. -/
section
variable {z : Nat} {x y : Mm} {r : Nat → Int}
theorem nC (e : y.1 27 0 = r) (hb : Wb r) (v : Int) : F_X8_isClient z 0 v (th y 0) = some (b2i (decide (0 ≤ v ∧ v < qcc r))) := by
  have E := e_isClient z v (th y 0) (by rw [th_C (by decide), e]; exact hb)
  rw [th_C (by decide), e] at E; exact E
theorem nN (e : y.1 27 0 = r) (hb : Wb r) (v : Int) : F_X8_isNode z 0 v (th y 0) = some (b2i (decide (0 ≤ v ∧ v < qct r))) := by
  have E := e_isNode z v (th y 0) (by rw [th_C (by decide), e]; exact hb)
  rw [th_C (by decide), e] at E; exact E
theorem nF (e : y.1 27 0 = r) (hb : Wb r) (v : Int) : F_X8_isField z 0 v (th y 0) = some (b2i (decide (0 ≤ v ∧ v < qfc r))) := by
  have E := e_isField z v (th y 0) (by rw [th_C (by decide), e]; exact hb)
  rw [th_C (by decide), e] at E; exact E
theorem nH (e : y.1 27 0 = r) {c t : Int} (c0 : 0 ≤ c) (c1 : c < 5) : F_X8_hasLease z 0 c (th y t) = some (b2i (qhl r c)) := by
  have E := e_hasLease z c (th y t) c0 c1
  rw [th_C (by decide), e] at E; exact E
theorem n_is (e : y.1 27 0 = r) {c p n t : Int} (h0 : 0 ≤ c) (h1 : c < 5) (h2 : 0 ≤ p) (h3 : 0 ≤ n) (h4 : p + n < 900) : F_X8_is z 0 c p n (th y t) = some (b2i (qcp r c p n)) := by
  have E := e_is z c p n (th y t) h0 h1 h2 h3 h4
  rw [th_C (by decide), e] at E; exact E
/-- the class's memory y has the model's cells of x -/
def Eqm (x y : Mm) : Prop := ∀ C j, (C = 8 ∨ C = 26 ∨ C = 27 ∨ C = 28) → y.1 C j = x.1 C j
theorem n_rec (hz : 50000 ≤ z) (h : Inv x) (q : Eqm x y) : F_X8_record z 0 (th y 0) = some (rm y (hrec (x.1 28 0) (x.1 8 0 12) (x.1 27 0)) (enx (x.1 8 0 12))) := by
  have he := h.2.2.2.1.2.1
  have E := e_rec (z := z) hz (y := y) (by rw [q 8 0 (by omega)]; exact he.1) (by rw [q 8 0 (by omega)]; exact he.2)
  rw [q 8 0 (by omega), q 27 0 (by omega), q 28 0 (by omega)] at E; exact E
theorem Pr.chg {L : List String} {F7 : Mm → Option ((Int ⊕ String) × Mm)} {F8 : Mm → Option (Int × Mm)} {y1 : Mm} {b : Int} {r' : Nat → Int} (h : Inv x) (hF : Fo (fun o => (2 ≤ o ∧ o < 10) ∨ o = 102) x y) (hH : HI y (hrec (x.1 28 0) (x.1 8 0 12) (x.1 27 0)) (enx (x.1 8 0 12))) (hF1 : Fo (fun o => o = 0) y y1) (hR : Rs y1 0 r') (hZ : Zr r') (e7 : F7 x = some (.inl b, y1)) (e8 : Eqm x y1 → F8 y1 = some (b, pj (rm y1 (hrec (x.1 28 0) (x.1 8 0 12) (x.1 27 0)) (enx (x.1 8 0 12))) 27 0 r')) : Pr L F7 F8 x := by
  have hq : Eqm x y1 := fun C j q => ((fo_o hF1 (C := C) (j := j) (by omega) (by omega) (by omega) (by omega)).1).trans ((Inv_tr h hF).1 C j q)
  have e80 : y1.1 8 0 = x.1 8 0 := hq 8 0 (by omega)
  refine ⟨_, _, _, _, e7, e8 hq, Inv_end h hF hH hF1 hR hZ (m' := (rm y1 (hrec (x.1 28 0) (x.1 8 0 12) (x.1 27 0)) (enx (x.1 8 0 12))).1 8 0) ?_ ?_, ?_⟩
  · have : (pj (rm y1 (hrec (x.1 28 0) (x.1 8 0 12) (x.1 27 0)) (enx (x.1 8 0 12))) 27 0 r').1 8 0 = (rm y1 (hrec (x.1 28 0) (x.1 8 0 12) (x.1 27 0)) (enx (x.1 8 0 12))).1 8 0 := pj_C (by decide)
    rw [← this, pj_id]
  · rw [rm_8, up_s, up_n (by decide), up_n (by decide), up_n (by decide), up_n (by decide), e80]; exact ⟨rfl, rfl, rfl⟩
  · rw [pj_C (by decide), rm_8, up_n (by decide), up_s]; exact Ok.v
theorem WL_cp {r r1 : Nat → Int} {c : Int} (h : WL r c) (hf0 : 0 ≤ qfc r) (ehl : qhl r1 c = qhl r c) (eln : qln r1 c = qln r c) (ele : qhl r c = true → 0 ≤ qle r1 c ∧ qle r1 c ≤ 20000) (elx : qlx r1 c = qlx r c) (ect : qct r1 = qct r) (efc : qfc r1 = qfc r) (E : ∀ i : Int, 866 + 900 * c ≤ i → i < 866 + 900 * c + 900 → r1 i.toNat = r i.toNat) (h60 : 1 ≤ qct r) : WL r1 c := by
  intro w
  rw [ehl] at w
  obtain ⟨b1, b2, b3, b4, b5, b6⟩ := h w
  have ecp : ∀ p n : Int, 0 ≤ p → 0 ≤ n → p + n < 900 → qcp r1 c p n = qcp r c p n := fun p n p0 n0 n1 => by unfold qcp; rw [E _ (by omega) (by omega)]
  have eov : ∀ n f : Int, 0 ≤ n → n < 60 → 0 ≤ f → f < 6 → qov r1 c n f = qov r c n f := fun n f n0 n1 f0 f1 => E _ (by omega) (by omega)
  have env : ∀ n f : Int, 0 ≤ n → n < 60 → 0 ≤ f → f < 6 → qnv r1 c n f = qnv r c n f := fun n f n0 n1 f0 f1 => E _ (by omega) (by omega)
  refine ⟨by rw [eln, ect]; exact b1, ele w, by rw [elx]; exact b3, ⟨?_, ?_, ?_⟩, ?_, ?_⟩
  · rw [ecp _ _ (by omega) (by omega) (by omega)]; exact b4.1
  · intro n f n0 n1 f0 f1
    rw [efc] at f0
    rw [eov n f n0 n1 (by omega) f1, env n f n0 n1 (by omega) f1]; exact b4.2.1 n f n0 n1 f0 f1
  · intro n n0 n1
    rw [ecp _ _ (by omega) n0 (by omega), ecp _ _ (by omega) n0 (by omega), ecp _ _ (by omega) n0 (by omega)]; exact b4.2.2 n n0 n1
  · intro n f n0 n1 f0 f1
    rw [ect] at n0
    rw [env n f (by omega) n1 f0 f1]; exact b5 n f n0 n1 f0 f1
  · intro n n0 n1
    rw [ect] at n0
    rw [ecp _ _ (by omega) (by omega) (by omega), ecp _ _ (by omega) (by omega) (by omega), ecp _ _ (by omega) (by omega) (by omega)]; exact b6 n n0 n1
theorem p_renew (hz : 50000 ≤ z) (h : Inv x) (c t : Int) : Pr [sI, sA, sS] (F_X7_renew z 0 c t) (F_X8_renew z 0 c t) x := by
  have hb := h.1.1.1
  have hcc := hb.2.2.1
  have h601 := hb.2.2.2.1
  have htk : 0 ≤ x.1 27 0 (0 : Int).toNat ∧ x.1 27 0 (0 : Int).toNat ≤ 9999 := hb.1
  have hH := h.1.2.1
  have h60 : x.1 6 0 0 = x.1 27 0 (0 : Int).toNat := hH.1
  by_cases qc : 0 ≤ c ∧ c < qcc (x.1 27 0)
  · by_cases qt : 1 ≤ t ∧ t ≤ 100
    · have hL := h.1.2.2.2.2.1 c qc.1 (by omega)
      by_cases ql : qhl (x.1 27 0) c = true
      · obtain ⟨⟨g1, g2, g3⟩, glr, glv⟩ := hL.2 ql
        have hwl := h.1.1.2.2.2.2.2.1 c qc.1 (by omega)
        by_cases qe : x.1 27 0 (0 : Int).toNat + t ≤ qle (x.1 27 0) c
        · refine Pr.get h (y := .inr sS) ?_ (b := 0) (t := 3) ?_ (Ok.x rfl (by decide))
          · unfold F_X7_renew
            rw [rc_t h qc, bndXl, rqT_t qt.1 qt.2, bndXl, rl_t h qc.1 (by omega) ql, bndXl, h60, ckR_t (by omega) (by omega), ckI_t qc.1 (by omega), g2, if_neg (by omega)]
          · unfold F_X8_renew F_X8_renew_71 F_X8_renew_72
            rw [sbind, th_w, mC h, sbind, e_failsT qc, sbind, it0, e_in, sbind, e_failsT qt, sbind, it0, mH qc.1 (by omega), sbind, ib, if_neg (by rw [ql]; decide)]
            simp only [th_C (show (27 : Nat) ≠ 8 by decide)]
            rw [ckI_t (by omega) (by omega), ckR_t (by omega) (by omega), ckR_t (by omega) (by omega), ckR_t (by omega) (by omega), ckR_t (by omega) (by omega), ckI_t (by omega) (by omega), if_pos (show x.1 27 0 (0 : Int).toNat + t ≤ x.1 27 0 (611 + 3 * c + 1).toNat from qe), e_fails0, sbind, it1, th_th]
        · obtain ⟨y, e, hHI, hRy, hF⟩ := k_push (z := z) hz h.2.2.2.1 h.1 h.2.1
          have hS : Slc (x.1 27 0) (up (x.1 27 0) (611 + 3 * c + 1).toNat (x.1 27 0 (0 : Int).toNat + t)) c := fun i i0 i1 i2 => up_i i0 (by omega) (by omega)
          have eln : qln (up (x.1 27 0) (611 + 3 * c + 1).toNat (x.1 27 0 (0 : Int).toNat + t)) c = qln (x.1 27 0) c := up_i (by omega) (by omega) (by omega)
          have ehl : qhl (up (x.1 27 0) (611 + 3 * c + 1).toNat (x.1 27 0 (0 : Int).toNat + t)) c = qhl (x.1 27 0) c := by unfold qhl; rw [eln]
          have ele : qle (up (x.1 27 0) (611 + 3 * c + 1).toNat (x.1 27 0 (0 : Int).toNat + t)) c = x.1 27 0 (0 : Int).toNat + t := up_e rfl
          have elx : qlx (up (x.1 27 0) (611 + 3 * c + 1).toNat (x.1 27 0 (0 : Int).toNat + t)) c = qlx (x.1 27 0) c := up_i (by omega) (by omega) (by omega)
          have E : ∀ i : Int, 866 ≤ i → up (x.1 27 0) (611 + 3 * c + 1).toNat (x.1 27 0 (0 : Int).toNat + t) i.toNat = x.1 27 0 i.toNat := fun i i0 => up_i (by omega) (by omega) (by omega)
          have ect := hS.ct qc.1 (by omega)
          have efc := hS.fc qc.1 (by omega)
          have hZ : Zr (up (x.1 27 0) (611 + 3 * c + 1).toNat (x.1 27 0 (0 : Int).toNat + t)) := zr_up h.2.1 (by omega) (by omega)
          generalize hr' : up (x.1 27 0) (611 + 3 * c + 1).toNat (x.1 27 0 (0 : Int).toNat + t) = r' at *
          have hFy : Fg (fun C j => (C = 3 ∧ j = 5 * 0 + c.toNat) ∨ ((C = 0 ∨ C = 23) ∧ (j = 3 * (5 * 0 + c.toNat) + 1 ∨ j = 3 * (5 * 0 + c.toNat) + 2))) y (pj y 3 (5 * 0 + c.toNat) (up (y.1 3 (5 * 0 + c.toNat)) 2 (x.1 27 0 (0 : Int).toNat + t))) := Fg.rf.pj (Or.inl ⟨rfl, rfl⟩)
          have hR1 : Rs (pj y 3 (5 * 0 + c.toNat) (up (y.1 3 (5 * 0 + c.toNat)) 2 (x.1 27 0 (0 : Int).toNat + t))) 0 r' := by
            refine Rs_Slc hS qc.1 (by omega) hRy hFy (WL_cp hwl hb.2.1.1 ehl eln (fun _ => by rw [ele]; omega) elx ect efc (fun i i0 _ => E i (by omega)) h601.1) ?_
            obtain ⟨L1, L2⟩ := hRy.2.2.2.2.1 c qc.1 (by omega)
            obtain ⟨⟨l1, l2, l3⟩, lr, lv⟩ := L2 ql
            refine ⟨by rw [pj_s, up_n (by decide), ehl]; exact L1, fun w => ⟨⟨?_, ?_, ?_⟩, fun n n0 n1 => ?_, fun n f n0 n1 f0 f1 => ?_⟩⟩
            · rw [pj_s, up_n (by decide), eln]; exact l1
            · rw [pj_s, up_s, ele]
            · rw [pj_s, up_n (by decide), elx]; exact l3
            · rw [pj_2, ect]
              have ecp : ∀ p : Int, 0 ≤ p → qcp r' c p n = qcp (x.1 27 0) c p n := fun p p0 => by unfold qcp; rw [E _ (by omega)]
              rw [ecp _ (by omega), ecp _ (by omega), ecp _ (by omega)]; exact lr n n0 n1
            · have ecp : ∀ p : Int, 0 ≤ p → qcp r' c p n = qcp (x.1 27 0) c p n := fun p p0 => by unfold qcp; rw [E _ (by omega)]
              rw [pj_C (by decide), pj_C (by decide), ecp _ (by omega), ecp _ (by omega), show qov r' c n f = qov (x.1 27 0) c n f from E _ (by omega), show qnv r' c n f = qnv (x.1 27 0) c n f from E _ (by omega)]
              exact lv n f n0 n1 f0 f1
          refine Pr.chg h hF hHI (fo_pj (own_l (by omega))) hR1 hZ (b := x.1 27 0 (0 : Int).toNat + t) ?_ (fun q => ?_)
          · unfold F_X7_renew
            rw [rc_t h qc, bndXl, rqT_t qt.1 qt.2, bndXl, rl_t h qc.1 (by omega) ql, bndXl, h60, ckR_t (by omega) (by omega), ckI_t qc.1 (by omega), g2, if_pos (by omega), e, sbind, ckI_t qc.1 (by omega), sbind, wI_pj]
          · have q27 := q 27 0 (by omega)
            generalize pj y 3 (5 * 0 + c.toNat) (up (y.1 3 (5 * 0 + c.toNat)) 2 (x.1 27 0 (0 : Int).toNat + t)) = y1 at *
            unfold F_X8_renew F_X8_renew_72
            rw [sbind, th_w, nC q27 hb, sbind, e_failsT qc, sbind, it0, e_in, sbind, e_failsT qt, sbind, it0, nH q27 qc.1 (by omega), sbind, ib, if_neg (by rw [ql]; decide)]
            simp only [th_C (show (27 : Nat) ≠ 8 by decide), q27]
            rw [ckI_t (by omega) (by omega), ckR_t (by omega) (by omega), ckR_t (by omega) (by omega), ckR_t (by omega) (by omega), ckR_t (by omega) (by omega), ckI_t (by omega) (by omega), if_neg (show ¬ (x.1 27 0 (0 : Int).toNat + t ≤ x.1 27 0 (611 + 3 * c + 1).toNat) from qe), e_fails1, sbind, it0, n_rec hz h q, sbind, ckR_t (by omega) (by omega), ckR_t (by omega) (by omega), ckR_t (by omega) (by omega), ckI_t (by omega) (by omega), rm_C (by decide) (by decide), q27, ckR_t (by omega) (by omega), ckI_t (by omega) (by omega), sbind, wI_pj, rm_C (by decide) (by decide), q27, hr', pj_s]
            have e0 : r' (0 : Int).toNat = x.1 27 0 (0 : Int).toNat := hS.sm qc.1 (by omega) (by omega) (by omega)
            rw [ckI_t (by omega) (by omega), e0, ckR_t (by omega) (by omega)]
      · refine Pr.get h (y := .inr sS) ?_ (b := 0) (t := 3) ?_ (Ok.x rfl (by decide))
        · unfold F_X7_renew
          rw [rc_t h qc, bndXl, rqT_t qt.1 qt.2, bndXl, rl_f h qc.1 (by omega) (by simpa using ql), bndXr]
        · unfold F_X8_renew F_X8_renew_71 F_X8_renew_72
          rw [sbind, th_w, mC h, sbind, e_failsT qc, sbind, it0, e_in, sbind, e_failsT qt, sbind, it0, mH qc.1 (by omega), sbind, ib, if_pos (by simpa using ql), e_fails0, sbind, it1, th_th]
    · refine Pr.get h (y := .inr sA) ?_ (b := 0) (t := 2) ?_ (Ok.x rfl (by decide))
      · unfold F_X7_renew
        rw [rc_t h qc, bndXl, rqT_f qt, bndXr]
      · unfold F_X8_renew
        rw [sbind, th_w, mC h, sbind, e_failsT qc, sbind, it0, e_in, sbind, e_failsF qt, sbind, it1, th_th]
  · refine Pr.get h (y := .inr sI) ?_ (b := 0) (t := 1) ?_ (Ok.x rfl (by decide))
    · unfold F_X7_renew
      rw [rc_f h qc, bndXr]
    · unfold F_X8_renew
      rw [sbind, th_w, mC h, sbind, e_failsF qc, sbind, it1, th_th]
end
