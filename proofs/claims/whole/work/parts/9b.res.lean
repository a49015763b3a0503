/-! resolve. -/
section
variable {z : Nat} {x y : Mm} {r : Nat → Int}
theorem k_drop {b l : Nat} {al : Nat → BitVec 64} {vs a ps : Nat → Int} {d : Int} (d0 : 0 ≤ d) (d1 : d < a 0) (d2 : a 0 ≤ 40) : F_X1_drop z l d (mk x b l al vs a ps) = some (mk x b l al vs (up a 0 (a 0 - 1)) (cdr ps d (a 0))) := by
  unfold F_X1_drop
  rw [mk_a, ckR_t (by omega) (by omega), ckR_t (by omega) (by omega), ckR_t (by omega) (by omega), ckR_t (by omega) (by omega), ckR_t (by omega) (by omega), ckR_t (by omega) (by omega), ckC_t (by omega) (by omega) (by omega) (by omega) (by omega), sbind, wC_pj, mk_ps, mk_pps, mk_a, ckR_t (by omega) (by omega), sbind, wI_pj, mk_a, mk_pa]
  rfl
theorem KC_drop {a ps : Nat → Int} {d : Int} (h : RC a ps r) (d0 : 0 ≤ d) (d1 : d < qkc r) (hk : qkc r ≤ 40) : KC True (up a 0 (a 0 - 1)) (cdr ps d (a 0)) (qdr r d) := by
  have h1 := h.1
  refine ⟨by rw [up_s]; omega, by rw [up_s]; omega, fun _ => ?_⟩
  rw [h1]
  have := RC_drop h d0 d1
  rw [h1] at this; exact this
/-- what is left of a State when its trunk or list changed -/
theorem Rs_mk {al : Nat → BitVec 64} {vs a ps r' : Nat → Int} (hR : Rs y 0 r) (hB : RB al vs r') (hK : KC True a ps r') (hS : Sm r r') (hk : 0 ≤ qkc r' ∧ qkc r' ≤ 40) (hV : Wv r') (ha : Wa r') (hw : WK r') : Rs (mk y (3 * 0) 0 al vs a ps) 0 r' ∧ Fo (fun o => o = 0) y (mk y (3 * 0) 0 al vs a ps) :=
  Rs_merge (B := 0) (s := (r', 0)) hR ⟨al, vs, a, ps, rfl, hB, hK, ⟨hS, hk, by show (0 : Int) ≤ 0; omega, by show (0 : Int) ≤ 0; omega⟩, hV⟩ ⟨ha, hw⟩
theorem zr_qdr' {d : Int} (h : Zr r) (hb : Wb r) : Zr (qdr r d) := zr_qdr h hb.2.2.2.2.2
theorem p_resolve (hz : 50000 ≤ z) (h : Inv x) (d v2 : Int) : Pr [sI, sS] (F_X7_resolve z 0 d v2) (F_X8_resolve z 0 d v2) x := by
  have hW := h.1.1
  obtain ⟨hb, ht, ha, hr, hv, hl, hk⟩ := hW
  have hkc : 0 ≤ x.1 27 0 (4 : Int).toNat ∧ x.1 27 0 (4 : Int).toNat ≤ 40 := hb.2.2.2.2
  have hkc' : 0 ≤ qkc (x.1 27 0) ∧ qkc (x.1 27 0) ≤ 40 := hb.2.2.2.2
  have h60 := hb.2.2.2.1
  have hfc := hb.2.1
  have hC := h.1.2.2.2.2.2
  have hC1 : x.1 1 0 0 = x.1 27 0 (4 : Int).toNat := hC.1
  by_cases qd : 0 ≤ d ∧ d ≤ x.1 27 0 (4 : Int).toNat - 1
  · have qd1 : d < qkc (x.1 27 0) := by show d < x.1 27 0 (4 : Int).toNat; omega
    obtain ⟨w1, w2⟩ := hk d qd.1 qd1
    have part : ∀ {u : Mm}, u.1 24 0 = x.1 24 0 ∨ RC (u.1 1 0) (u.1 24 0) (x.1 27 0) → ∀ w : Int, 0 ≤ w → w < 6 → F_X1_part z 0 d w u = some (qkp (x.1 27 0) d w) := by
      intro u hu w w0 w1
      unfold F_X1_part
      rw [ckR_t (by omega) (by omega), ckR_t (by omega) (by omega), ckI_t (by omega) (by omega)]
      rcases hu with hu | hu
      · rw [hu, hC.2 d w qd.1 qd1 w0 w1]
      · rw [hu.2 d w qd.1 qd1 w0 w1]
    have p7 : F_X7_requireConflict z 0 d x = some (.inl (), x) := rqK_t qd.1 (by omega)
    have hacc : F_X6_canAccept z 0 d x = some (b2i ((decide (qkp (x.1 27 0) d 0 = 0) || decide (qkp (x.1 27 0) d 0 = 4)) && qal (x.1 27 0) (qkp (x.1 27 0) d 1))) := by
      unfold F_X6_canAccept F_X6_canAccept_19
      rw [part (Or.inl rfl) 0 (by omega) (by omega), sbind, part (Or.inl rfl) 1 (by omega) (by omega), sbind, k_has z x w1.1 (by omega), sbind, ib, hal' h _ w1.1 (by omega), decide_eq_true w1.2, Bool.true_and]
      by_cases q0 : qkp (x.1 27 0) d 0 = 0
      · rw [if_pos q0, decide_eq_true q0]; cases qal (x.1 27 0) (qkp (x.1 27 0) d 1) <;> rfl
      · rw [if_neg q0, decide_eq_false q0]
        by_cases q4 : qkp (x.1 27 0) d 0 = 4
        · rw [if_pos q4, decide_eq_true q4]; cases qal (x.1 27 0) (qkp (x.1 27 0) d 1) <;> rfl
        · rw [if_neg q4, decide_eq_false q4]; rfl
    by_cases qok : v2 = 0 ∨ ((decide (qkp (x.1 27 0) d 0 = 0) || decide (qkp (x.1 27 0) d 0 = 4)) && qal (x.1 27 0) (qkp (x.1 27 0) d 1)) = true
    · obtain ⟨y, e, hHI, hRy, hF⟩ := k_push (z := z) hz h.2.2.2.1 h.1 h.2.1
      have hCy := hRy.2.2.2.2.2
      have hBy := hRy.2.2.2.1
      have e7 : F_X7_resolve z 0 d v2 x = F_X7_resolve_30 z 0 d v2 x := by
        unfold F_X7_resolve
        rw [p7, bndXl]
        by_cases q : v2 = 0
        · rw [if_pos q]
        · rw [if_neg q, hacc, sbind, ib]
          rcases qok with w | w
          · exact absurd w q
          · rw [if_neg (by rw [w]; decide)]
      have e8 : ∀ u : Mm, u.1 27 0 = x.1 27 0 → F_X8_resolve z 0 d v2 u = F_X8_resolve_87 z 0 d v2 (626 + 6 * d) (qkp (x.1 27 0) d 0) (qkp (x.1 27 0) d 1) 1 0 (th u 0) := by
        intro u hu
        unfold F_X8_resolve
        have hAl := e_isAlive z (qkp (x.1 27 0) d 1) (th u 0) w1.1 (by omega)
        rw [th_C (by decide), hu] at hAl
        have k0 : x.1 27 0 (626 + 6 * d + 0).toNat = qkp (x.1 27 0) d 0 := rfl
        have k1 : x.1 27 0 (626 + 6 * d + 1).toNat = qkp (x.1 27 0) d 1 := rfl
        rw [sbind, th_w, th_C (by decide), hu, ckI_t (by omega) (by omega), ckR_t (by omega) (by omega), e_in, sbind, e_failsT qd, sbind, it0, ckR_t (by omega) (by omega), ckR_t (by omega) (by omega), ckR_t (by omega) (by omega), ckI_t (by omega) (by omega), ckR_t (by omega) (by omega), ckI_t (by omega) (by omega), th_C (by decide), hu, k0, k1]
        unfold F_X8_resolve_82 F_X8_resolve_73 F_X8_resolve_82 F_X8_resolve_86
        rw [hAl, sbind, ib]
        by_cases q : v2 = 0
        · rw [if_pos q]
        · rw [if_neg q]
          rcases qok with w | w
          · exact absurd w q
          · rw [Bool.and_eq_true, Bool.or_eq_true] at w
            have wa : ¬ (qal (x.1 27 0) (qkp (x.1 27 0) d 1) = false) := by rw [w.2]; decide
            by_cases q0 : qkp (x.1 27 0) d 0 = 0
            · rw [if_pos q0, if_neg wa]
            · rw [if_neg q0]
              have q4 : qkp (x.1 27 0) d 0 = 4 := by
                rcases w.1 with w1 | w1
                · exact absurd (of_decide_eq_true w1) q0
                · exact of_decide_eq_true w1
              rw [if_pos q4, if_neg wa]
      have hy0 := mk_id (x := y) (b := 3 * 0) (l := 0)
      by_cases q : v2 = 0
      · obtain ⟨hR1, hF1⟩ := Rs_mk hRy (hBy.obs (So_qdr hb qd.1) h60.2) (KC_drop hCy qd.1 qd1 hkc'.2) (Sm_qdr hb qd.1) (by rw [qkc_qdr]; omega) (hv.So hb (So_qdr hb qd.1)) (ha.So hb ht (So_qdr hb qd.1)) (hk.drop hb qd.1)
        refine Pr.chg h hF hHI hF1 hR1 (zr_qdr' h.2.1 hb) (b := qkc (x.1 27 0) - 1) ?_ (fun qm => ?_)
        · rw [e7]
          unfold F_X7_resolve_30 F_X7_resolve_53
          have ed := k_drop (z := z) (x := y) (b := 3 * 0) (l := 0) (al := y.2 0 (3 * 0)) (vs := y.1 23 (3 * 0)) (a := y.1 1 0) (ps := y.1 24 0) (d := d) qd.1 (by rw [hCy.1]; exact qd1) (by rw [hCy.1]; omega)
          rw [← hy0] at ed
          rw [e, sbind, if_pos q, ed, sbind, mk_a, up_s, hCy.1]
        · rw [e8 _ (qm 27 0 (by omega))]
          have q27 := qm 27 0 (by omega)
          generalize mk y (3 * 0) 0 (y.2 0 (3 * 0)) (y.1 23 (3 * 0)) (up (y.1 1 0) 0 (y.1 1 0 0 - 1)) (cdr (y.1 24 0) d (y.1 1 0 0)) = y1 at *
          unfold F_X8_resolve_87 F_X8_resolve_140
          have ed := e_drop z hz d (rm y1 (hrec (x.1 28 0) (x.1 8 0 12) (x.1 27 0)) (enx (x.1 8 0 12))) (by rw [rm_C (by decide) (by decide), q27]; exact hb) qd.1 (by rw [rm_C (by decide) (by decide), q27]; exact qd1)
          rw [rm_C (by decide) (by decide), q27] at ed
          rw [e_fails1, sbind, it0, n_rec hz h qm, sbind, if_pos q, if_pos q, ed, sbind, ckI_t (by omega) (by omega), pj_s]
          rfl
      · have wok : ((decide (qkp (x.1 27 0) d 0 = 0) || decide (qkp (x.1 27 0) d 0 = 4)) && qal (x.1 27 0) (qkp (x.1 27 0) d 1)) = true := by
          rcases qok with w | w
          · exact absurd w q
          · exact w
        rw [Bool.and_eq_true, Bool.or_eq_true] at wok
        have pY : ∀ w : Int, 0 ≤ w → w < 6 → F_X1_part z 0 d w y = some (qkp (x.1 27 0) d w) := part (Or.inr hCy)
        by_cases q0 : qkp (x.1 27 0) d 0 = 0
        · obtain ⟨f0, f1⟩ := w2 q0
          generalize hr1 : up (x.1 27 0) (251 + 6 * qkp (x.1 27 0) d 1 + qkp (x.1 27 0) d 2).toNat (qkp (x.1 27 0) d 3) = r1
          have hS1 : Sm (x.1 27 0) r1 := by rw [← hr1]; exact Sm_up (by omega) (by omega)
          have hk1 : qkc r1 = qkc (x.1 27 0) := by rw [← hr1]; exact qkc_up (by omega) (by omega)
          have hb1 : Wb r1 := hS1.bb hb (by rw [hk1]; exact hkc')
          have ht1 : Wt r1 := hS1.tt hb ht
          have hBy1 := hBy.put (v := qkp (x.1 27 0) d 3) w1.1 (by omega) f0 (by omega) h60.2
          rw [hr1] at hBy1
          have ek : ∀ i : Int, i = 4 ∨ (626 ≤ i ∧ i < 866) → r1 i.toNat = (x.1 27 0) i.toNat := fun i hi => by rw [← hr1]; exact up_i (by omega) (by omega) (by omega)
          have hC1' : RC (y.1 1 0) (y.1 24 0) r1 := hCy.same hkc'.2 ek
          have hv1 : Wv r1 := by
            intro m g m0 m1 g0 g1
            rw [hS1.fc] at g0
            rw [← hr1, qtv_upv w1.1 m0 f0 (by omega) (by omega) g1, if_neg (by omega)]; exact hv m g m0 m1 g0 g1
          have ha1 : Wa r1 := by rw [← hr1]; exact ha.upv hb ht (by omega) (by omega)
          have hk1' : WK r1 := hk.same hkc'.2 (by rw [hS1.ct]; omega) hS1.fc ek
          have hZ1 : Zr r1 := by rw [← hr1]; exact zr_up h.2.1 (by omega) (by omega)
          obtain ⟨hR1, hF1⟩ := Rs_mk hRy (hBy1.obs (So_qdr hb1 qd.1) hb1.2.2.2.1.2) (KC_drop hC1' qd.1 (by rw [hk1]; exact qd1) (by rw [hk1]; exact hkc'.2)) (hS1.tr (Sm_qdr hb1 qd.1)) (by rw [qkc_qdr, hk1]; omega) (hv1.So hb1 (So_qdr hb1 qd.1)) (ha1.So hb1 ht1 (So_qdr hb1 qd.1)) (hk1'.drop hb1 qd.1)
          refine Pr.chg h hF hHI hF1 hR1 (zr_qdr' hZ1 hb1) (b := qkc (x.1 27 0) - 1) ?_ (fun qm => ?_)
          · rw [e7]
            unfold F_X7_resolve_30 F_X7_resolve_53 F_X6_accept
            have ed := k_drop (z := z) (x := y) (b := 3 * 0) (l := 0) (al := y.2 0 (3 * 0)) (vs := up (y.1 23 (3 * 0)) (qkp (x.1 27 0) d 1 * 6 + qkp (x.1 27 0) d 2).toNat (qkp (x.1 27 0) d 3)) (a := y.1 1 0) (ps := y.1 24 0) (d := d) qd.1 (by rw [hCy.1]; exact qd1) (by rw [hCy.1]; omega)
            have ep : pj y 23 (3 * 0) (up (y.1 23 (3 * 0)) (qkp (x.1 27 0) d 1 * 6 + qkp (x.1 27 0) d 2).toNat (qkp (x.1 27 0) d 3)) = mk y (3 * 0) 0 (y.2 0 (3 * 0)) (up (y.1 23 (3 * 0)) (qkp (x.1 27 0) d 1 * 6 + qkp (x.1 27 0) d 2).toNat (qkp (x.1 27 0) d 3)) (y.1 1 0) (y.1 24 0) := by
              have := mk_pvs (x := y) (b := 3 * 0) (l := 0) (al := y.2 0 (3 * 0)) (vs := y.1 23 (3 * 0)) (a := y.1 1 0) (ps := y.1 24 0) (vs' := up (y.1 23 (3 * 0)) (qkp (x.1 27 0) d 1 * 6 + qkp (x.1 27 0) d 2).toNat (qkp (x.1 27 0) d 3))
              rw [← hy0] at this; exact this
            rw [e, sbind, if_neg q, pY 1 (by omega) (by omega), sbind, pY 0 (by omega) (by omega), sbind, if_pos q0, pY 2 (by omega) (by omega), sbind, pY 3 (by omega) (by omega), sbind, k_put z y w1.1 (by omega) f0 (by omega), sbind, sbind, ep, ed, sbind, mk_a, up_s, hCy.1]
          · rw [e8 _ (qm 27 0 (by omega))]
            have q27 := qm 27 0 (by omega)
            generalize mk y (3 * 0) 0 (y.2 0 (3 * 0)) _ (up (y.1 1 0) 0 (y.1 1 0 0 - 1)) (cdr (y.1 24 0) d (y.1 1 0 0)) = y1 at *
            unfold F_X8_resolve_87 F_X8_resolve_140
            have k2 : x.1 27 0 (626 + 6 * d + 2).toNat = qkp (x.1 27 0) d 2 := rfl
            have k3 : x.1 27 0 (626 + 6 * d + 3).toNat = qkp (x.1 27 0) d 3 := rfl
            have ed := e_drop z hz d (pj (rm y1 (hrec (x.1 28 0) (x.1 8 0 12) (x.1 27 0)) (enx (x.1 8 0 12))) 27 0 r1) (by rw [pj_s]; exact hb1) qd.1 (by rw [pj_s, hk1]; exact qd1)
            rw [pj_s, pj_pj] at ed
            rw [e_fails1, sbind, it0, n_rec hz h qm, sbind, if_neg q, if_pos q0, ckR_t (by omega) (by omega), ckR_t (by omega) (by omega), ckR_t (by omega) (by omega), ckI_t (by omega) (by omega), rm_C (C := 27) (by decide) (by decide), q27, k2, k3, ckR_t (by omega) (by omega), ckR_t (by omega) (by omega), ckI_t (by omega) (by omega), ckI_t (by omega) (by omega), sbind, wI_pj, rm_C (C := 27) (by decide) (by decide), q27, hr1, if_neg q, if_neg (show ¬ qkp (x.1 27 0) d 0 = 4 from by omega), ed, sbind, ckI_t (by omega) (by omega), pj_s]
            show some (qkc r1 - 1, _) = _
            rw [hk1]
        · have q4 : qkp (x.1 27 0) d 0 = 4 := by
            rcases wok.1 with w | w
            · exact absurd (of_decide_eq_true w) q0
            · exact of_decide_eq_true w
          generalize hn : qkp (x.1 27 0) d 1 = n at *
          have hS1 : Sm (x.1 27 0) (qkl (x.1 27 0) n) := Sm_qki w1.1 h60.2
          have hk1 : qkc (qkl (x.1 27 0) n) = qkc (x.1 27 0) := qkc_qki w1.1
          have hb1 : Wb (qkl (x.1 27 0) n) := hS1.bb hb (by rw [hk1]; exact hkc')
          have ht1 : Wt (qkl (x.1 27 0) n) := hS1.tt hb ht
          have ek : ∀ i : Int, i = 4 ∨ (626 ≤ i ∧ i < 866) → qkl (x.1 27 0) n i.toNat = (x.1 27 0) i.toNat := fun i hi => qkl_k w1.1 h60.2 hi
          have hC1' : RC (y.1 1 0) (y.1 24 0) (qkl (x.1 27 0) n) := hCy.same hkc'.2 ek
          have hv1 : Wv (qkl (x.1 27 0) n) := by
            intro m g m0 m1 g0 g1
            rw [hS1.fc] at g0
            rw [qtv_qkl h60.2 w1.1 m0 (by omega)]; exact hv m g m0 m1 g0 g1
          have ha1 : Wa (qkl (x.1 27 0) n) := ha.kill hb ht w1.1
          have hk1' : WK (qkl (x.1 27 0) n) := hk.same hkc'.2 (by rw [hS1.ct]; omega) hS1.fc ek
          have hZ1 : Zr (qkl (x.1 27 0) n) := zr_qkl h.2.1 h60.2
          obtain ⟨bv, eb, hbv⟩ := k_below z hz hRy.2.2.1 hb w1.1 (show n < 60 by omega)
          have hBy1 := hBy.kill (v := bv) w1.1 h60.2 hbv
          obtain ⟨hR1, hF1⟩ := Rs_mk hRy (hBy1.obs (So_qdr hb1 qd.1) hb1.2.2.2.1.2) (KC_drop hC1' qd.1 (by rw [hk1]; exact qd1) (by rw [hk1]; exact hkc'.2)) (hS1.tr (Sm_qdr hb1 qd.1)) (by rw [qkc_qdr, hk1]; omega) (hv1.So hb1 (So_qdr hb1 qd.1)) (ha1.So hb1 ht1 (So_qdr hb1 qd.1)) (hk1'.drop hb1 qd.1)
          refine Pr.chgM h hF hHI hF1 hR1 (zr_qdr' hZ1 hb1) (b := qkc (x.1 27 0) - 1) (d := x.1 8 0 14) ?_ (fun qm => ?_)
          · rw [e7]
            unfold F_X7_resolve_30 F_X7_resolve_53 F_X6_accept
            have ed := k_drop (z := z) (x := y) (b := 3 * 0) (l := 0) (al := up (y.2 0 (3 * 0)) 0 ((y.2 0 (3 * 0) 0) &&& (bv ^^^ BitVec.ofInt 64 (-1)))) (vs := y.1 23 (3 * 0)) (a := y.1 1 0) (ps := y.1 24 0) (d := d) qd.1 (by rw [hCy.1]; exact qd1) (by rw [hCy.1]; omega)
            have ep : pl y 0 (3 * 0) (up (y.2 0 (3 * 0)) 0 ((y.2 0 (3 * 0) 0) &&& (bv ^^^ BitVec.ofInt 64 (-1)))) = mk y (3 * 0) 0 (up (y.2 0 (3 * 0)) 0 ((y.2 0 (3 * 0) 0) &&& (bv ^^^ BitVec.ofInt 64 (-1)))) (y.1 23 (3 * 0)) (y.1 1 0) (y.1 24 0) := by
              have := mk_pal (x := y) (b := 3 * 0) (l := 0) (al := y.2 0 (3 * 0)) (vs := y.1 23 (3 * 0)) (a := y.1 1 0) (ps := y.1 24 0) (al' := up (y.2 0 (3 * 0)) 0 ((y.2 0 (3 * 0) 0) &&& (bv ^^^ BitVec.ofInt 64 (-1))))
              rw [← hy0] at this; exact this
            rw [e, sbind, if_neg q, pY 1 (by omega) (by omega), sbind, pY 0 (by omega) (by omega), sbind, if_neg q0, hn, eb, sbind, sbind, sbind, wL_pl, ep, ed, sbind, mk_a, up_s, hCy.1]
          · rw [e8 _ (qm 27 0 (by omega))]
            have q27 := qm 27 0 (by omega)
            have q8 := qm 8 0 (by omega)
            generalize mk y (3 * 0) 0 _ (y.1 23 (3 * 0)) (up (y.1 1 0) 0 (y.1 1 0 0 - 1)) (cdr (y.1 24 0) d (y.1 1 0 0)) = y1 at *
            unfold F_X8_resolve_87 F_X8_resolve_140
            have hid := mS_id (x := rm y1 (hrec (x.1 28 0) (x.1 8 0 12) (x.1 27 0)) (enx (x.1 8 0 12)))
            have h14 : (rm y1 (hrec (x.1 28 0) (x.1 8 0 12) (x.1 27 0)) (enx (x.1 8 0 12))).1 8 0 14 = x.1 8 0 14 := by
              rw [rm_8, up_n (by decide), up_n (by decide), q8]
            rw [rm_C (C := 27) (by decide) (by decide), q27, h14] at hid
            have ekl := e_kill (z := z) (x := rm y1 (hrec (x.1 28 0) (x.1 8 0 12) (x.1 27 0)) (enx (x.1 8 0 12))) (m := (rm y1 (hrec (x.1 28 0) (x.1 8 0 12) (x.1 27 0)) (enx (x.1 8 0 12))).1 8 0) (s := (x.1 27 0, x.1 8 0 14)) hz hb ht w1.1 w1.2
            rw [← hid] at ekl
            have ed := e_drop z hz d (mS (rm y1 (hrec (x.1 28 0) (x.1 8 0 12) (x.1 27 0)) (enx (x.1 8 0 12))) ((rm y1 (hrec (x.1 28 0) (x.1 8 0 12) (x.1 27 0)) (enx (x.1 8 0 12))).1 8 0) (qkl (x.1 27 0) n, x.1 8 0 14)) (by rw [mS_r]; exact hb1) qd.1 (by rw [mS_r, hk1]; exact qd1)
            rw [mS_r, mS_pr] at ed
            rw [e_fails1, sbind, it0, n_rec hz h qm, sbind, if_neg q, if_neg q0, if_neg q, if_pos q4, ekl, sbind, ed, sbind, ckI_t (by omega) (by omega), mS_r]
            show some (qkc (qkl (x.1 27 0) n) - 1, _) = _
            rw [hk1]; rfl
    · have qn0 : ¬ v2 = 0 := fun w => qok (Or.inl w)
      have qna : ((decide (qkp (x.1 27 0) d 0 = 0) || decide (qkp (x.1 27 0) d 0 = 4)) && qal (x.1 27 0) (qkp (x.1 27 0) d 1)) = false := by
        cases w : ((decide (qkp (x.1 27 0) d 0 = 0) || decide (qkp (x.1 27 0) d 0 = 4)) && qal (x.1 27 0) (qkp (x.1 27 0) d 1))
        · rfl
        · exact absurd (Or.inr w) qok
      refine Pr.get h (y := .inr sS) ?_ (b := 0) (t := 2) ?_ (Ok.x rfl (by decide))
      · unfold F_X7_resolve
        rw [p7, bndXl, if_neg qn0, hacc, sbind, ib, if_pos qna]
      · unfold F_X8_resolve
        have hAl := e_isAlive z (qkp (x.1 27 0) d 1) (th x 0) w1.1 (by omega)
        rw [th_C (by decide)] at hAl
        have k0 : x.1 27 0 (626 + 6 * d + 0).toNat = qkp (x.1 27 0) d 0 := rfl
        have k1 : x.1 27 0 (626 + 6 * d + 1).toNat = qkp (x.1 27 0) d 1 := rfl
        rw [sbind, th_w, th_C (by decide), ckI_t (by omega) (by omega), ckR_t (by omega) (by omega), e_in, sbind, e_failsT qd, sbind, it0, ckR_t (by omega) (by omega), ckR_t (by omega) (by omega), ckR_t (by omega) (by omega), ckI_t (by omega) (by omega), ckR_t (by omega) (by omega), ckI_t (by omega) (by omega), th_C (by decide), k0, k1, if_neg qn0]
        unfold F_X8_resolve_73 F_X8_resolve_82 F_X8_resolve_86 F_X8_resolve_87
        rw [hAl, sbind, ib, e_fails0, sbind, it1, th_th]
        by_cases q0 : qkp (x.1 27 0) d 0 = 0
        · rw [decide_eq_true q0, Bool.true_or, Bool.true_and] at qna
          rw [if_pos q0, if_pos qna]
        · rw [if_neg q0]
          by_cases q4 : qkp (x.1 27 0) d 0 = 4
          · rw [decide_eq_true q4, Bool.or_true, Bool.true_and] at qna
            rw [if_pos q4, if_pos qna]
          · rw [if_neg q4]
  · refine Pr.get h (y := .inr sI) ?_ (b := 0) (t := 1) ?_ (Ok.x rfl (by decide))
    · unfold F_X7_resolve
      rw [rqK_f (by omega), bndXr]
    · unfold F_X8_resolve
      rw [sbind, th_w, th_C (by decide), ckI_t (by omega) (by omega), ckR_t (by omega) (by omega), e_in, sbind, e_failsF qd, sbind, it1, th_th]
end
