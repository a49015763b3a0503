section
variable {z : Nat} {x y : Mm} {r : Nat → Int} {c n : Int}
theorem k_beginLease (hz : 50000 ≤ z) (hR : Rs y 0 r) (c0 : 0 ≤ c) (c1 : c < 5) (n0 : 0 ≤ n) (n1 : n < qct r) {t ex : Int} (t0 : 1 ≤ t) (t1 : t ≤ 100) (he : ex = 0 ∨ ex = 1) : Tt (F_X6_beginLease z 0 c n t ex y) (fun p => p.1 = qtk r + t ∧ (p.2.1 3 (5 * 0 + c.toNat) 0 = 1 ∧ p.2.1 3 (5 * 0 + c.toNat) 1 = n ∧ p.2.1 3 (5 * 0 + c.toNat) 2 = qtk r + t ∧ p.2.1 3 (5 * 0 + c.toNat) 3 = ex) ∧ (∀ m : Int, 0 ≤ m → m < 64 → has (p.2.2 3 (5 * 0 + c.toNat) 4) m = false ∧ has (p.2.2 0 (3 * (5 * 0 + c.toNat) + 1) 0) m = qis r n m ∧ has (p.2.2 0 (3 * (5 * 0 + c.toNat) + 2) 0) m = qis r n m) ∧ (∀ m f : Int, 0 ≤ m → m < 60 → 0 ≤ f → f < 6 → p.2.1 23 (3 * (5 * 0 + c.toNat) + 1) (m * 6 + f).toNat = qtv r m f ∧ p.2.1 23 (3 * (5 * 0 + c.toNat) + 2) (m * 6 + f).toNat = qtv r m f) ∧ Fg (fun C j => (C = 3 ∧ j = 5 * 0 + c.toNat) ∨ ((C = 0 ∨ C = 23) ∧ (j = 3 * (5 * 0 + c.toNat) + 1 ∨ j = 3 * (5 * 0 + c.toNat) + 2))) y p.2) := by
  have hb := hR.1.1
  have h60 := hb.2.2.2.1
  have htk := hb.1
  have hH := hR.2.1
  have hN := hR.2.2.1
  have hB := hR.2.2.2.1
  unfold F_X6_beginLease
  rw [ckI_t c0 (by omega), sbind, sbind]
  simp only [wI_pj, pj_s, pj_pj, pj_C (show (6 : Nat) ≠ 3 by decide), hH.1]
  rw [ckR_t (by omega) (by omega), sbind, ckZ_t he, sbind, sbind]
  simp only [wI_pj, pj_s, pj_pj, wL_pl, pj_2]
  generalize hx8 : pl (pj y 3 (5 * 0 + c.toNat) (up (up (up (up (y.1 3 (5 * 0 + c.toNat)) 0 1) 1 n) 2 (qtk r + t)) 3 ex)) 3 (5 * 0 + c.toNat) (up (y.2 3 (5 * 0 + c.toNat)) 4 (0#64)) = x8
  have a1 : ∀ C j, C ≠ 3 → x8.1 C j = y.1 C j ∧ x8.2 C j = y.2 C j := fun C j h => by
    rw [← hx8, pl_1, pj_C h, pl_C h, pj_2]; exact ⟨rfl, rfl⟩
  have a3 : x8.1 3 (5 * 0 + c.toNat) = up (up (up (up (y.1 3 (5 * 0 + c.toNat)) 0 1) 1 n) 2 (qtk r + t)) 3 ex := by rw [← hx8, pl_1, pj_s]
  have a4 : x8.2 3 (5 * 0 + c.toNat) = up (y.2 3 (5 * 0 + c.toNat)) 4 (0#64) := by rw [← hx8, pl_s]
  have aF : Fg (fun C j => (C = 3 ∧ j = 5 * 0 + c.toNat) ∨ ((C = 0 ∨ C = 23) ∧ (j = 3 * (5 * 0 + c.toNat) + 1 ∨ j = 3 * (5 * 0 + c.toNat) + 2))) y x8 := by
    rw [← hx8]; exact (Fg.rf.pj (Or.inl ⟨rfl, rfl⟩)).pl (Or.inl ⟨rfl, rfl⟩)
  clear hx8
  rw [k_copyB, sbind, (a1 0 (3 * 0) (by decide)).2, (a1 23 (3 * 0) (by decide)).1]
  generalize hx9 : pj (pl x8 0 (3 * (5 * 0 + c.toNat) + 1) (up (x8.2 0 (3 * (5 * 0 + c.toNat) + 1)) 0 (y.2 0 (3 * 0) 0))) 23 (3 * (5 * 0 + c.toNat) + 1) (cpy (y.1 23 (3 * 0)) (0 : Int).toNat (x8.1 23 (3 * (5 * 0 + c.toNat) + 1)) (0 : Int).toNat (360 : Int).toNat) = x9
  have b1 : ∀ C j, C ≠ 0 → C ≠ 23 → x9.1 C j = x8.1 C j ∧ x9.2 C j = x8.2 C j := fun C j h h2 => by
    rw [← hx9, pj_C h2, pl_1, pj_2, pl_C h]; exact ⟨rfl, rfl⟩
  have b2 : x9.2 0 (3 * (5 * 0 + c.toNat) + 1) 0 = y.2 0 (3 * 0) 0 := by rw [← hx9, pj_2, pl_s, up_s]
  have b3 : ∀ m f : Int, 0 ≤ m → m < 60 → 0 ≤ f → f < 6 → x9.1 23 (3 * (5 * 0 + c.toNat) + 1) (m * 6 + f).toNat = qtv r m f := fun m f m0 m1 f0 f1 => by
    rw [← hx9, pj_s, cpy0 (by omega) (by omega)]; exact hB.2 m f m0 m1 f0 f1
  have bF := (aF.pl (C := 0) (j := 3 * (5 * 0 + c.toNat) + 1) (f := up (x8.2 0 (3 * (5 * 0 + c.toNat) + 1)) 0 (y.2 0 (3 * 0) 0)) (Or.inr ⟨Or.inl rfl, Or.inl rfl⟩)).pj (C := 23) (j := 3 * (5 * 0 + c.toNat) + 1) (f := cpy (y.1 23 (3 * 0)) (0 : Int).toNat (x8.1 23 (3 * (5 * 0 + c.toNat) + 1)) (0 : Int).toNat (360 : Int).toNat) (Or.inr ⟨Or.inr rfl, Or.inl rfl⟩)
  rw [hx9] at bF
  clear hx9
  have hN9 : RN x9 0 r := RN_fr hN ((b1 4 0 (by decide) (by decide)).1.trans (a1 4 0 (by decide)).1) ((b1 4 0 (by decide) (by decide)).2.trans (a1 4 0 (by decide)).2) ((b1 21 0 (by decide) (by decide)).1.trans (a1 21 0 (by decide)).1) ((b1 22 0 (by decide) (by decide)).1.trans (a1 22 0 (by decide)).1) ((b1 30 0 (by decide) (by decide)).2.trans (a1 30 0 (by decide)).2)
  obtain ⟨v, ev, hv⟩ := k_below z hz hN9 hb n0 (by omega)
  have hq : ∀ m : Int, 0 ≤ m → m < 64 → has ((y.2 0 (3 * 0) 0) &&& v) m = qis r n m := fun m m0 m1 => by
    rw [has_and, hB.1 m m0 m1, hv m m0 m1]
    unfold qis
    cases decide (m < qct r) <;> cases qal r m <;> rfl
  rw [ev, sbind, sbind, k_copyB, sbind]
  refine Tt.ret ⟨?_, ⟨?_, ?_, ?_, ?_⟩, fun m m0 m1 => ⟨?_, ?_, ?_⟩, fun m f m0 m1 f0 f1 => ⟨?_, ?_⟩, ?_⟩
  · simp only [pj_C (show (3 : Nat) ≠ 23 by decide), pl_1]
    rw [(b1 3 _ (by decide) (by decide)).1, a3, up_n (by decide), up_s]
  · simp only [pj_C (show (3 : Nat) ≠ 23 by decide), pl_1]
    rw [(b1 3 _ (by decide) (by decide)).1, a3, up_n (by decide), up_n (by decide), up_n (by decide), up_s]
  · simp only [pj_C (show (3 : Nat) ≠ 23 by decide), pl_1]
    rw [(b1 3 _ (by decide) (by decide)).1, a3, up_n (by decide), up_n (by decide), up_s]
  · simp only [pj_C (show (3 : Nat) ≠ 23 by decide), pl_1]
    rw [(b1 3 _ (by decide) (by decide)).1, a3, up_n (by decide), up_s]
  · simp only [pj_C (show (3 : Nat) ≠ 23 by decide), pl_1]
    rw [(b1 3 _ (by decide) (by decide)).1, a3, up_s]
  · simp only [pj_2, pl_C (show (3 : Nat) ≠ 0 by decide)]
    rw [(b1 3 _ (by decide) (by decide)).2, a4, up_s, has_0]
  · simp only [pj_2, pl_j (show 3 * (5 * 0 + c.toNat) + 1 ≠ 3 * (5 * 0 + c.toNat) + 2 by omega), pl_s, up_s]
    rw [b2]; exact hq m m0 m1
  · simp only [pj_2, pl_s, up_s]
    rw [b2]; exact hq m m0 m1
  · simp only [pj_j (show 3 * (5 * 0 + c.toNat) + 1 ≠ 3 * (5 * 0 + c.toNat) + 2 by omega), pl_1]
    exact b3 m f m0 m1 f0 f1
  · simp only [pj_s, pl_1]
    rw [cpy0 (by omega) (by omega)]; exact b3 m f m0 m1 f0 f1
  · exact ((bF.pl (Or.inr ⟨Or.inl rfl, Or.inl rfl⟩)).pl (Or.inr ⟨Or.inl rfl, Or.inr rfl⟩)).pj (Or.inr ⟨Or.inr rfl, Or.inr rfl⟩)
theorem p_lease (hz : 50000 ≤ z) (h : Inv x) (hI : ∀ k, -2147483648 ≤ x.1 27 0 k ∧ x.1 27 0 k ≤ 2147483647) (c n t ex : Int) (he : ex = 0 ∨ ex = 1) : Pr [sI, sA, sS] (F_X7_lease z 0 c n t ex) (F_X8_lease z 0 c n t ex) x := by
  have hb := h.1.1.1
  have ht := h.1.1.2.1
  have hcc := hb.2.2.1
  have h60 := hb.2.2.2.1
  have hfc := hb.2.1
  have htk := hb.1
  have hBx := h.1.2.2.2.1
  by_cases qc : 0 ≤ c ∧ c < qcc (x.1 27 0)
  · by_cases qn : 0 ≤ n ∧ n < qct (x.1 27 0)
    · by_cases qt : 1 ≤ t ∧ t ≤ 100
      · have hL := h.1.2.2.2.2.1 c qc.1 (by omega)
        have pre8 : ∀ u : Mm, u.1 27 0 = x.1 27 0 → F_X8_lease z 0 c n t ex u = (if qhl (x.1 27 0) c = false then (if qal (x.1 27 0) n = false then F_X8_lease_82 z 0 c n t ex 0 0 (th u 0) else if qbl (qbk (x.1 27 0) c n ex) (qcc (x.1 27 0)).toNat = 0 then F_X8_lease_82 z 0 c n t ex 1 0 (th u 0) else F_X8_lease_82 z 0 c n t ex 0 0 (th u 0)) else F_X8_lease_82 z 0 c n t ex 0 0 (th u 0)) := by
          intro u hu
          unfold F_X8_lease F_X8_lease_27 F_X8_lease_81
          have ea := e_isAlive z n (th u 0) qn.1 (by omega)
          have eb := e_blockersOf (z := z) hz (y := th u 0) (c := c) (n := n) (ex := ex) (by rw [th_C (by decide), hu]; exact h.1.1) qn.1 (by rw [th_C (by decide), hu]; exact qn.2)
          rw [th_C (by decide), hu] at ea eb
          rw [sbind, th_w, nC hu hb, sbind, dt qc, nN hu hb, sbind, dt qn, e_fails1, sbind, it0, e_in, sbind, e_failsT qt, sbind, it0, nH hu qc.1 (by omega), sbind, ib, ea, sbind, ib, eb, sbind]
        have pre7 : F_X7_lease z 0 c n t ex x = (if qhl (x.1 27 0) c = false then (if qal (x.1 27 0) n = false then some (.inr sS, x) else if qbl (qbk (x.1 27 0) c n ex) (qcc (x.1 27 0)).toNat = 0 then ((F_X2_push z 0 0 x).bind fun r16 => (F_X6_beginLease z 0 c n t ex r16).bind fun r18 => some ((.inl r18.1, r18.2))) else some (.inr sS, x)) else some (.inr sS, x)) := by
          unfold F_X7_lease
          rw [rc_t h qc, bndXl, rn_t h qn, bndXl, rqT_t qt.1 qt.2, bndXl, ckI_t qc.1 (by omega), hL.1, k_has z x qn.1 (by omega), sbind, ib, hal' h n qn.1 (by omega), decide_eq_true qn.2, Bool.true_and, k_blockersOf hz h qn.1 qn.2, sbind, ib]
        by_cases ql : qhl (x.1 27 0) c = false
        · by_cases qa : qal (x.1 27 0) n = false
          · refine Pr.get h (y := .inr sS) ?_ (b := 0) (t := 3) ?_ (Ok.x rfl (by decide))
            · rw [pre7, if_pos ql, if_pos qa]
            · rw [pre8 x rfl, if_pos ql, if_pos qa]
              unfold F_X8_lease_82
              rw [e_fails0, sbind, it1, th_th]
          · by_cases qb : qbl (qbk (x.1 27 0) c n ex) (qcc (x.1 27 0)).toNat = 0
            · obtain ⟨y, e, hHI, hRy, hF⟩ := k_push (z := z) hz h.2.2.2.1 h.1 h.2.1
              obtain ⟨⟨v, y1⟩, e1, hv, ⟨l0, l1, l2, l3⟩, lr, lv, hFy⟩ := k_beginLease (z := z) hz hRy qc.1 (by omega) qn.1 qn.2 qt.1 qt.2 he
              simp only at hv l0 l1 l2 l3 lr lv hFy
              generalize hR0 : up (up (up (x.1 27 0) (611 + 3 * c).toNat n) (611 + 3 * c + 1).toNat (qtk (x.1 27 0) + t)) (611 + 3 * c + 2).toNat ex = R0
              have hS0 : Slc (x.1 27 0) R0 c := fun i i0 i1 i2 => by
                rw [← hR0, up_i (by omega) (by omega) (by omega), up_i (by omega) (by omega) (by omega), up_i (by omega) (by omega) (by omega)]
              have s0 : R0 (611 + 3 * c).toNat = n ∧ R0 (611 + 3 * c + 1).toNat = qtk (x.1 27 0) + t ∧ R0 (611 + 3 * c + 2).toNat = ex := by
                rw [← hR0]
                refine ⟨?_, ?_, up_s⟩
                · rw [up_i (by omega) (by omega) (by omega), up_i (by omega) (by omega) (by omega), up_s]
                · rw [up_i (by omega) (by omega) (by omega), up_s]
              have hZ0 : Zr R0 := by rw [← hR0]; exact zr_up (zr_up (zr_up h.2.1 (by omega) (by omega)) (by omega) (by omega)) (by omega) (by omega)
              have hS1 := qlr_S (r := R0) (c := c) (n := n) (i := 60) (e := 360) (by omega) (by omega) qc.1
              have hS : Slc (x.1 27 0) (qlr R0 c n 60 360) c := fun i i0 i1 i2 => (hS1 i i0 i1 i2).trans (hS0 i i0 i1 i2)
              have his : ∀ m : Int, 0 ≤ m → m < 64 → qis R0 n m = qis (x.1 27 0) n m := fun m m0 m1 => by
                unfold qis
                rw [hS0.ct qc.1 (by omega)]
                by_cases q : m < qct (x.1 27 0)
                · rw [hS0.wi qc.1 (by omega) hb ht qn.1 q]
                  unfold qal; rw [hS0.sm qc.1 (by omega) (by omega) (by omega)]
                · rw [decide_eq_false q]; rfl
              have htv0 : ∀ m f : Int, 0 ≤ m → m < 60 → 0 ≤ f → f < 6 → qtv R0 m f = qtv (x.1 27 0) m f := fun m f m0 m1 f0 f1 => hS0.sm qc.1 (by omega) (by omega) (by omega)
              have elo : ∀ i : Int, 0 ≤ i → i < 866 → qlr R0 c n 60 360 i.toNat = R0 i.toNat := fun i i0 i1 => by
                unfold qlr; rw [if_neg (by omega), if_neg (by omega), if_neg (by omega), if_neg (by omega), if_neg (by omega)]
              have eln : qln (qlr R0 c n 60 360) c = n := (elo _ (by omega) (by omega)).trans s0.1
              have ele : qle (qlr R0 c n 60 360) c = qtk (x.1 27 0) + t := (elo _ (by omega) (by omega)).trans s0.2.1
              have elx : qlx (qlr R0 c n 60 360) c = ex := (elo _ (by omega) (by omega)).trans s0.2.2
              have ehl : qhl (qlr R0 c n 60 360) c = true := by
                unfold qhl; rw [eln, decide_eq_false (by omega)]; rfl
              have bdec : ∀ b : Bool, decide (b2i b = 1) = b := fun b => by cases b <;> rfl
              have ec0 : ∀ m : Int, 0 ≤ m → m < 60 → qcp (qlr R0 c n 60 360) c 0 m = qis (x.1 27 0) n m := fun m m0 m1 => by
                unfold qcp qlr
                rw [if_pos (by omega), show (((866 + 900 * c + 0 + m).toNat : Nat) : Int) - (866 + 900 * c) = m by omega, bdec, his m m0 (by omega)]
              have ec6 : ∀ m : Int, 0 ≤ m → m < 60 → qcp (qlr R0 c n 60 360) c 60 m = qis (x.1 27 0) n m := fun m m0 m1 => by
                unfold qcp qlr
                rw [if_neg (by omega), if_pos (by omega), show (((866 + 900 * c + 60 + m).toNat : Nat) : Int) - (866 + 900 * c + 60) = m by omega, bdec, his m m0 (by omega)]
              have ec12 : ∀ m : Int, 0 ≤ m → m < 60 → qcp (qlr R0 c n 60 360) c 120 m = false := fun m m0 m1 => by
                unfold qcp qlr
                rw [if_neg (by omega), if_neg (by omega), if_pos (by omega)]; rfl
              have eov : ∀ m f : Int, 0 ≤ m → m < 60 → 0 ≤ f → f < 6 → qov (qlr R0 c n 60 360) c m f = b2i (qis (x.1 27 0) n m) * qtv (x.1 27 0) m f := fun m f m0 m1 f0 f1 => by
                rw [← htv0 m f m0 m1 f0 f1, ← his m m0 (by omega)]
                unfold qov qlr qtv
                have e1 : (((866 + 900 * c + 180 + (6 * m + f)).toNat : Nat) : Int) - (866 + 900 * c + 180) = 6 * m + f := by omega
                rw [if_neg (by omega), if_neg (by omega), if_neg (by omega), if_pos (by omega), e1, show (6 * m + f) / 6 = m by omega, show 251 + (6 * m + f) = 251 + 6 * m + f by omega]
              have env : ∀ m f : Int, 0 ≤ m → m < 60 → 0 ≤ f → f < 6 → qnv (qlr R0 c n 60 360) c m f = b2i (qis (x.1 27 0) n m) * qtv (x.1 27 0) m f := fun m f m0 m1 f0 f1 => by
                rw [← htv0 m f m0 m1 f0 f1, ← his m m0 (by omega)]
                unfold qnv qlr qtv
                have e1 : (((866 + 900 * c + 540 + (6 * m + f)).toNat : Nat) : Int) - (866 + 900 * c + 540) = 6 * m + f := by omega
                rw [if_neg (by omega), if_neg (by omega), if_neg (by omega), if_neg (by omega), if_pos (by omega), e1, show (6 * m + f) / 6 = m by omega, show 251 + (6 * m + f) = 251 + 6 * m + f by omega]
              have ect := hS.ct qc.1 (by omega)
              have efc := hS.fc qc.1 (by omega)
              have hZ1 : Zr (qlr R0 c n 60 360) := fun k hk => by
                unfold qlr; rw [if_neg (by omega), if_neg (by omega), if_neg (by omega), if_neg (by omega), if_neg (by omega)]; exact hZ0 k hk
              have hb0 : Wb R0 := by
                unfold Wb
                rw [show qtk R0 = qtk (x.1 27 0) from hS0.sm qc.1 (by omega) (by omega) (by omega), hS0.fc qc.1 (by omega), show qcc R0 = qcc (x.1 27 0) from hS0.sm qc.1 (by omega) (by omega) (by omega), hS0.ct qc.1 (by omega), show qkc R0 = qkc (x.1 27 0) from hS0.sm qc.1 (by omega) (by omega) (by omega)]; exact hb
              have ht0 : Wt R0 := by
                have ep : ∀ m : Int, 0 ≤ m → m < 60 → qpa R0 m = qpa (x.1 27 0) m ∧ qlb R0 m = qlb (x.1 27 0) m := fun m m0 m1 => ⟨hS0.sm qc.1 (by omega) (by omega) (by omega), hS0.sm qc.1 (by omega) (by omega) (by omega)⟩
                refine ⟨by rw [(ep 0 (by omega) (by omega)).1]; exact ht.1, by rw [(ep 0 (by omega) (by omega)).2]; exact ht.2.1, fun m m0 m1 => ?_⟩
                rw [hS0.ct qc.1 (by omega)] at m1
                rw [(ep m (by omega) (by omega)).1, (ep m (by omega) (by omega)).2]; exact ht.2.2 m m0 m1
              have hWL : WL (qlr R0 c n 60 360) c := fun _ => by
                refine ⟨by rw [eln, ect]; exact qn, by rw [ele]; omega, by rw [elx]; exact he, ⟨ec12 0 (by omega) (by omega), fun m f m0 m1 f0 f1 => ?_, fun m m0 m1 hm => ?_⟩, fun m f m0 m1 f0 f1 => ?_, fun m m0 m1 => ?_⟩
                · rw [efc] at f0
                  rw [eov m f m0 m1 (by omega) f1, env m f m0 m1 (by omega) f1, h.1.1.2.2.2.2.1 m f m0 m1 f0 f1, Int.mul_zero]; exact ⟨rfl, rfl⟩
                · rw [ec6 m m0 m1] at hm; rw [ec0 m m0 m1]; exact Or.inl hm
                · rw [ect] at m0
                  rw [env m f (by omega) m1 f0 f1]
                  have : qis (x.1 27 0) n m = false := by unfold qis; rw [decide_eq_false (by omega)]; rfl
                  rw [this]; show 0 * _ = 0; rw [Int.zero_mul]
                · rw [ect] at m0
                  have : qis (x.1 27 0) n m = false := by unfold qis; rw [decide_eq_false (by omega)]; rfl
                  rw [ec0 m (by omega) m1, ec6 m (by omega) m1, ec12 m (by omega) m1, this]; exact ⟨rfl, rfl, rfl⟩
              have hR1 : Rs y1 0 (qlr R0 c n 60 360) := by
                refine Rs_Slc hS qc.1 (by omega) hRy hFy hWL ⟨by rw [ehl]; exact l0, fun _ => ⟨⟨by rw [eln]; exact l1, by rw [ele]; exact l2, by rw [elx]; exact l3⟩, fun m m0 m1 => ?_, fun m f m0 m1 f0 f1 => ?_⟩⟩
                · obtain ⟨b1, b2, b3⟩ := lr m m0 m1
                  rw [b1, b2, b3, ect]
                  by_cases q : m < qct (x.1 27 0)
                  · rw [ec0 m m0 (by omega), ec6 m m0 (by omega), ec12 m m0 (by omega), decide_eq_true q]
                    exact ⟨rfl, rfl, rfl⟩
                  · have : qis (x.1 27 0) n m = false := by unfold qis; rw [decide_eq_false q]; rfl
                    rw [decide_eq_false q, this]; exact ⟨rfl, rfl, rfl⟩
                · rw [ec0 m m0 m1, ec12 m m0 m1, eov m f m0 m1 f0 f1, env m f m0 m1 f0 f1]
                  obtain ⟨b1, b2⟩ := lv m f m0 m1 f0 f1
                  refine ⟨fun w => ?_, fun w => ?_⟩
                  · rw [w]; show _ = 1 * _; rw [Int.one_mul]; exact b1
                  · rcases w with w | w
                    · rw [w]; show _ = 1 * _; rw [Int.one_mul]; exact b2
                    · cases w
              have hF1 : Fo (fun o => o = 0) y y1 := hFy.mono (fun C j w => by
                rcases w with ⟨rfl, rfl⟩ | ⟨hC, rfl | rfl⟩
                · exact own_l (by omega)
                · exact (own_b hC (by omega)).1
                · exact (own_b hC (by omega)).2)
              refine Pr.chg h hF hHI hF1 hR1 hZ1 (b := v) ?_ (fun q => ?_)
              · rw [pre7, if_pos ql, if_neg qa, if_pos qb, e, sbind, e1, sbind]
              · have q27 := q 27 0 (by omega)
                rw [pre8 y1 q27, if_pos ql, if_neg qa, if_pos qb]
                have eL : ∀ b : Int, F_X8_lease_157 z 0 c n b z 0 (pj (rm y1 (hrec (x.1 28 0) (x.1 8 0 12) (x.1 27 0)) (enx (x.1 8 0 12))) 27 0 R0) = some (pj (rm y1 (hrec (x.1 28 0) (x.1 8 0 12) (x.1 27 0)) (enx (x.1 8 0 12))) 27 0 (qlr R0 c n 60 360)) := fun b => e_lease157 hz hb0 ht0 qc.1 (by omega) qn.1 (by rw [hS0.ct qc.1 (by omega)]; exact qn.2) (fun m f m0 m1 f0 f1 => by rw [htv0 m f m0 m1 f0 f1]; exact hI _)
                have e153 : ∀ u : Int, u = ex → F_X8_lease_153 z 0 c n t u (611 + 3 * c + 2) 0 (pj (rm y1 (hrec (x.1 28 0) (x.1 8 0 12) (x.1 27 0)) (enx (x.1 8 0 12))) 27 0 (up (up (x.1 27 0) (611 + 3 * c).toNat n) (611 + 3 * c + 1).toNat (qtk (x.1 27 0) + t))) = some (v, pj (rm y1 (hrec (x.1 28 0) (x.1 8 0 12) (x.1 27 0)) (enx (x.1 8 0 12))) 27 0 (qlr R0 c n 60 360)) := by
                  intro u hu
                  unfold F_X8_lease_153
                  rw [ckI_t (by omega) (by omega), sbind, wI_pj, pj_s, pj_pj, hu, hR0, eL, sbind, ckI_t (by omega) (by omega), pj_s, show qlr R0 c n 60 360 (0 : Int).toNat = qtk (x.1 27 0) from (elo 0 (by omega) (by omega)).trans (hS0.sm qc.1 (by omega) (by omega) (by omega)), ckR_t (by omega) (by omega), hv]
                unfold F_X8_lease_82
                rw [e_fails1, sbind, it0, n_rec hz h q, sbind, ckR_t (by omega) (by omega), ckR_t (by omega) (by omega), ckI_t (by omega) (by omega), sbind, wI_pj, rm_C (by decide) (by decide), q27, ckR_t (by omega) (by omega), ckR_t (by omega) (by omega), ckR_t (by omega) (by omega), ckI_t (by omega) (by omega), pj_s, up_i (by omega) (by omega) (by omega)]
                have ec : x.1 27 0 (0 : Int).toNat = qtk (x.1 27 0) := rfl
                rw [ec, ckR_t (by omega) (by omega), ckI_t (by omega) (by omega), sbind, wI_pj, pj_s, pj_pj, ckR_t (by omega) (by omega), ckR_t (by omega) (by omega), ckR_t (by omega) (by omega)]
                rcases he with w | w
                · rw [if_pos w]; exact e153 0 w.symm
                · rw [if_neg (by omega)]; exact e153 1 w.symm
            · refine Pr.get h (y := .inr sS) ?_ (b := 0) (t := 3) ?_ (Ok.x rfl (by decide))
              · rw [pre7, if_pos ql, if_neg qa, if_neg qb]
              · rw [pre8 x rfl, if_pos ql, if_neg qa, if_neg qb]
                unfold F_X8_lease_82
                rw [e_fails0, sbind, it1, th_th]
        · refine Pr.get h (y := .inr sS) ?_ (b := 0) (t := 3) ?_ (Ok.x rfl (by decide))
          · rw [pre7, if_neg ql]
          · rw [pre8 x rfl, if_neg ql]
            unfold F_X8_lease_82
            rw [e_fails0, sbind, it1, th_th]
      · refine Pr.get h (y := .inr sA) ?_ (b := 0) (t := 2) ?_ (Ok.x rfl (by decide))
        · unfold F_X7_lease
          rw [rc_t h qc, bndXl, rn_t h qn, bndXl, rqT_f qt, bndXr]
        · unfold F_X8_lease F_X8_lease_27
          rw [sbind, th_w, mC h, sbind, dt qc, mN h, sbind, dt qn, e_fails1, sbind, it0, e_in, sbind, e_failsF qt, sbind, it1, th_th]
    · refine Pr.get h (y := .inr sI) ?_ (b := 0) (t := 1) ?_ (Ok.x rfl (by decide))
      · unfold F_X7_lease
        rw [rc_t h qc, bndXl, rn_f h qn, bndXr]
      · unfold F_X8_lease F_X8_lease_26 F_X8_lease_27
        rw [sbind, th_w, mC h, sbind, dt qc, mN h, sbind, df qn, e_fails0, sbind, it1, th_th]
  · refine Pr.get h (y := .inr sI) ?_ (b := 0) (t := 1) ?_ (Ok.x rfl (by decide))
    · unfold F_X7_lease
      rw [rc_f h qc, bndXr]
    · unfold F_X8_lease F_X8_lease_26 F_X8_lease_27
      rw [sbind, th_w, mC h, sbind, df qc, e_fails0, sbind, it1, th_th]
end
