/-! removeNode, abandon, commit. -/
section
variable {z : Nat} {x y : Mm} {r : Nat → Int}
theorem Pr.chgM {L : List String} {F7 : Mm → Option ((Int ⊕ String) × Mm)} {F8 : Mm → Option (Int × Mm)} {y1 : Mm} {b d : Int} {r' : Nat → Int} (h : Inv x) (hF : Fo (fun o => (2 ≤ o ∧ o < 10) ∨ o = 102) x y) (hH : HI y (hrec (x.1 28 0) (x.1 8 0 12) (x.1 27 0)) (enx (x.1 8 0 12))) (hF1 : Fo (fun o => o = 0) y y1) (hR : Rs y1 0 r') (hZ : Zr r') (e7 : F7 x = some (.inl b, y1)) (e8 : Eqm x y1 → F8 y1 = some (b, pj (pj (rm y1 (hrec (x.1 28 0) (x.1 8 0 12) (x.1 27 0)) (enx (x.1 8 0 12))) 27 0 r') 8 0 (up ((rm y1 (hrec (x.1 28 0) (x.1 8 0 12) (x.1 27 0)) (enx (x.1 8 0 12))).1 8 0) 14 d))) : Pr L F7 F8 x := by
  have hq : Eqm x y1 := fun C j q => ((fo_o hF1 (C := C) (j := j) (by omega) (by omega) (by omega) (by omega)).1).trans ((Inv_tr h hF).1 C j q)
  have e80 : y1.1 8 0 = x.1 8 0 := hq 8 0 (by omega)
  refine ⟨_, _, _, _, e7, e8 hq, Inv_end h hF hH hF1 hR hZ rfl ?_, ?_⟩
  · rw [rm_8, up_n (by decide), up_s, up_n (by decide), up_n (by decide), up_n (by decide), up_n (by decide), up_n (by decide), up_n (by decide), e80]; exact ⟨rfl, rfl, rfl⟩
  · rw [pj_s, rm_8, up_n (by decide), up_n (by decide), up_s]; exact Ok.v
def qvi (r : Nat → Int) (c n i : Int) : Nat → Int := fun k => if 866 + 900 * c + 60 + n ≤ (k : Int) ∧ (k : Int) < 866 + 900 * c + 60 + i ∧ (qcp r c 60 ((k : Int) - (866 + 900 * c + 60)) && win r ((k : Int) - (866 + 900 * c + 60)) n) = true then 0 else r k
theorem qvi_0 {r : Nat → Int} {c n : Int} : qvi r c n n = r := by
  funext k; unfold qvi; rw [if_neg (by omega)]
theorem qvi_s {r : Nat → Int} {c n i : Int} (c0 : 0 ≤ c) (n0 : 0 ≤ n) (h1 : n ≤ i) : qvi r c n (i + 1) = if (qcp r c 60 i && win r i n) = true then up (qvi r c n i) (866 + 900 * c + 60 + i).toNat 0 else qvi r c n i := by
  funext k
  by_cases hw : (qcp r c 60 i && win r i n) = true
  · rw [if_pos hw]
    by_cases h : k = (866 + 900 * c + 60 + i).toNat
    · rw [h, up_s]; unfold qvi
      have e : (((866 + 900 * c + 60 + i).toNat : Nat) : Int) - (866 + 900 * c + 60) = i := by omega
      rw [if_pos ⟨by omega, by omega, by rw [e]; exact hw⟩]
    · rw [up_n h]; unfold qvi
      by_cases q : 866 + 900 * c + 60 + n ≤ (k : Int) ∧ (k : Int) < 866 + 900 * c + 60 + i ∧ (qcp r c 60 ((k : Int) - (866 + 900 * c + 60)) && win r ((k : Int) - (866 + 900 * c + 60)) n) = true
      · rw [if_pos q, if_pos ⟨by omega, by omega, q.2.2⟩]
      · rw [if_neg q, if_neg (fun w => q ⟨w.1, by omega, w.2.2⟩)]
  · rw [if_neg hw]; unfold qvi
    by_cases q : 866 + 900 * c + 60 + n ≤ (k : Int) ∧ (k : Int) < 866 + 900 * c + 60 + i ∧ (qcp r c 60 ((k : Int) - (866 + 900 * c + 60)) && win r ((k : Int) - (866 + 900 * c + 60)) n) = true
    · rw [if_pos q, if_pos ⟨by omega, by omega, q.2.2⟩]
    · rw [if_neg q, if_neg ?_]
      rintro ⟨w1, w2, w3⟩
      have : (k : Int) - (866 + 900 * c + 60) = i := by
        by_cases e : (k : Int) < 866 + 900 * c + 60 + i
        · exact absurd ⟨w1, e, w3⟩ q
        · omega
      rw [this] at w3; exact hw w3
theorem e_remove (hz : 50000 ≤ z) (e27 : y.1 27 0 = r) (hb : Wb r) (ht : Wt r) {c n : Int} (c0 : 0 ≤ c) (c1 : c < 5) (n0 : 0 ≤ n) (n1 : n < qct r) : F_X8_removeNode_93 z 0 c n z 0 n y = some (cn (fun m => qcp r c 60 m && win r m n) (qct r).toNat, pj y 27 0 (qvi r c n (qct r))) := by
  have h60 := hb.2.2.2.1
  refine Tt.eq ?_
  refine loopU (fun k i (w : Int × Mm) => F_X8_removeNode_93 z 0 c n k w.1 i w.2) (qct r) (fun i w => n ≤ i ∧ i ≤ qct r ∧ w = (cn (fun m => qcp r c 60 m && win r m n) i.toNat, pj y 27 0 (qvi r c n i))) _ ?_ ?_ z n (0, y) (by omega) (by omega) ⟨by omega, by omega, ?_⟩
  all_goals try rintro k w i hN ⟨i0, i1, rfl⟩
  all_goals try have hS : Slc r (qvi r c n i) c := (fun j j0 j1 j2 => by unfold qvi; rw [if_neg (by omega)])
  all_goals try have e3 : (pj y 27 0 (qvi r c n i)).1 27 0 (3 : Int).toNat = qct r := by rw [pj_s]; exact hS.ct c0 c1
  · refine Tt.of (v := (cn (fun m => qcp r c 60 m && win r m n) i.toNat, pj y 27 0 (qvi r c n i))) ?_ ?_
    · show ckI 3 5366 _ = _
      rw [ckI_t (by omega) (by omega), e3, if_pos hN]
    · rw [show i = qct r by omega]
  · refine Or.inl ⟨(cn (fun m => qcp r c 60 m && win r m n) (i + 1).toNat, pj y 27 0 (qvi r c n (i + 1))), ?_, by omega, by omega, rfl⟩
    have hc := cn_leI (fun m => qcp r c 60 m && win r m n) i (by omega)
    have hb' : Wb (qvi r c n i) := by
      unfold Wb
      rw [show qtk (qvi r c n i) = qtk r from hS.sm c0 (by omega) (by omega) c1, hS.fc c0 c1, show qcc (qvi r c n i) = qcc r from hS.sm c0 (by omega) (by omega) c1, hS.ct c0 c1, show qkc (qvi r c n i) = qkc r from hS.sm c0 (by omega) (by omega) c1]; exact hb
    have ht' : Wt (qvi r c n i) := by
      have ep : ∀ m : Int, 0 ≤ m → m < 60 → qpa (qvi r c n i) m = qpa r m ∧ qlb (qvi r c n i) m = qlb r m := fun m m0 m1 => ⟨hS.sm c0 (by omega) (by omega) c1, hS.sm c0 (by omega) (by omega) c1⟩
      refine ⟨by rw [(ep 0 (by omega) (by omega)).1]; exact ht.1, by rw [(ep 0 (by omega) (by omega)).2]; exact ht.2.1, fun m m0 m1 => ?_⟩
      rw [hS.ct c0 c1] at m1
      rw [(ep m (by omega) (by omega)).1, (ep m (by omega) (by omega)).2]; exact ht.2.2 m m0 m1
    have ecp : qcp (qvi r c n i) c 60 i = qcp r c 60 i := by
      unfold qcp qvi; rw [if_neg (by omega)]
    show ckI 3 5366 _ = _
    rw [ckI_t (by omega) (by omega), e3, if_neg (by omega), e_is z c 60 i _ c0 c1 (by omega) (by omega) (by omega), sbind, ib, pj_s, ecp, e_isWithin z hz i n _ (by rw [pj_s]; exact ht') (by rw [pj_s]; exact hb') n0 (by rw [pj_s, hS.ct c0 c1]; omega), sbind, ib, pj_s, hS.wi c0 c1 hb ht n0 hN, e_partOf z c 60 i _ c0 c1 (by omega) (by omega) (by omega), sbind, ckI_t (by omega) (by omega), sbind, wI_pj, pj_s, pj_pj, cn_s (by omega), qvi_s c0 n0 i0, ckR_t (by omega) (by omega), ckR_t (by omega) (by omega), ckR_t (by omega) (by omega)]
    cases qcp r c 60 i
    · rw [if_pos rfl, Bool.false_and, if_neg (by decide)]; simp [b2i]
    · cases win r i n
      · rw [if_neg (by decide), if_pos rfl, Bool.and_false, if_neg (by decide)]; simp [b2i]
      · rfl
  · have e0 : cn (fun m => qcp r c 60 m && win r m n) n.toNat = 0 := cn_low (fun j j0 j1 => by rw [win_lt j1, Bool.and_false])
    rw [e0, qvi_0, ← e27, pj_id]
theorem p_removeNode (hz : 50000 ≤ z) (h : Inv x) (c n : Int) : Pr [sI, sS] (F_X7_removeNode z 0 c n) (F_X8_removeNode z 0 c n) x := by
  have hb := h.1.1.1
  have ht := h.1.1.2.1
  have hcc := hb.2.2.1
  have h60 := hb.2.2.2.1
  by_cases qc : 0 ≤ c ∧ c < qcc (x.1 27 0)
  · by_cases qn : 0 ≤ n ∧ n < qct (x.1 27 0)
    · have hL := h.1.2.2.2.2.1 c qc.1 (by omega)
      by_cases ql : qhl (x.1 27 0) c = true
      · obtain ⟨⟨g1, g2, g3⟩, glr, glv⟩ := hL.2 ql
        have hwl := h.1.1.2.2.2.2.2.1 c qc.1 (by omega)
        cases qi : qcp (x.1 27 0) c 60 n
        · refine Pr.get h (y := .inr sS) ?_ (b := 0) (t := 2) ?_ (Ok.x rfl (by decide))
          · unfold F_X7_removeNode
            rw [rc_t h qc, bndXl, rn_t h qn, bndXl, rl_t h qc.1 (by omega) ql, bndXl, rp_f h qc.1 (by omega) ql qn qi, bndXr]
          · unfold F_X8_removeNode F_X8_removeNode_27 F_X8_removeNode_74 F_X8_removeNode_75
            rw [sbind, th_w, mC h, sbind, dt qc, mN h, sbind, dt qn, e_fails1, sbind, it0, mH qc.1 (by omega), sbind, ib, if_neg (by rw [ql]; decide), m_is c 60 n 0 qc.1 (by omega) (by omega) qn.1 (by omega), sbind, ib, if_pos qi, e_fails0, sbind, it1, th_th]
        · by_cases qe : qln (x.1 27 0) c = n
          · refine Pr.get h (y := .inr sS) ?_ (b := 0) (t := 2) ?_ (Ok.x rfl (by decide))
            · unfold F_X7_removeNode
              rw [rc_t h qc, bndXl, rn_t h qn, bndXl, rl_t h qc.1 (by omega) ql, bndXl, rp_t h qc.1 (by omega) ql qn qi, bndXl, ckI_t qc.1 (by omega), g1, if_pos qe]
            · unfold F_X8_removeNode F_X8_removeNode_27 F_X8_removeNode_74 F_X8_removeNode_75
              rw [sbind, th_w, mC h, sbind, dt qc, mN h, sbind, dt qn, e_fails1, sbind, it0, mH qc.1 (by omega), sbind, ib, if_neg (by rw [ql]; decide), m_is c 60 n 0 qc.1 (by omega) (by omega) qn.1 (by omega), sbind, ib, if_neg (by rw [qi]; decide), ckR_t (by omega) (by omega), ckR_t (by omega) (by omega), ckI_t (by omega) (by omega), th_C (by decide), if_pos (show x.1 27 0 (611 + 3 * c).toNat = n from qe), e_fails0, sbind, it1, th_th]
          · obtain ⟨y, e, hHI, hRy, hF⟩ := k_push (z := z) hz h.2.2.2.1 h.1 h.2.1
            have hS : Slc (x.1 27 0) (qvi (x.1 27 0) c n (qct (x.1 27 0))) c := fun j j0 j1 j2 => by unfold qvi; rw [if_neg (by omega)]
            have E3 : ∀ i : Int, 0 ≤ i → (i < 866 + 900 * c + 60 ∨ 866 + 900 * c + 120 ≤ i) → qvi (x.1 27 0) c n (qct (x.1 27 0)) i.toNat = x.1 27 0 i.toNat := fun i i0 i1 => by unfold qvi; rw [if_neg (by omega)]
            have eln : qln (qvi (x.1 27 0) c n (qct (x.1 27 0))) c = qln (x.1 27 0) c := E3 _ (by omega) (by omega)
            have ehl : qhl (qvi (x.1 27 0) c n (qct (x.1 27 0))) c = qhl (x.1 27 0) c := by unfold qhl; rw [eln]
            have ele : qle (qvi (x.1 27 0) c n (qct (x.1 27 0))) c = qle (x.1 27 0) c := E3 _ (by omega) (by omega)
            have elx : qlx (qvi (x.1 27 0) c n (qct (x.1 27 0))) c = qlx (x.1 27 0) c := E3 _ (by omega) (by omega)
            have ect := hS.ct qc.1 (by omega)
            have efc := hS.fc qc.1 (by omega)
            have ecp : ∀ p m : Int, p = 0 ∨ p = 120 → 0 ≤ m → m < 60 → qcp (qvi (x.1 27 0) c n (qct (x.1 27 0))) c p m = qcp (x.1 27 0) c p m := fun p m p0 m0 m1 => by unfold qcp; rw [E3 _ (by omega) (by omega)]
            have ec6 : ∀ m : Int, 0 ≤ m → m < 60 → qcp (qvi (x.1 27 0) c n (qct (x.1 27 0))) c 60 m = (qcp (x.1 27 0) c 60 m && !(decide (m < qct (x.1 27 0)) && win (x.1 27 0) m n)) := fun m m0 m1 => by
              have ek : (((866 + 900 * c + 60 + m).toNat : Nat) : Int) - (866 + 900 * c + 60) = m := by omega
              show decide (qvi (x.1 27 0) c n (qct (x.1 27 0)) (866 + 900 * c + 60 + m).toNat = 1) = _
              unfold qvi
              rw [ek]
              by_cases w : (qcp (x.1 27 0) c 60 m && win (x.1 27 0) m n) = true
              · rw [Bool.and_eq_true] at w
                have hle := win_le w.2
                by_cases u : m < qct (x.1 27 0)
                · rw [if_pos ⟨by omega, by omega, by rw [w.1, w.2]; rfl⟩, w.1, w.2, decide_eq_true u]; rfl
                · rw [if_neg (by omega), decide_eq_false u]
                  show qcp (x.1 27 0) c 60 m = _
                  simp
              · rw [if_neg (fun u => w u.2.2)]
                show qcp (x.1 27 0) c 60 m = _
                cases w1 : qcp (x.1 27 0) c 60 m
                · rfl
                · have w2 : win (x.1 27 0) m n = false := by
                    cases w2 : win (x.1 27 0) m n
                    · rfl
                    · rw [w1, w2] at w; exact absurd rfl w
                  rw [w2]; simp
            have eov : ∀ m g : Int, 0 ≤ m → m < 60 → 0 ≤ g → g < 6 → qov (qvi (x.1 27 0) c n (qct (x.1 27 0))) c m g = qov (x.1 27 0) c m g := fun m g m0 m1 g0 g1 => E3 _ (by omega) (by omega)
            have env : ∀ m g : Int, 0 ≤ m → m < 60 → 0 ≤ g → g < 6 → qnv (qvi (x.1 27 0) c n (qct (x.1 27 0))) c m g = qnv (x.1 27 0) c m g := fun m g m0 m1 g0 g1 => E3 _ (by omega) (by omega)
            have hZ : Zr (qvi (x.1 27 0) c n (qct (x.1 27 0))) := fun k hk => by
              unfold qvi; rw [if_neg (by omega)]; exact h.2.1 k hk
            obtain ⟨bv, eb, hbv⟩ := k_below z hz hRy.2.2.1 hb qn.1 (by omega)
            have hwr : ∀ m : Int, 0 ≤ m → m < 64 → has ((y.2 0 (3 * (5 * 0 + c.toNat) + 2) 0) &&& bv) m = (decide (m < qct (x.1 27 0)) && (qcp (x.1 27 0) c 60 m && win (x.1 27 0) m n)) := fun m m0 m1 => by
              rw [has_and, (((hRy.2.2.2.2.1 c qc.1 (by omega)).2 ql).2.1 m m0 m1).2.2, hbv m m0 m1]
              cases decide (m < qct (x.1 27 0)) <;> cases qcp (x.1 27 0) c 60 m <;> rfl
            have hFy : Fg (fun C j => (C = 3 ∧ j = 5 * 0 + c.toNat) ∨ ((C = 0 ∨ C = 23) ∧ (j = 3 * (5 * 0 + c.toNat) + 1 ∨ j = 3 * (5 * 0 + c.toNat) + 2))) y (pl y 0 (3 * (5 * 0 + c.toNat) + 2) (up (y.2 0 (3 * (5 * 0 + c.toNat) + 2)) 0 ((y.2 0 (3 * (5 * 0 + c.toNat) + 2) 0) &&& (((y.2 0 (3 * (5 * 0 + c.toNat) + 2) 0) &&& bv) ^^^ (BitVec.ofInt 64 (-1)))))) := Fg.rf.pl (Or.inr ⟨Or.inl rfl, Or.inr rfl⟩)
            have hWL : WL (qvi (x.1 27 0) c n (qct (x.1 27 0))) c := by
              intro w
              obtain ⟨b1, b2, b3, b4, b5, b6⟩ := hwl ql
              refine ⟨by rw [eln, ect]; exact b1, by rw [ele]; exact b2, by rw [elx]; exact b3, ⟨?_, ?_, ?_⟩, ?_, ?_⟩
              · rw [ecp _ _ (by omega) (by omega) (by omega)]; exact b4.1
              · intro m g m0 m1 g0 g1
                rw [efc] at g0
                have hf := hb.2.1
                rw [eov m g m0 m1 (by omega) g1, env m g m0 m1 (by omega) g1]; exact b4.2.1 m g m0 m1 g0 g1
              · intro m m0 m1 hm
                rw [ec6 m m0 m1, Bool.and_eq_true] at hm
                rw [ecp _ _ (by omega) m0 m1, ecp _ _ (by omega) m0 m1]; exact b4.2.2 m m0 m1 hm.1
              · intro m g m0 m1 g0 g1
                rw [ect] at m0
                rw [env m g (by omega) m1 g0 g1]; exact b5 m g m0 m1 g0 g1
              · intro m m0 m1
                rw [ect] at m0
                have := b6 m m0 m1
                rw [ecp 0 m (by omega) (by omega) m1, ecp 120 m (by omega) (by omega) m1, ec6 m (by omega) m1, this.2.1]; exact ⟨this.1, rfl, this.2.2⟩
            have hR1 : Rs (pl y 0 (3 * (5 * 0 + c.toNat) + 2) (up (y.2 0 (3 * (5 * 0 + c.toNat) + 2)) 0 ((y.2 0 (3 * (5 * 0 + c.toNat) + 2) 0) &&& (((y.2 0 (3 * (5 * 0 + c.toNat) + 2) 0) &&& bv) ^^^ (BitVec.ofInt 64 (-1)))))) 0 (qvi (x.1 27 0) c n (qct (x.1 27 0))) := by
              refine Rs_Slc hS qc.1 (by omega) hRy hFy hWL ?_
              obtain ⟨L1, L2⟩ := hRy.2.2.2.2.1 c qc.1 (by omega)
              obtain ⟨⟨l1, l2, l3⟩, lr, lv⟩ := L2 ql
              rw [← ehl] at L1
              refine ⟨L1, fun w => ⟨⟨by rw [eln]; exact l1, by rw [ele]; exact l2, by rw [elx]; exact l3⟩, fun m m0 m1 => ?_, fun m g m0 m1 g0 g1 => ?_⟩⟩
              · obtain ⟨b1, b2, b3⟩ := lr m m0 m1
                rw [pl_C (by decide), pl_j (show 3 * (5 * 0 + c.toNat) + 1 ≠ 3 * (5 * 0 + c.toNat) + 2 by omega), pl_s, up_s, ect]
                by_cases q : m < qct (x.1 27 0)
                · rw [ecp _ _ (by omega) m0 (by omega), ecp _ _ (by omega) m0 (by omega), ec6 m m0 (by omega), decide_eq_true q, Bool.true_and]
                  rw [decide_eq_true q] at b1 b2
                  refine ⟨b1, b2, ?_⟩
                  rw [has_and, has_not m0 m1, hwr m m0 m1, b3, decide_eq_true q]
                  cases qcp (x.1 27 0) c 60 m <;> cases win (x.1 27 0) m n <;> rfl
                · rw [decide_eq_false q] at b1 b2 b3 ⊢
                  refine ⟨b1, b2, ?_⟩
                  rw [has_and, b3]; rfl
              · rw [ecp _ _ (by omega) m0 (by omega), ecp _ _ (by omega) m0 (by omega), eov m g m0 m1 g0 g1, env m g m0 m1 g0 g1, pl_1]
                exact lv m g m0 m1 g0 g1
            have hcnt : pcnt ((y.2 0 (3 * (5 * 0 + c.toNat) + 2) 0) &&& bv) = cn (fun m => qcp (x.1 27 0) c 60 m && win (x.1 27 0) m n) (qct (x.1 27 0)).toNat := by
              rw [pcnt_e]
              refine cn_part (N := qct (x.1 27 0)) (M := 64) (by omega) (by omega) (fun i i0 i1 => ?_) (fun i i0 i1 => ?_)
              · rw [hwr i i0 (by omega), decide_eq_true i1]; rfl
              · rw [hwr i (by omega) i1, decide_eq_false (by omega)]; rfl
            refine Pr.chg h hF hHI (Fg.rf.pl (own_b (Or.inl rfl) (by omega)).2) hR1 hZ (b := cn (fun m => qcp (x.1 27 0) c 60 m && win (x.1 27 0) m n) (qct (x.1 27 0)).toNat) ?_ (fun q => ?_)
            · unfold F_X7_removeNode
              rw [rc_t h qc, bndXl, rn_t h qn, bndXl, rl_t h qc.1 (by omega) ql, bndXl, rp_t h qc.1 (by omega) ql qn qi, bndXl, ckI_t qc.1 (by omega), g1, if_neg qe, e, sbind, ckI_t qc.1 (by omega), eb, sbind, sbind, wL_pl, hcnt]
            · have q27 := q 27 0 (by omega)
              generalize pl y 0 (3 * (5 * 0 + c.toNat) + 2) (up (y.2 0 (3 * (5 * 0 + c.toNat) + 2)) 0 ((y.2 0 (3 * (5 * 0 + c.toNat) + 2) 0) &&& (((y.2 0 (3 * (5 * 0 + c.toNat) + 2) 0) &&& bv) ^^^ (BitVec.ofInt 64 (-1))))) = y1 at *
              unfold F_X8_removeNode F_X8_removeNode_27 F_X8_removeNode_75
              rw [sbind, th_w, nC q27 hb, sbind, dt qc, nN q27 hb, sbind, dt qn, e_fails1, sbind, it0, nH q27 qc.1 (by omega), sbind, ib, if_neg (by rw [ql]; decide), n_is q27 qc.1 (by omega) (by omega) qn.1 (by omega), sbind, ib, if_neg (by rw [qi]; decide), ckR_t (by omega) (by omega), ckR_t (by omega) (by omega), ckI_t (by omega) (by omega), th_C (by decide), q27, if_neg (show ¬ x.1 27 0 (611 + 3 * c).toNat = n from qe), e_fails1, sbind, it0, n_rec hz h q, sbind, e_remove hz (r := x.1 27 0) (by rw [rm_C (by decide) (by decide), q27]) hb ht qc.1 (by omega) qn.1 qn.2, sbind]
      · refine Pr.get h (y := .inr sS) ?_ (b := 0) (t := 2) ?_ (Ok.x rfl (by decide))
        · unfold F_X7_removeNode
          rw [rc_t h qc, bndXl, rn_t h qn, bndXl, rl_f h qc.1 (by omega) (by simpa using ql), bndXr]
        · unfold F_X8_removeNode F_X8_removeNode_27 F_X8_removeNode_74 F_X8_removeNode_75
          rw [sbind, th_w, mC h, sbind, dt qc, mN h, sbind, dt qn, e_fails1, sbind, it0, mH qc.1 (by omega), sbind, ib, if_pos (by simpa using ql), e_fails0, sbind, it1, th_th]
    · refine Pr.get h (y := .inr sI) ?_ (b := 0) (t := 1) ?_ (Ok.x rfl (by decide))
      · unfold F_X7_removeNode
        rw [rc_t h qc, bndXl, rn_f h qn, bndXr]
      · unfold F_X8_removeNode F_X8_removeNode_26 F_X8_removeNode_27
        rw [sbind, th_w, mC h, sbind, dt qc, mN h, sbind, df qn, e_fails0, sbind, it1, th_th]
  · refine Pr.get h (y := .inr sI) ?_ (b := 0) (t := 1) ?_ (Ok.x rfl (by decide))
    · unfold F_X7_removeNode
      rw [rc_f h qc, bndXr]
    · unfold F_X8_removeNode F_X8_removeNode_26 F_X8_removeNode_27
      rw [sbind, th_w, mC h, sbind, df qc, e_fails0, sbind, it1, th_th]
end
