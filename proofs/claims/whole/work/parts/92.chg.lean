/-! Calls that change: what they have in common. -/
theorem Inv_ch {x y w : Mm} (h : Inv x) (hF : Fo (fun o => (o ≤ 12 ∧ o ≠ 1) ∨ o = 102) x y) (hR : Rs y 0 (w.1 27 0)) (hZ : Zr (w.1 27 0)) (hH : HI y (w.1 28 0) (w.1 8 0 12)) (hT : 0 ≤ y.1 1 11 0 ∧ y.1 1 11 0 ≤ 40) (hw : Fo (fun o => o = 108 ∨ o = 127 ∨ o = 128) y w) (h2 : w.1 27 2 = y.1 27 2) (h13 : w.1 8 0 13 = y.1 8 0 13) (hl : w.1 8 0 2 = y.1 8 0 2) : Inv w := by
  obtain ⟨a1, a2, a3, a4, a5, a6⟩ := h
  have f : ∀ C j, (C = 5 ∨ C = 7 ∨ C = 8 ∨ C = 25 ∨ C = 26 ∨ C = 27) → y.1 C j = x.1 C j ∧ y.2 C j = x.2 C j := fun C j q => fo_o hF (by omega) (by omega) (by omega) (by omega)
  have g : ∀ C j, (C = 5 ∨ C = 7 ∨ C = 25 ∨ C = 26) → w.1 C j = y.1 C j ∧ w.2 C j = y.2 C j := fun C j q => fo_o hw (by omega) (by omega) (by omega) (by omega)
  refine ⟨Rs_fr hR hw (by omega), hZ, ?_, HI_fr hH hw (fun o _ _ => by omega) (by omega), ?_, ?_⟩
  · unfold SV
    rw [h13, h2, (g 7 0 (by omega)).1, (f 7 0 (by omega)).1, (f 8 0 (by omega)).1, (f 27 2 (by omega)).1]
    exact ⟨a3.1, a3.2.1, fun q => Rs_fr (Rs_fr (a3.2.2.1 q) hF (by omega)) hw (by omega), a3.2.2.2⟩
  · unfold TX
    rw [hl, (g 5 0 (by omega)).1, (g 25 0 (by omega)).1, (g 26 0 (by omega)).1, (f 5 0 (by omega)).1, (f 25 0 (by omega)).1, (f 26 0 (by omega)).1, (f 8 0 (by omega)).1]
    exact a5
  · have e := hw 1 11 (by show ¬ (own 1 11 = 108 ∨ _); rw [own_s (by omega)]; omega)
    rw [e.1]; exact hT
/-- behind the class's push: what still holds of x, told of y -/
theorem Inv_tr {x y : Mm} (h : Inv x) (hF : Fo (fun o => (2 ≤ o ∧ o < 10) ∨ o = 102) x y) : (∀ C j, (C = 8 ∨ C = 26 ∨ C = 27 ∨ C = 28) → y.1 C j = x.1 C j) ∧ (0 ≤ y.1 1 11 0 ∧ y.1 1 11 0 ≤ 40) := by
  refine ⟨fun C j q => (fo_o hF (by omega) (by omega) (by omega) (by omega)).1, ?_⟩
  have e := hF 1 11 (by show ¬ ((2 ≤ own 1 11 ∧ own 1 11 < 10) ∨ own 1 11 = 102); rw [own_s (by omega)]; omega)
  rw [e.1]; exact h.2.2.2.2.2
/-- the model's memory behind record -/
def rm (y : Mm) (h : Nat → Int) (e : Int) : Mm := pj (pj y 28 0 h) 8 0 (up (up (y.1 8 0) 0 0) 12 e)
theorem e_rec {z : Nat} (hz : 50000 ≤ z) {y : Mm} (h0 : 0 ≤ y.1 8 0 12) (h1 : y.1 8 0 12 ≤ 8) : F_X8_record z 0 (th y 0) = some (rm y (hrec (y.1 28 0) (y.1 8 0 12) (y.1 27 0)) (enx (y.1 8 0 12))) := by
  have e := e_record z hz (th y 0) (by rw [th_k (by decide)]; exact h0) (by rw [th_k (by decide)]; exact h1)
  rw [th_k (by decide), th_C (by decide), th_C (by decide)] at e
  rw [e]
  unfold th rm
  rw [pj_cm (C := 8) (C' := 28) (by omega), pj_pj, pj_s]
theorem rm_C {y : Mm} {h : Nat → Int} {e : Int} {C j : Nat} (h8 : C ≠ 8) (h28 : C ≠ 28) : (rm y h e).1 C j = y.1 C j := by
  unfold rm; rw [pj_C h8, pj_C h28]
theorem rm_2 {y : Mm} {h : Nat → Int} {e : Int} : (rm y h e).2 = y.2 := rfl
theorem rm_8 {y : Mm} {h : Nat → Int} {e : Int} : (rm y h e).1 8 0 = up (up (y.1 8 0) 0 0) 12 e := by
  unfold rm; rw [pj_s]
theorem rm_28 {y : Mm} {h : Nat → Int} {e : Int} : (rm y h e).1 28 0 = h := by
  unfold rm; rw [pj_C (by decide), pj_s]
theorem rm_fo {y : Mm} {h : Nat → Int} {e : Int} : Fo (fun o => o = 108 ∨ o = 127 ∨ o = 128) y (rm y h e) := (Fg.rf.pj (Or.inr (Or.inr (own_8 (by omega))))).pj (Or.inl (own_8 (by omega)))
/-- the end of a call that changes: the row r', the rest as record left it, but for the count of conflicts -/
theorem Inv_end {x y y1 w : Mm} {r' m' : Nat → Int} (h : Inv x) (hF : Fo (fun o => (2 ≤ o ∧ o < 10) ∨ o = 102) x y) (hH : HI y (hrec (x.1 28 0) (x.1 8 0 12) (x.1 27 0)) (enx (x.1 8 0 12))) (hF1 : Fo (fun o => o = 0) y y1) (hR : Rs y1 0 r') (hZ : Zr r') (hw : w = pj (pj (rm y1 (hrec (x.1 28 0) (x.1 8 0 12) (x.1 27 0)) (enx (x.1 8 0 12))) 27 0 r') 8 0 m') (hm : m' 12 = enx (x.1 8 0 12) ∧ m' 13 = x.1 8 0 13 ∧ m' 2 = x.1 8 0 2) : Inv w := by
  obtain ⟨q1, q2⟩ := Inv_tr h hF
  have e8 : y1.1 8 0 = x.1 8 0 := ((fo_o hF1 (C := 8) (j := 0) (by omega) (by omega) (by omega) (by omega)).1).trans (q1 8 0 (by omega))
  have w27 : w.1 27 0 = r' := by rw [hw, pj_C (by decide), pj_s]
  have w28 : w.1 28 0 = hrec (x.1 28 0) (x.1 8 0 12) (x.1 27 0) := by rw [hw, pj_C (by decide), pj_C (by decide), rm_28]
  have w8 : w.1 8 0 = m' := by rw [hw, pj_s]
  refine Inv_ch h (y := y1) ((hF.mono (fun C j q => ?_)).tr (hF1.mono (fun C j q => ?_))) (by rw [w27]; exact hR) (by rw [w27]; exact hZ) (by rw [w28, w8, hm.1]; exact HI_fr hH hF1 (fun o _ _ => by omega) (by omega)) ?_ ?_ ?_ ?_ ?_
  · show (_ ∧ _) ∨ _; omega
  · show (_ ∧ _) ∨ _; omega
  · have e := hF1 1 11 (by show ¬ own 1 11 = 0; rw [own_s (by omega)]; omega)
    rw [e.1]; exact q2
  · rw [hw]
    exact (rm_fo.pj (Or.inr (Or.inl (own_8 (by omega))))).pj (Or.inl (own_8 (by omega)))
  · rw [hw, pj_C (by decide), pj_j (by decide), rm_C (by decide) (by decide)]
  · rw [w8, hm.2.1, e8]
  · rw [w8, hm.2.2, e8]
/-- all but one client's lease as it was -/
def Slc (r r1 : Nat → Int) (c : Int) : Prop := ∀ i : Int, 0 ≤ i → ¬ (611 + 3 * c ≤ i ∧ i < 614 + 3 * c) → ¬ (866 + 900 * c ≤ i ∧ i < 866 + 900 * c + 900) → r1 i.toNat = r i.toNat
section
variable {r r1 : Nat → Int} {c : Int}
theorem Slc.sm (h : Slc r r1 c) (c0 : 0 ≤ c) {i : Int} (i0 : 0 ≤ i) (i1 : i < 611 ∨ (626 ≤ i ∧ i < 866)) (c1 : c < 5) : r1 i.toNat = r i.toNat := h i i0 (by omega) (by omega)
theorem Slc.ct (h : Slc r r1 c) (c0 : 0 ≤ c) (c1 : c < 5) : qct r1 = qct r := h.sm c0 (by omega) (by omega) c1
theorem Slc.fc (h : Slc r r1 c) (c0 : 0 ≤ c) (c1 : c < 5) : qfc r1 = qfc r := h.sm c0 (by omega) (by omega) c1
theorem Slc.wk (h : Slc r r1 c) (c0 : 0 ≤ c) (c1 : c < 5) (hb : Wb r) (ht : Wt r) {m : Int} (hm : 0 ≤ m) : ∀ (t : Nat) (n : Int), n < qct r → qwk r1 m t n = qwk r m t n := by
  intro t
  induction t with
  | zero => intro n _; rfl
  | succ t ih =>
    intro n hn
    show (if n ≤ m then n else qwk r1 m t (qpa r1 n)) = (if n ≤ m then n else qwk r m t (qpa r n))
    by_cases q : n ≤ m
    · rw [if_pos q, if_pos q]
    · have hp := ht.2.2 n (by omega) hn
      have := hb.2.2.2.1
      have e : qpa r1 n = qpa r n := h.sm c0 (by omega) (by omega) c1
      rw [if_neg q, if_neg q, e, ih _ (by omega)]
theorem Slc.wi (h : Slc r r1 c) (c0 : 0 ≤ c) (c1 : c < 5) (hb : Wb r) (ht : Wt r) {m n : Int} (hm : 0 ≤ m) (hn : n < qct r) : win r1 n m = win r n m := by
  unfold win; rw [h.wk c0 c1 hb ht hm 64 n hn]
theorem Slc.W (h : Slc r r1 c) (c0 : 0 ≤ c) (c1 : c < 5) (hW : Wq r) (hL : WL r1 c) : Wq r1 := by
  obtain ⟨hb, ht, ha, hr, hv, hl, hk⟩ := hW
  have h60 := hb.2.2.2.1
  have e0 : ∀ i : Int, 0 ≤ i → (i < 611 ∨ (626 ≤ i ∧ i < 866)) → r1 i.toNat = r i.toNat := fun i i0 i1 => h.sm c0 i0 i1 c1
  have ect := h.ct c0 c1
  have efc := h.fc c0 c1
  have ekc : qkc r1 = qkc r := e0 4 (by omega) (by omega)
  have hSo : ∀ i : Int, 0 ≤ i → i < 611 → r1 i.toNat = r i.toNat := fun i i0 i1 => e0 i i0 (by omega)
  have eal : ∀ n : Int, 0 ≤ n → n < 60 → qal r1 n = qal r n := fun n n0 n1 => by unfold qal; rw [hSo _ (by omega) (by omega)]
  have epa : ∀ n : Int, 0 ≤ n → n < 60 → qpa r1 n = qpa r n := fun n n0 n1 => hSo _ (by omega) (by omega)
  have elb : ∀ n : Int, 0 ≤ n → n < 60 → qlb r1 n = qlb r n := fun n n0 n1 => hSo _ (by omega) (by omega)
  refine ⟨?_, ?_, ?_, ?_, ?_, ?_, ?_⟩
  · unfold Wb
    rw [show qtk r1 = qtk r from hSo 0 (by omega) (by omega), efc, show qcc r1 = qcc r from hSo 2 (by omega) (by omega), ect, ekc]; exact hb
  · refine ⟨by rw [epa 0 (by omega) (by omega)]; exact ht.1, by rw [elb 0 (by omega) (by omega)]; exact ht.2.1, fun n n0 n1 => ?_⟩
    rw [ect] at n1
    rw [epa n (by omega) (by omega), elb n (by omega) (by omega)]; exact ht.2.2 n n0 n1
  · refine ⟨fun n n0 n1 => by rw [hSo _ (by omega) (by omega)]; exact ha.1 n n0 n1, fun n n0 n1 => ?_, fun n n0 n1 hn => ?_, fun n m n0 n1 m0 m1 hnm hn hm hp => ?_⟩
    · rw [ect] at n0; rw [eal n (by omega) n1]; exact ha.2.1 n n0 n1
    · rw [ect] at n1
      have hp := ht.2.2 n n0 n1
      rw [eal n (by omega) (by omega)] at hn
      rw [epa n (by omega) (by omega), eal _ (by omega) (by omega)]; exact ha.2.2.1 n n0 n1 hn
    · rw [ect] at n1 m1
      rw [eal n (by omega) (by omega)] at hn
      rw [eal m (by omega) (by omega)] at hm
      rw [epa n (by omega) (by omega), epa m (by omega) (by omega)] at hp
      rw [elb n (by omega) (by omega), elb m (by omega) (by omega)]
      exact ha.2.2.2 n m n0 n1 m0 m1 hnm hn hm hp
  · intro n n0 n1; rw [hSo _ (by omega) (by omega)]; exact hr n n0 n1
  · intro n f n0 n1 f0 f1
    rw [efc] at f0
    have hf := hb.2.1
    show r1 (251 + 6 * n + f).toNat = 0
    rw [hSo _ (by omega) (by omega)]; exact hv n f n0 n1 f0 f1
  · intro d d0 d1
    by_cases e : d = c
    · rw [e]; exact hL
    · have E : ∀ i : Int, (611 + 3 * d ≤ i ∧ i < 614 + 3 * d) ∨ (866 + 900 * d ≤ i ∧ i < 866 + 900 * d + 900) → r1 i.toNat = r i.toNat := fun i hi => h i (by omega) (by omega) (by omega)
      have := hl d d0 d1
      unfold WL at this ⊢
      have eln : qln r1 d = qln r d := E _ (by omega)
      have ehl : qhl r1 d = qhl r d := by unfold qhl; rw [eln]
      have ecp : ∀ p n : Int, 0 ≤ p → 0 ≤ n → p + n < 900 → qcp r1 d p n = qcp r d p n := fun p n p0 n0 n1 => by unfold qcp; rw [E _ (by omega)]
      have eov : ∀ n f : Int, 0 ≤ n → n < 60 → 0 ≤ f → f < 6 → qov r1 d n f = qov r d n f := fun n f n0 n1 f0 f1 => E _ (by omega)
      have env : ∀ n f : Int, 0 ≤ n → n < 60 → 0 ≤ f → f < 6 → qnv r1 d n f = qnv r d n f := fun n f n0 n1 f0 f1 => E _ (by omega)
      rw [ehl, eln, ect, show qle r1 d = qle r d from E _ (by omega), show qlx r1 d = qlx r d from E _ (by omega)]
      intro w
      obtain ⟨b1, b2, b3, b4, b5, b6⟩ := this w
      have hf := hb.2.1
      refine ⟨b1, b2, b3, ⟨?_, ?_, ?_⟩, ?_, ?_⟩
      · rw [ecp _ _ (by omega) (by omega) (by omega)]; exact b4.1
      · intro n f n0 n1 f0 f1
        rw [efc] at f0
        rw [eov n f n0 n1 (by omega) f1, env n f n0 n1 (by omega) f1]; exact b4.2.1 n f n0 n1 f0 f1
      · intro n n0 n1
        rw [ecp _ _ (by omega) n0 (by omega), ecp _ _ (by omega) n0 (by omega), ecp _ _ (by omega) n0 (by omega)]; exact b4.2.2 n n0 n1
      · intro n f n0 n1 f0 f1
        rw [env n f (by omega) n1 f0 f1]; exact b5 n f n0 n1 f0 f1
      · intro n n0 n1
        rw [ecp _ _ (by omega) (by omega) (by omega), ecp _ _ (by omega) (by omega) (by omega), ecp _ _ (by omega) (by omega) (by omega)]; exact b6 n n0 n1
  · exact hk.same hb.2.2.2.2.2 (by omega) efc (fun i hi => e0 i (by omega) (by omega))
/-- a class's memory that differs in one lease's places alone -/
theorem Rs_Slc {x y : Mm} (h : Slc r r1 c) (c0 : 0 ≤ c) (c1 : c < 5) (hR : Rs x 0 r) (hF : Fg (fun C j => (C = 3 ∧ j = 5 * 0 + c.toNat) ∨ ((C = 0 ∨ C = 23) ∧ (j = 3 * (5 * 0 + c.toNat) + 1 ∨ j = 3 * (5 * 0 + c.toNat) + 2))) x y) (hL : WL r1 c) (hLc : RLs y (5 * 0 + c.toNat) c r1) : Rs y 0 r1 := by
  obtain ⟨hW, hH, hN, hB, hLs, hC⟩ := hR
  have hb := hW.1
  have ht := hW.2.1
  have h60 := hb.2.2.2.1
  have hf := hb.2.1
  have e0 : ∀ i : Int, 0 ≤ i → (i < 611 ∨ (626 ≤ i ∧ i < 866)) → r1 i.toNat = r i.toNat := fun i i0 i1 => h.sm c0 i0 i1 c1
  have ect := h.ct c0 c1
  have efc := h.fc c0 c1
  have ekc : qkc r1 = qkc r := e0 4 (by omega) (by omega)
  have f : ∀ C j, ¬ ((C = 3 ∧ j = 5 * 0 + c.toNat) ∨ ((C = 0 ∨ C = 23) ∧ (j = 3 * (5 * 0 + c.toNat) + 1 ∨ j = 3 * (5 * 0 + c.toNat) + 2))) → y.1 C j = x.1 C j ∧ y.2 C j = x.2 C j := hF
  refine ⟨h.W c0 c1 hW hL, ?_, ?_, ?_, ?_, ?_⟩
  · have := RH_fr hH (f 6 0 (by omega)).1 (f 20 0 (by omega)).1
    refine ⟨this.1.trans (e0 0 (by omega) (by omega)).symm, this.2.1.trans efc.symm, this.2.2.1.trans (e0 2 (by omega) (by omega)).symm, fun g g0 g1 => ?_⟩
    rw [efc] at g1
    exact (this.2.2.2 g g0 g1).trans (e0 (5 + g) (by omega) (by omega)).symm
  · have := RN_fr hN (f 4 0 (by omega)).1 (f 4 0 (by omega)).2 (f 21 0 (by omega)).1 (f 22 0 (by omega)).1 (f 30 0 (by omega)).2
    refine ⟨this.1.trans ect.symm, fun n n0 n1 => ?_, fun n n0 n1 => ?_⟩
    · rw [ect] at n1
      obtain ⟨g1, g2, g3⟩ := this.2.1 n n0 n1
      refine ⟨g1.trans (e0 (11 + n) (by omega) (by omega)).symm, g2.trans (e0 (71 + n) (by omega) (by omega)).symm, fun m m0 m1 => ?_⟩
      rw [g3 m m0 m1, h.wi c0 c1 hb ht m0 n1]
    · rw [this.2.2 n n0 n1, ect]
      by_cases q : n < qct r
      · unfold qrc; rw [e0 (131 + n) (by omega) (by omega)]
      · rw [decide_eq_false q]; rfl
  · rw [(f 0 (3 * 0) (by omega)).2, (f 23 (3 * 0) (by omega)).1]
    refine ⟨fun n n0 n1 => ?_, fun n g n0 n1 g0 g1 => ?_⟩
    · rw [hB.1 n n0 n1, ect]
      by_cases q : n < qct r
      · unfold qal; rw [e0 (191 + n) (by omega) (by omega)]
      · rw [decide_eq_false q]; rfl
    · rw [hB.2 n g n0 n1 g0 g1]; exact (e0 (251 + 6 * n + g) (by omega) (by omega)).symm
  · intro d d0 d1
    by_cases e : d = c
    · rw [e]; exact hLc
    · have E : ∀ i : Int, (611 + 3 * d ≤ i ∧ i < 614 + 3 * d) ∨ (866 + 900 * d ≤ i ∧ i < 866 + 900 * d + 900) → r1 i.toNat = r i.toNat := fun i hi => h i (by omega) (by omega) (by omega)
      have L := RL_fr (hLs d d0 d1) (f 3 _ (by omega)).1 (f 3 _ (by omega)).2 (f 0 _ (by omega)).2 (f 0 _ (by omega)).2 (f 23 _ (by omega)).1 (f 23 _ (by omega)).1
      have eln : qln r1 d = qln r d := E _ (by omega)
      have ehl : qhl r1 d = qhl r d := by unfold qhl; rw [eln]
      have ecp : ∀ p n : Int, 0 ≤ p → 0 ≤ n → p + n < 900 → qcp r1 d p n = qcp r d p n := fun p n p0 n0 n1 => by unfold qcp; rw [E _ (by omega)]
      have eov : ∀ n f : Int, 0 ≤ n → n < 60 → 0 ≤ f → f < 6 → qov r1 d n f = qov r d n f := fun n f n0 n1 f0 f1 => E _ (by omega)
      have env : ∀ n f : Int, 0 ≤ n → n < 60 → 0 ≤ f → f < 6 → qnv r1 d n f = qnv r d n f := fun n f n0 n1 f0 f1 => E _ (by omega)
      refine ⟨by rw [ehl]; exact L.1, fun w => ?_⟩
      rw [ehl] at w
      obtain ⟨⟨l1, l2, l3⟩, lr, lv⟩ := L.2 w
      refine ⟨⟨l1.trans eln.symm, l2.trans (E _ (by omega)).symm, l3.trans (E _ (by omega)).symm⟩, fun n n0 n1 => ?_, fun n g n0 n1 g0 g1 => ?_⟩
      · rw [ect]
        obtain ⟨b1, b2, b3⟩ := lr n n0 n1
        by_cases q : n < qct r
        · rw [ecp _ _ (by omega) n0 (by omega), ecp _ _ (by omega) n0 (by omega), ecp _ _ (by omega) n0 (by omega)]; exact ⟨b1, b2, b3⟩
        · rw [decide_eq_false q] at b1 b2 b3 ⊢; exact ⟨b1, b2, b3⟩
      · rw [ecp _ _ (by omega) n0 (by omega), ecp _ _ (by omega) n0 (by omega), eov n g n0 n1 g0 g1, env n g n0 n1 g0 g1]
        exact lv n g n0 n1 g0 g1
  · rw [(f 1 0 (by omega)).1, (f 24 0 (by omega)).1]
    exact hC.same hb.2.2.2.2.2 (fun i hi => e0 i (by omega) (by omega))
end
