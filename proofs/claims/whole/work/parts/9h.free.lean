section
variable {z : Nat} {x y : Mm} {r : Nat → Int} {c : Int}
/-- two trunks as the document compares them -/
def TLn (R O : Nat → Int) (n : Int) : Prop := qal R n = qal O n ∧ (qal R n = true → ∀ f : Int, 0 ≤ f → f < qfc R → qtv R n f = qtv O n f)
def TL (R O : Nat → Int) : Prop := ∀ n : Int, 0 ≤ n → n < qct R → TLn R O n
theorem qal_iff {R : Nat → Int} {n : Int} : qal R n = true ↔ R (191 + n).toNat = 1 := by unfold qal; simp
theorem e_trunkN (hz : 50000 ≤ z) {w : Mm} {R O : Nat → Int} (h1 : w.1 27 0 = R) (h4 : w.1 27 4 = O) (hb : Wb R) {n : Int} (n0 : 0 ≤ n) (n1 : n < 60) : Tt (F_X8_isTrunkLike_36 z 0 4 n w z 0) (fun a => (a = .inl () ∧ (qal R n = true → ∀ f : Int, 0 ≤ f → f < qfc R → qtv R n f = qtv O n f)) ∨ (a = .inr 0 ∧ ¬ (qal R n = true → ∀ f : Int, 0 ≤ f → f < qfc R → qtv R n f = qtv O n f))) := by
  have hf := hb.2.1
  refine loopU (fun k i (_ : Unit) => F_X8_isTrunkLike_36 z 0 4 n w k i) (qfc R) (fun i _ => 0 ≤ i ∧ i ≤ qfc R ∧ (qal R n = true → ∀ f : Int, 0 ≤ f → f < i → qtv R n f = qtv O n f)) _ ?_ ?_ z 0 () (by omega) (by omega) ⟨by omega, by omega, fun _ f f0 f1 => by omega⟩
  · rintro k s i hN ⟨i0, i1, hi⟩
    refine Tt.of (v := .inl ()) ?_ (Or.inl ⟨rfl, fun q f f0 f1 => hi q f f0 (by omega)⟩)
    show (ckI (1 : Int) 5366 <| if w.1 27 0 (1 : Int).toNat ≤ i then _ else _) = _
    rw [ckI_t (by omega) (by omega), h1]
    exact if_pos hN
  · rintro k s i hN ⟨i0, i1, hi⟩
    have e : F_X8_isTrunkLike_36 z 0 4 n w (k + 1) i = (if b2i (qal R n) = 0 then (some (.inl ())) else (if qtv R n i = qtv O n i then F_X8_isTrunkLike_36 z 0 4 n w k (i + 1) else some (.inr (0 : Int)))) := by
      show (ckI (1 : Int) 5366 <| if w.1 27 0 (1 : Int).toNat ≤ i then _ else _) = _
      rw [ckI_t (by omega) (by omega), h1, if_neg (show ¬ (R (1 : Int).toNat ≤ i) from by show ¬ (qfc R ≤ i); omega), e_isAlive z n w n0 n1, sbind, h1, e_value z n i w n0 n1 i0 (by omega), sbind, h1, ckR_t (by omega) (by omega), ckR_t (by omega) (by omega), ckR_t (by omega) (by omega), ckI_t (by omega) (by omega), ckR_t (by omega) (by omega), h4]
      rfl
    show (∃ s', F_X8_isTrunkLike_36 z 0 4 n w (k + 1) i = _ ∧ _) ∨ Tt (F_X8_isTrunkLike_36 z 0 4 n w (k + 1) i) _
    rw [e, ib]
    by_cases qa : qal R n = true
    · rw [if_neg (by rw [qa]; decide)]
      by_cases q : qtv R n i = qtv O n i
      · rw [if_pos q]
        refine Or.inl ⟨(), rfl, by omega, by omega, fun qa f f0 f1 => ?_⟩
        by_cases e : f = i
        · subst e; exact q
        · exact hi qa f f0 (by omega)
      · rw [if_neg q]
        exact Or.inr (Tt.ret (Or.inr ⟨rfl, fun w => q (w qa i i0 hN)⟩))
    · rw [if_pos (by simpa using qa)]
      exact Or.inr (Tt.ret (Or.inl ⟨rfl, fun w => absurd w qa⟩))
theorem e_isTrunkLike (hz : 50000 ≤ z) {w : Mm} {R O : Nat → Int} (h1 : w.1 27 0 = R) (h4 : w.1 27 4 = O) (hb : Wb R) (hR : ∀ n : Int, 0 ≤ n → n < 60 → R (191 + n).toNat = 0 ∨ R (191 + n).toNat = 1) (hO : ∀ n : Int, 0 ≤ n → n < 60 → O (191 + n).toNat = 0 ∨ O (191 + n).toNat = 1) : Tt (F_X8_isTrunkLike z 0 4 w) (fun v => (v = 1 ∧ TL R O) ∨ (v = 0 ∧ ¬ TL R O)) := by
  have h60 := hb.2.2.2.1
  have key : Tt (F_X8_isTrunkLike_2 z 0 4 w z 0) (fun a => (a = .inl () ∧ TL R O) ∨ (a = .inr 0 ∧ ¬ TL R O)) := by
    refine loopU (fun k i (_ : Unit) => F_X8_isTrunkLike_2 z 0 4 w k i) (qct R) (fun i _ => 0 ≤ i ∧ i ≤ qct R ∧ (∀ n : Int, 0 ≤ n → n < i → TLn R O n)) _ ?_ ?_ z 0 () (by omega) (by omega) ⟨by omega, by omega, fun f f0 f1 => by omega⟩
    · rintro k s i hN ⟨i0, i1, hi⟩
      refine Tt.of (v := .inl ()) ?_ (Or.inl ⟨rfl, fun n n0 n1 => hi n n0 (by omega)⟩)
      show (ckI (3 : Int) 5366 <| if w.1 27 0 (3 : Int).toNat ≤ i then _ else _) = _
      rw [ckI_t (by omega) (by omega), h1]
      exact if_pos hN
    · rintro k s i hN ⟨i0, i1, hi⟩
      have hRi := hR i i0 (by omega)
      have hOi := hO i i0 (by omega)
      have e : F_X8_isTrunkLike_2 z 0 4 w (k + 1) i = (if R (191 + i).toNat = O (191 + i).toNat then bndE (fun r => .inr r) (F_X8_isTrunkLike_36 z 0 4 i w z 0) (fun _ => F_X8_isTrunkLike_2 z 0 4 w k (i + 1)) else some (.inr (0 : Int))) := by
        show (ckI (3 : Int) 5366 <| if w.1 27 0 (3 : Int).toNat ≤ i then _ else _) = _
        have cI : ∀ A : Option (Unit ⊕ Int), ckR (i + 1) A = A := fun A => ckR_t (by omega) (by omega)
        have cJ : ∀ A : Option (Unit ⊕ Int), ckR (191 + i) A = A := fun A => ckR_t (by omega) (by omega)
        have cK : ∀ A : Option (Unit ⊕ Int), ckI (191 + i) 5366 A = A := fun A => ckI_t (by omega) (by omega)
        rw [ckI_t (by omega) (by omega), h1, if_neg (show ¬ (R (3 : Int).toNat ≤ i) from by show ¬ (qct R ≤ i); omega)]
        simp only [cI, cJ, cK, h4]
      show (∃ s', F_X8_isTrunkLike_2 z 0 4 w (k + 1) i = _ ∧ _) ∨ Tt (F_X8_isTrunkLike_2 z 0 4 w (k + 1) i) _
      rw [e]
      have hal : R (191 + i).toNat = O (191 + i).toNat ↔ qal R i = qal O i := by
        rw [Bool.eq_iff_iff, qal_iff, qal_iff]; omega
      by_cases q : R (191 + i).toNat = O (191 + i).toNat
      · rw [if_pos q]
        obtain ⟨a, ea, ha⟩ := e_trunkN (z := z) hz h1 h4 hb (n := i) i0 (by omega)
        rw [ea]
        rcases ha with ⟨rfl, hg⟩ | ⟨rfl, hg⟩
        · rw [bndEl]
          refine Or.inl ⟨(), rfl, by omega, by omega, fun n n0 n1 => ?_⟩
          by_cases e : n = i
          · subst e; exact ⟨hal.mp q, hg⟩
          · exact hi n n0 (by omega)
        · rw [bndEr]
          exact Or.inr (Tt.ret (Or.inr ⟨rfl, fun w => hg (w i i0 hN).2⟩))
      · rw [if_neg q]
        exact Or.inr (Tt.ret (Or.inr ⟨rfl, fun w => q (hal.mpr (w i i0 hN).1)⟩))
  obtain ⟨a, ea, ha⟩ := key
  unfold F_X8_isTrunkLike
  rw [ea]
  rcases ha with ⟨rfl, hg⟩ | ⟨rfl, hg⟩
  · rw [bndEl]; exact Tt.ret (Or.inl ⟨rfl, hg⟩)
  · rw [bndEr]; exact Tt.ret (Or.inr ⟨rfl, hg⟩)
theorem bv_ext {a b : BitVec 64} (h : ∀ n : Int, 0 ≤ n → n < 64 → has a n = has b n) : a = b := by
  apply BitVec.eq_of_getLsbD_eq
  intro i hi
  have := h i (by omega) (by omega)
  unfold has at this
  simpa using this
theorem lcm_z {a b : BitVec 64} : lcm a b = 0 ↔ a = b := by
  unfold lcm
  by_cases q : a = b
  · subst q; simp
  · simp only [q, if_false, iff_false]; split <;> decide
theorem k_sameAs (hz : 50000 ≤ z) {b b2 : Nat} {R O : Nat → Int} (h1 : RB (x.2 0 b) (x.1 23 b) R) (h2 : RB (x.2 0 b2) (x.1 23 b2) O) (hb : Wb R) (hct : qct O = qct R) (hfc : qfc O = qfc R) (hv : Wv R) (hv2 : Wv O) : Tt (F_X0_sameAs z b b2 x) (fun v => (v = 1 ∧ TL R O) ∨ (v = 0 ∧ ¬ TL R O)) := by
  have h60 := hb.2.2.2.1
  have hf := hb.2.1
  unfold F_X0_sameAs
  by_cases q : lcm (x.2 0 b 0) (x.2 0 b2 0) = 0
  · rw [if_pos q]
    rw [lcm_z] at q
    have hal : ∀ n : Int, 0 ≤ n → n < qct R → qal R n = qal O n := by
      intro n n0 n1
      have a1 := h1.1 n n0 (by omega)
      have a2 := h2.1 n n0 (by omega)
      rw [q, a2, hct, decide_eq_true n1, Bool.true_and, Bool.true_and] at a1
      exact a1.symm
    have key : Tt (F_X0_sameAs_16 z b b2 x z 0) (fun a => (a = .inl () ∧ TL R O) ∨ (a = .inr 0 ∧ ¬ TL R O)) := by
      refine loopU (fun k i (_ : Unit) => F_X0_sameAs_16 z b b2 x k i) 60 (fun i _ => 0 ≤ i ∧ i ≤ 60 ∧ (∀ n : Int, 0 ≤ n → n < i → n < qct R → TLn R O n)) _ ?_ ?_ z 0 () (by omega) (by omega) ⟨by omega, by omega, fun f f0 f1 => by omega⟩
      · rintro k s i hN ⟨i0, i1, hi⟩
        refine Tt.of (v := .inl ()) ?_ (Or.inl ⟨rfl, fun n n0 n1 => hi n n0 (by omega) n1⟩)
        show (if (60 : Int) ≤ i then _ else _) = _
        exact if_pos hN
      · rintro k s i hN ⟨i0, i1, hi⟩
        show (∃ s', F_X0_sameAs_16 z b b2 x (k + 1) i = _ ∧ _) ∨ Tt (F_X0_sameAs_16 z b b2 x (k + 1) i) _
        have cI : ∀ A : Option (Unit ⊕ Int), ckR (i + 1) A = A := fun A => ckR_t (by omega) (by omega)
        have e : F_X0_sameAs_16 z b b2 x (k + 1) i = (if has (x.2 0 b 0) i = false then F_X0_sameAs_16 z b b2 x k (i + 1) else if cn (fun f => !decide (x.1 23 b (i * 6 + f).toNat = x.1 23 b2 (i * 6 + f).toNat)) (6 : Int).toNat ≤ 0 then F_X0_sameAs_16 z b b2 x k (i + 1) else some (.inr (0 : Int))) := by
          show (if (60 : Int) ≤ i then _ else _) = _
          rw [if_neg (by omega), k_has z x i0 (by omega), sbind, ib, k_countDifferent z x hz i0 (by omega), sbind, cI]
        rw [e, h1.1 i i0 (by omega)]
        by_cases qa : (decide (i < qct R) && qal R i) = false
        · rw [if_pos qa]
          refine Or.inl ⟨(), rfl, by omega, by omega, fun n n0 n1 n2 => ?_⟩
          by_cases e : n = i
          · subst e
            rw [decide_eq_true n2, Bool.true_and] at qa
            exact ⟨hal n n0 n2, fun w => by rw [qa] at w; cases w⟩
          · exact hi n n0 (by omega) n2
        · rw [if_neg qa]
          have qa' : i < qct R ∧ qal R i = true := by simpa using qa
          have hcn := cn_leI (fun f => !decide (x.1 23 b (i * 6 + f).toNat = x.1 23 b2 (i * 6 + f).toNat)) 6 (by omega)
          have veq : ∀ f : Int, 0 ≤ f → f < 6 → (x.1 23 b (i * 6 + f).toNat = x.1 23 b2 (i * 6 + f).toNat ↔ qtv R i f = qtv O i f) := fun f f0 f1 => by
            rw [h1.2 i f i0 (by omega) f0 f1, h2.2 i f i0 (by omega) f0 f1]
          by_cases qc : cn (fun f => !decide (x.1 23 b (i * 6 + f).toNat = x.1 23 b2 (i * 6 + f).toNat)) (6 : Int).toNat ≤ 0
          · rw [if_pos qc]
            have hall : ∀ f : Int, 0 ≤ f → f < 6 → qtv R i f = qtv O i f := by
              intro f f0 f1
              by_cases w : x.1 23 b (i * 6 + f).toNat = x.1 23 b2 (i * 6 + f).toNat
              · exact (veq f f0 f1).mp w
              · have := cn_one (p := fun f => !decide (x.1 23 b (i * 6 + f).toNat = x.1 23 b2 (i * 6 + f).toNat)) (k := (6 : Int).toNat) (i := f) f0 (by show f < 6; omega) (by simp only [decide_eq_false w]; rfl)
                omega
            refine Or.inl ⟨(), rfl, by omega, by omega, fun n n0 n1 n2 => ?_⟩
            by_cases e : n = i
            · subst e; exact ⟨hal n n0 n2, fun _ f f0 f1 => hall f f0 (by omega)⟩
            · exact hi n n0 (by omega) n2
          · rw [if_neg qc]
            refine Or.inr (Tt.ret (Or.inr ⟨rfl, fun w => qc ?_⟩))
            rw [cn_none (N := 6)]
            · decide
            · intro f f0 f1
              have : x.1 23 b (i * 6 + f).toNat = x.1 23 b2 (i * 6 + f).toNat := (veq f f0 f1).mpr (by
                by_cases qf : f < qfc R
                · exact (w i i0 qa'.1).2 qa'.2 f f0 qf
                · rw [hv i f i0 (by omega) (by omega) f1, hv2 i f i0 (by omega) (by omega) f1])
              simp only [decide_eq_true this]; rfl
    obtain ⟨a, ea, ha⟩ := key
    rw [ea]
    rcases ha with ⟨rfl, hg⟩ | ⟨rfl, hg⟩
    · rw [bndEl]; exact Tt.ret (Or.inl ⟨rfl, hg⟩)
    · rw [bndEr]; exact Tt.ret (Or.inr ⟨rfl, hg⟩)
  · rw [if_neg q]
    refine Tt.ret (Or.inr ⟨rfl, fun w => q ?_⟩)
    rw [lcm_z]
    refine bv_ext (fun n n0 n1 => ?_)
    rw [h1.1 n n0 n1, h2.1 n n0 n1, hct]
    by_cases qn : n < qct R
    · rw [(w n n0 qn).1]
    · rw [decide_eq_false qn]; rfl
/-- what a merge that ends the lease leaves of a row -/
theorem qm_sm (h : Wq r) (c0 : 0 ≤ c) (c1 : c < 5) (ql : qhl r c = true) : qct (qen (qm3 c (r, 0)).1 c) = qct r ∧ qfc (qen (qm3 c (r, 0)).1 c) = qfc r ∧ (∀ d : Int, 0 ≤ d → d < 5 → d ≠ c → qhl (qen (qm3 c (r, 0)).1 c) d = qhl r d) ∧ 0 ≤ (qm3 c (r, 0)).2 ∧ (qm3 c (r, 0)).2 ≤ 1000 := by
  have hM := (MW.m3 (c := c) h.2.2.1 h.2.2.2.2.2.2 h.1 h.2.1 c0 (h.2.2.2.2.2.1 c c0 c1 ql).2.2.2.1.1).1
  have hS := Slc_qen (r := (qm3 c (r, 0)).1) c0 c1
  refine ⟨(hS.ct c0 c1).trans hM.1.ct, (hS.sm c0 (by omega) (by omega) c1).trans (hM.1 1 (by omega) (by omega) (by omega) (by omega)), fun d d0 d1 dc => ?_, hM.2.2⟩
  have e : qln (qen (qm3 c (r, 0)).1 c) d = qln r d := (hS (611 + 3 * d) (by omega) (by omega) (by omega)).trans (hM.1 (611 + 3 * d) (by omega) (by omega) (by omega) (by omega))
  unfold qhl; rw [e]
theorem p_wouldBe (hz : 50000 ≤ z) (h : Inv x) (c n f : Int) : Pr [sI, sS, sN] (F_X7_wouldBe z 0 c n f) (F_X8_wouldBe z 0 c n f) x := by
  have hb := h.1.1.1
  have h60 := hb.2.2.2.1
  have hcc := hb.2.2.1
  have hfc := hb.2.1
  by_cases qc : 0 ≤ c ∧ c < qcc (x.1 27 0)
  · by_cases qn : 0 ≤ n ∧ n < qct (x.1 27 0)
    · by_cases qf : 0 ≤ f ∧ f < qfc (x.1 27 0)
      · by_cases ql : qhl (x.1 27 0) c = true
        · obtain ⟨⟨v, y⟩, e, hv, hB, hT, hF⟩ := k_tr1 (z := z) hz h qc.1 (by omega) ql
          simp only at hv hB hT hF
          have q27 : y.1 27 0 = x.1 27 0 := (fo_o hF (by omega) (by omega) (by omega) (by omega)).1
          have hct := (qm_sm h.1.1 qc.1 (by omega) ql).1
          obtain ⟨⟨w1, f1, m1⟩, _, _⟩ := Mq_copy (z := z) hz (Mq_0 (x := y))
          rw [q27] at m1
          obtain ⟨w2, f2, m2⟩ := Mq_merge (z := z) hz m1 h.1.1 qc.1 (by omega) ql
          obtain ⟨_, ⟨w3, f3, m3⟩, _⟩ := Mq_copy (z := z) hz m2
          rw [cp5_b h.2.1 (zr_qen (zr_m3 h.2.1 hb) qc.1 (by omega))] at m3
          have hI3 := Inv_trial h hF hT m3
          have w0 := m3.2.2.2.2.1
          have w27 := m2.1
          generalize qen (qm3 c (x.1 27 0, 0)).1 c = R at *
          obtain ⟨u, eu, eu2⟩ := bnd_s' e
          have e8 : F_X8_wouldBe z 0 c n f y = (F_X8_fails z 0 (b2i (qal R n)) 3 w3).bind fun r21 => if r21.1 = 0 then (some ((qtv R n f, r21.2))) else (some (((0 : Int), r21.2))) := by
            unfold F_X8_wouldBe F_X8_wouldBe_35
            rw [sbind, th_w, nC q27 hb, sbind, dt qc, nN q27 hb, sbind, dt qn, nF q27 hb, sbind, dt qf, e_fails1, sbind, it0, nH q27 qc.1 (by omega), sbind, e_failst ql, sbind, it0, f1, sbind, f2, sbind, e_isAlive z n w2 qn.1 (by omega), sbind, e_value z n f w2 qn.1 (by omega) qf.1 (by omega), sbind, f3, sbind, w27]
          have e7 : F_X7_wouldBe z 0 c n f x = if qal R n = false then some (.inr sN, y) else some (.inl (qtv R n f), y) := by
            unfold F_X7_wouldBe
            rw [rc_t h qc, bndXl, rn_t h qn, bndXl, rf_t h qf, bndXl, rl_t h qc.1 (by omega) ql, bndXl, eu, sbind, eu2, sbind, k_has z y qn.1 (by omega), sbind, ib, hB.1 n qn.1 (by omega), hct, decide_eq_true qn.2, Bool.true_and, k_valueOf z y qn.1 (by omega) qf.1 (by omega), sbind, hB.2 n f qn.1 (by omega) qf.1 (by omega)]
          cases qa : qal R n
          · rw [qa] at e7 e8
            refine ⟨.inr sN, y, 0, th w3 3, e7, by rw [e8, show b2i false = 0 from rfl, e_fails0, sbind, it1], Inv_th hI3, ?_⟩
            rw [th_0]; exact Ok.x rfl (by decide)
          · rw [qa] at e7 e8
            refine ⟨.inl (qtv R n f), y, qtv R n f, w3, e7, by rw [e8, show b2i true = 1 from rfl, e_fails1, sbind, it0], hI3, ?_⟩
            rw [w0]; exact Ok.v
        · refine Pr.get h (y := .inr sS) ?_ (b := 0) (t := 2) ?_ (Ok.x rfl (by decide))
          · unfold F_X7_wouldBe
            rw [rc_t h qc, bndXl, rn_t h qn, bndXl, rf_t h qf, bndXl, rl_f h qc.1 (by omega) (by simpa using ql), bndXr]
          · unfold F_X8_wouldBe F_X8_wouldBe_35
            rw [sbind, th_w, mC h, sbind, dt qc, mN h, sbind, dt qn, mF' h, sbind, dt qf, e_fails1, sbind, it0, mH qc.1 (by omega), sbind, e_failsf (by simpa using ql), sbind, it1, th_th]
      · refine Pr.get h (y := .inr sI) ?_ (b := 0) (t := 1) ?_ (Ok.x rfl (by decide))
        · unfold F_X7_wouldBe
          rw [rc_t h qc, bndXl, rn_t h qn, bndXl, rf_f h qf, bndXr]
        · unfold F_X8_wouldBe F_X8_wouldBe_34 F_X8_wouldBe_35
          rw [sbind, th_w, mC h, sbind, dt qc, mN h, sbind, dt qn, mF' h, sbind, df qf, e_fails0, sbind, it1, th_th]
    · refine Pr.get h (y := .inr sI) ?_ (b := 0) (t := 1) ?_ (Ok.x rfl (by decide))
      · unfold F_X7_wouldBe
        rw [rc_t h qc, bndXl, rn_f h qn, bndXr]
      · unfold F_X8_wouldBe F_X8_wouldBe_34 F_X8_wouldBe_35
        rw [sbind, th_w, mC h, sbind, dt qc, mN h, sbind, df qn, e_fails0, sbind, it1, th_th]
  · refine Pr.get h (y := .inr sI) ?_ (b := 0) (t := 1) ?_ (Ok.x rfl (by decide))
    · unfold F_X7_wouldBe
      rw [rc_f h qc, bndXr]
    · unfold F_X8_wouldBe F_X8_wouldBe_34 F_X8_wouldBe_35
      rw [sbind, th_w, mC h, sbind, df qc, e_fails0, sbind, it1, th_th]
/-- two merges into a trial trunk -/
theorem k_both (hz : 50000 ≤ z) {b : Nat} {d : Int} (hb3 : b = 33 ∨ b = 36) (hR : Rv x r) (hB : RB (x.2 0 0) (x.1 23 0) r) (hT : 0 ≤ x.1 1 11 0 ∧ x.1 1 11 0 ≤ 40) (c0 : 0 ≤ c) (c1 : c < 5) (ql : qhl r c = true) (d0 : 0 ≤ d) (d1 : d < 5) (dl : qhl r d = true) (hcd : d ≠ c) : Tt (F_X7_mergeBoth z 0 c d b x) (fun p => p.1 = (qm3 c (r, 0)).2 + (qm3 d (qen (qm3 c (r, 0)).1 c, 0)).2 ∧ (Wq (qen (qm3 c (r, 0)).1 c) ∧ Wq (qen (qm3 d (qen (qm3 c (r, 0)).1 c, 0)).1 d)) ∧ (qct (qen (qm3 d (qen (qm3 c (r, 0)).1 c, 0)).1 d) = qct r ∧ qfc (qen (qm3 d (qen (qm3 c (r, 0)).1 c, 0)).1 d) = qfc r) ∧ RB (p.2.2 0 b) (p.2.1 23 b) (qen (qm3 d (qen (qm3 c (r, 0)).1 c, 0)).1 d) ∧ (0 ≤ p.2.1 1 11 0 ∧ p.2.1 1 11 0 ≤ 40) ∧ Fg (fun C j => ((C = 0 ∨ C = 23) ∧ j = b) ∨ ((C = 1 ∨ C = 24) ∧ j = 11)) x p.2) := by
  have hbm : b % 3 = 0 := by omega
  obtain ⟨s1, s2, s3, s4, s5⟩ := qm_sm hR.1 c0 c1 ql
  unfold F_X7_mergeBoth
  refine (k_copyB' (z := z) (b := b) (b2 := 3 * 0) (by omega) hB).bind ?_
  rintro y ⟨hB1, hF⟩
  have hF' : Fg (fun C j => ((C = 0 ∨ C = 23) ∧ j = b) ∨ ((C = 1 ∨ C = 24) ∧ j = 11)) x y := hF.mono (fun C j q => Or.inl q)
  have e1 : y.1 1 11 = x.1 1 11 := (hF 1 11 (by omega)).1
  refine (k_trial (z := z) hz (b := b) hbm (Rv_fr (b := b) hbm hR hF') hB1 (by rw [e1]; exact hT) c0 c1 ql).bind ?_
  rintro ⟨u, p⟩ ⟨g1, g2, g3, g4, g5, g6⟩
  simp only at g1 g2 g3 g4 g5 g6
  have dl' : qhl (qen (qm3 c (r, 0)).1 c) d = true := by rw [s3 d d0 d1 hcd]; exact dl
  obtain ⟨t1, t2, t3, t4, t5⟩ := qm_sm g3.1 d0 d1 dl'
  refine (k_trial (z := z) hz (b := b) hbm g3 g4 g5 d0 d1 dl').bind ?_
  rintro ⟨u2, p2⟩ ⟨k1, k2, k3, k4, k5, k6⟩
  simp only at k1 k2 k3 k4 k5 k6
  rw [ckR_t (by show -2147483648 ≤ u + u2; omega) (by show u + u2 ≤ 2147483647; omega)]
  refine Tt.ret ⟨by show u + u2 = _; rw [g1, k1], ⟨g3.1, k3.1⟩, ⟨t1.trans s1, t2.trans s2⟩, k4, k5, (hF'.tr g6).tr k6⟩
theorem TL_cp {R O o : Nat → Int} (hb : Wb R) (hct : qct O = qct R) (hfc : qfc O = qfc R) : TL O (cp5 R o) ↔ TL R O := by
  have h60 := hb.2.2.2.1
  have hf := hb.2.1
  have e1 : ∀ n : Int, 0 ≤ n → n < 60 → qal (cp5 R o) n = qal R n := fun n n0 n1 => by
    unfold qal cp5; rw [if_pos (by omega)]
  have e2 : ∀ n f : Int, 0 ≤ n → n < 60 → 0 ≤ f → f < 6 → qtv (cp5 R o) n f = qtv R n f := fun n f n0 n1 f0 f1 => by
    unfold qtv cp5; rw [if_pos (by omega)]
  constructor
  · intro w n n0 n1
    obtain ⟨a, b⟩ := w n n0 (by omega)
    rw [e1 n n0 (by omega)] at a
    refine ⟨a.symm, fun q f f0 f1 => ?_⟩
    have := b (a.trans q) f f0 (by omega)
    rw [e2 n f n0 (by omega) f0 (by omega)] at this; exact this.symm
  · intro w n n0 n1
    obtain ⟨a, b⟩ := w n n0 (by omega)
    refine ⟨by rw [e1 n n0 (by omega)]; exact a.symm, fun q f f0 f1 => ?_⟩
    rw [e2 n f n0 (by omega) f0 (by omega)]
    exact (b (a.trans q) f f0 (by omega)).symm
theorem wal (h : Wq r) : ∀ n : Int, 0 ≤ n → n < 60 → r (191 + n).toNat = 0 ∨ r (191 + n).toNat = 1 := h.2.2.1.1
theorem p_isFree (hz : 50000 ≤ z) (h : Inv x) (c d : Int) : Pr [sI, sA, sS] (F_X7_isFree z 0 c d) (F_X8_isFree z 0 c d) x := by
  have hb := h.1.1.1
  have h60 := hb.2.2.2.1
  have hcc := hb.2.2.1
  have hfc := hb.2.1
  by_cases qc : 0 ≤ c ∧ c < qcc (x.1 27 0)
  · by_cases qd : 0 ≤ d ∧ d < qcc (x.1 27 0)
    · by_cases qe : c = d
      · refine Pr.get h (y := .inr sA) ?_ (b := 0) (t := 2) ?_ (Ok.x rfl (by decide))
        · unfold F_X7_isFree
          rw [rc_t h qc, bndXl, rc_t h qd, bndXl, if_pos qe]
        · unfold F_X8_isFree F_X8_isFree_27 F_X8_isFree_45
          rw [sbind, th_w, mC h, sbind, dt qc, mC h, sbind, dt qd, e_fails1, sbind, it0, if_pos qe, e_fails0, sbind, it1, th_th]
      · by_cases ql : qhl (x.1 27 0) c = true
        · by_cases qk : qhl (x.1 27 0) d = true
          · have c1 : c < 5 := by omega
            have d1 : d < 5 := by omega
            obtain ⟨⟨u, y⟩, e, g1, ⟨W1, g2⟩, g3, g4, g5, g6⟩ := k_both (z := z) (b := 33) (c := c) (d := d) hz (Or.inl rfl) (Rv_of h.1) h.1.2.2.2.1 h.2.2.2.2.2 qc.1 c1 ql qd.1 d1 qk (fun w => qe w.symm)
            simp only at g1 g2 g3 g4 g5 g6
            have hB0 : RB (y.2 0 0) (y.1 23 0) (x.1 27 0) := by
              rw [(g6 0 0 (by omega)).2, (g6 23 0 (by omega)).1]; exact h.1.2.2.2.1
            obtain ⟨⟨u2, y2⟩, e2, k1, ⟨W2, k2⟩, k3, k4, k5, k6⟩ := k_both (z := z) (b := 36) (c := d) (d := c) hz (Or.inr rfl) (Rv_fr (b := 33) rfl (Rv_of h.1) g6) hB0 g5 qd.1 d1 qk qc.1 c1 ql qe
            simp only at k1 k2 k3 k4 k5 k6
            have hF : Fo (fun o => o = 11 ∨ o = 12) x y2 := (fo_tr (Or.inl rfl) g6).tr (fo_tr (Or.inr rfl) k6)
            have q27 : y2.1 27 0 = x.1 27 0 := (fo_o hF (by omega) (by omega) (by omega) (by omega)).1
            have hB33 : RB (y2.2 0 33) (y2.1 23 33) (qen (qm3 d (qen (qm3 c (x.1 27 0, 0)).1 c, 0)).1 d) := by
              rw [(k6 0 33 (by omega)).2, (k6 23 33 (by omega)).1]; exact g4
            obtain ⟨s1, s2, s3, s4, s5⟩ := qm_sm h.1.1 qc.1 c1 ql
            obtain ⟨t1, t2, t3, t4, t5⟩ := qm_sm h.1.1 qd.1 d1 qk
            have dl : qhl (qen (qm3 c (x.1 27 0, 0)).1 c) d = true := by rw [s3 d qd.1 d1 (fun w => qe w.symm)]; exact qk
            have cl : qhl (qen (qm3 d (x.1 27 0, 0)).1 d) c = true := by rw [t3 c qc.1 c1 qe]; exact ql
            have Z1 : Zr (qen (qm3 c (x.1 27 0, 0)).1 c) := zr_qen (zr_m3 h.2.1 hb) qc.1 c1
            have Z2 : Zr (qen (qm3 d (x.1 27 0, 0)).1 d) := zr_qen (zr_m3 h.2.1 hb) qd.1 d1
            have Z3 := zr_qen (c := d) (zr_m3 (c := d) Z1 W1.1) qd.1 d1
            have Z4 := zr_qen (c := c) (zr_m3 (c := c) Z2 W2.1) qc.1 c1
            obtain ⟨⟨w1, f1, m1⟩, _, _⟩ := Mq_copy (z := z) hz (Mq_0 (x := y2))
            rw [q27] at m1
            obtain ⟨w2, f2, m2⟩ := Mq_merge (z := z) hz m1 h.1.1 qc.1 c1 ql
            obtain ⟨w3, f3, m3⟩ := Mq_merge (z := z) hz m2 W1 qd.1 d1 dl
            obtain ⟨_, _, ⟨w4, f4, m4⟩⟩ := Mq_copy (z := z) hz m3
            obtain ⟨_, ⟨w5, f5, m5⟩, _⟩ := Mq_copy (z := z) hz m4
            rw [cp5_b h.2.1 Z3] at m5
            obtain ⟨w6, f6, m6⟩ := Mq_merge (z := z) hz m5 h.1.1 qd.1 d1 qk
            obtain ⟨w7, f7, m7⟩ := Mq_merge (z := z) hz m6 W2 qc.1 c1 cl
            obtain ⟨_, ⟨w8, f8, m8⟩, _⟩ := Mq_copy (z := z) hz m7
            rw [cp5_b h.2.1 Z4] at m8
            have hI := Inv_trial h hF k5 m8
            have b1 := (qm_sm W1 qd.1 d1 dl).2.2.2
            have b2 := (qm_sm W2 qc.1 c1 cl).2.2.2
            obtain ⟨v7, ev7, hv7⟩ := k_sameAs (z := z) (x := y2) hz hB33 k4 g2.1 (k3.1.trans g3.1.symm) (k3.2.trans g3.2.symm) g2.2.2.2.2.1 k2.2.2.2.2.1
            obtain ⟨v8, ev8, hv8⟩ := e_isTrunkLike (z := z) (w := w7) hz m7.1 m7.2.2.1 k2.1 (wal k2) (fun n n0 n1 => by
              unfold cp5; rw [if_pos (by omega)]; exact wal g2 n n0 n1)
            have hTL := TL_cp (o := y2.1 27 4) g2.1 (k3.1.trans g3.1.symm) (k3.2.trans g3.2.symm)
            have w0 := m8.2.2.2.2.1
            have e7 : F_X7_isFree z 0 c d x = (if u = u2 then (if v7 = 0 then some (.inl (0 : Int), y2) else some (.inl (1 : Int), y2)) else some (.inl (0 : Int), y2)) := by
              unfold F_X7_isFree
              rw [rc_t h qc, bndXl, rc_t h qd, bndXl, if_neg qe, rl_t h qc.1 c1 ql, bndXl, rl_t h qd.1 d1 qk, bndXl, e, sbind, e2, sbind, ev7, sbind]
            have e8 : F_X8_isFree z 0 c d y2 = (if u = u2 then (if v8 = 0 then some ((0 : Int), w8) else some ((1 : Int), w8)) else some ((0 : Int), w8)) := by
              unfold F_X8_isFree F_X8_isFree_27 F_X8_isFree_45 F_X8_isFree_74 F_X8_isFree_168
              rw [sbind, th_w, nC q27 hb, sbind, dt qc, nC q27 hb, sbind, dt qd, e_fails1, sbind, it0, if_neg qe, e_fails1, sbind, it0, nH q27 qc.1 c1, sbind, ib, if_neg (by rw [ql]; decide), nH q27 qd.1 d1, sbind, ib, if_neg (by rw [qk]; decide), e_fails1, sbind, it0, f1, sbind, f2, sbind, f3, sbind, ckR_t (by show -2147483648 ≤ (qm3 c (x.1 27 0, 0)).2 + _; omega) (by show (qm3 c (x.1 27 0, 0)).2 + _ ≤ 2147483647; omega), f4, sbind, f5, sbind, f6, sbind, f7, sbind, ckR_t (by show -2147483648 ≤ (qm3 d (x.1 27 0, 0)).2 + _; omega) (by show (qm3 d (x.1 27 0, 0)).2 + _ ≤ 2147483647; omega), f8, sbind, ev8, sbind, sbind, g1, k1]
            have fin : ∀ v : Int, F_X7_isFree z 0 c d x = some (.inl v, y2) → F_X8_isFree z 0 c d y2 = some (v, w8) → Pr [sI, sA, sS] (F_X7_isFree z 0 c d) (F_X8_isFree z 0 c d) x := fun v a b => ⟨.inl v, y2, v, w8, a, b, hI, by rw [w0]; exact Ok.v⟩
            by_cases q1 : u = u2
            · rw [if_pos q1] at e7 e8
              rcases hv7 with ⟨a1, a2⟩ | ⟨a1, a2⟩
              · rcases hv8 with ⟨b1, b2⟩ | ⟨b1, b2⟩
                · exact fin 1 (by rw [e7, a1]; rfl) (by rw [e8, b1]; rfl)
                · exact absurd (hTL.mpr a2) b2
              · rcases hv8 with ⟨b1, b2⟩ | ⟨b1, b2⟩
                · exact absurd (hTL.mp b2) a2
                · exact fin 0 (by rw [e7, a1]; rfl) (by rw [e8, b1]; rfl)
            · rw [if_neg q1] at e7 e8
              exact fin 0 e7 e8
          · refine Pr.get h (y := .inr sS) ?_ (b := 0) (t := 3) ?_ (Ok.x rfl (by decide))
            · unfold F_X7_isFree
              rw [rc_t h qc, bndXl, rc_t h qd, bndXl, if_neg qe, rl_t h qc.1 (by omega) ql, bndXl, rl_f h qd.1 (by omega) (by simpa using qk), bndXr]
            · unfold F_X8_isFree F_X8_isFree_27 F_X8_isFree_45 F_X8_isFree_73 F_X8_isFree_74
              rw [sbind, th_w, mC h, sbind, dt qc, mC h, sbind, dt qd, e_fails1, sbind, it0, if_neg qe, e_fails1, sbind, it0, mH qc.1 (by omega), sbind, ib, if_neg (by rw [ql]; decide), mH qd.1 (by omega), sbind, ib, if_pos (by simpa using qk), e_fails0, sbind, it1, th_th]
        · refine Pr.get h (y := .inr sS) ?_ (b := 0) (t := 3) ?_ (Ok.x rfl (by decide))
          · unfold F_X7_isFree
            rw [rc_t h qc, bndXl, rc_t h qd, bndXl, if_neg qe, rl_f h qc.1 (by omega) (by simpa using ql), bndXr]
          · unfold F_X8_isFree F_X8_isFree_27 F_X8_isFree_45 F_X8_isFree_73 F_X8_isFree_74
            rw [sbind, th_w, mC h, sbind, dt qc, mC h, sbind, dt qd, e_fails1, sbind, it0, if_neg qe, e_fails1, sbind, it0, mH qc.1 (by omega), sbind, ib, if_pos (by simpa using ql), e_fails0, sbind, it1, th_th]
    · refine Pr.get h (y := .inr sI) ?_ (b := 0) (t := 1) ?_ (Ok.x rfl (by decide))
      · unfold F_X7_isFree
        rw [rc_t h qc, bndXl, rc_f h qd, bndXr]
      · unfold F_X8_isFree F_X8_isFree_26 F_X8_isFree_27
        rw [sbind, th_w, mC h, sbind, dt qc, mC h, sbind, df qd, e_fails0, sbind, it1, th_th]
  · refine Pr.get h (y := .inr sI) ?_ (b := 0) (t := 1) ?_ (Ok.x rfl (by decide))
    · unfold F_X7_isFree
      rw [rc_f h qc, bndXr]
    · unfold F_X8_isFree F_X8_isFree_26 F_X8_isFree_27
      rw [sbind, th_w, mC h, sbind, df qc, e_fails0, sbind, it1, th_th]
end
