/-! A node read; the State emptied. -/
section
variable {z : Nat} {x y X X' W : Mm} {r r' : Nat → Int}
theorem k_addNext {v : Nat} {p l e : Int} (hN : RN y v r) (hb : Wb r) (p0 : 0 ≤ p) (p1 : p < qct r) (he : e = 0 ∨ e = 1) (hn : qct r < 60) : ∃ y2, F_X4_addNext z v p l e y = some (qct r, y2) ∧ (∀ C j, ¬ ((C = 4 ∨ C = 21 ∨ C = 22 ∨ C = 30) ∧ j = v) → y2.1 C j = y.1 C j ∧ y2.2 C j = y.2 C j) ∧ y2.1 4 v 0 = qct r + 1 ∧ y2.1 21 v = up (y.1 21 v) (qct r).toNat p ∧ y2.1 22 v = up (y.1 22 v) (qct r).toNat l ∧ y2.2 30 v = up (y.2 30 v) (qct r).toNat ((y.2 30 v p.toNat) ||| bt (qct r)) ∧ (∀ m : Int, 0 ≤ m → m < 64 → has (y2.2 4 v 1) m = (has (y.2 4 v 1) m || (decide (e = 1) && decide (m = qct r)))) := by
  have h60 := hb.2.2.2.1
  unfold F_X4_addNext
  rw [hN.1, ckI_t (by omega) (by omega), sbind, ckI_t (by omega) (by omega), sbind, ckI_t p0 (by omega), k_bit z _ (by omega) (by omega), sbind, ckI_t (by omega) (by omega), sbind]
  simp only [wI_pj, wL_pl, pl_1, pj_2, pj_C (show (22 : Nat) ≠ 21 by decide), pj_C (show (4 : Nat) ≠ 22 by decide), pj_C (show (4 : Nat) ≠ 21 by decide), hN.1]
  rw [ckR_t (by omega) (by omega), sbind, k_bit z _ (by omega) (by omega), sbind, sbind]
  simp only [pl_1, pj_2, pj_C (show (4 : Nat) ≠ 22 by decide), pj_C (show (4 : Nat) ≠ 21 by decide), hN.1, pl_C (show (4 : Nat) ≠ 30 by decide)]
  rw [ckR_t (by omega) (by omega), sbind]
  rcases he with h0 | h1
  · rw [if_pos h0]
    refine ⟨_, rfl, fun C j q => ⟨?_, ?_⟩, ?_, ?_, ?_, ?_, fun m m0 m1 => ?_⟩
    · by_cases q4 : C = 4
      · have : j ≠ v := fun w => q ⟨by omega, w⟩
        rw [pj_j this, pl_1]
        by_cases q22 : C = 22
        · omega
        · rw [pj_C q22, pj_C (by omega)]
      · rw [pj_C q4, pl_1]
        by_cases q22 : C = 22
        · rw [pj_j (fun w => q ⟨by omega, w⟩), pj_C (by omega)]
        · rw [pj_C q22]
          by_cases q21 : C = 21
          · rw [pj_j (fun w => q ⟨by omega, w⟩)]
          · rw [pj_C q21]
    · rw [pj_2]
      by_cases q30 : C = 30
      · rw [pl_j (fun w => q ⟨by omega, w⟩), pj_2, pj_2]
      · rw [pl_C q30, pj_2, pj_2]
    · rw [pj_s, up_s]
    · rw [pj_C (by decide), pl_1, pj_C (by decide), pj_s]
    · rw [pj_C (by decide), pl_1, pj_s]
    · rw [pj_2, pl_s]
    · rw [pj_2, pl_C (by decide), pj_2, pj_2, decide_eq_false (by omega), Bool.false_and, Bool.or_false]
  · rw [if_neg (by omega)]
    refine ⟨_, rfl, fun C j q => ⟨?_, ?_⟩, ?_, ?_, ?_, ?_, fun m m0 m1 => ?_⟩
    · by_cases q4 : C = 4
      · have : j ≠ v := fun w => q ⟨by omega, w⟩
        rw [pj_j this, pl_1, pl_1]
        by_cases q22 : C = 22
        · omega
        · rw [pj_C q22, pj_C (by omega)]
      · rw [pj_C q4, pl_1, pl_1]
        by_cases q22 : C = 22
        · rw [pj_j (fun w => q ⟨by omega, w⟩), pj_C (by omega)]
        · rw [pj_C q22]
          by_cases q21 : C = 21
          · rw [pj_j (fun w => q ⟨by omega, w⟩)]
          · rw [pj_C q21]
    · rw [pj_2]
      by_cases q4 : C = 4
      · rw [pl_j (fun w => q ⟨by omega, w⟩)]
        by_cases q30 : C = 30
        · omega
        · rw [pl_C q30, pj_2, pj_2]
      · rw [pl_C q4]
        by_cases q30 : C = 30
        · rw [pl_j (fun w => q ⟨by omega, w⟩), pj_2, pj_2]
        · rw [pl_C q30, pj_2, pj_2]
    · rw [pj_s, up_s]
    · rw [pj_C (by decide), pl_1, pl_1, pj_C (by decide), pj_s]
    · rw [pj_C (by decide), pl_1, pl_1, pj_s]
    · rw [pj_2, pl_C (by decide), pl_s]
    · rw [pj_2, pl_s, up_s, has_or, has_bt (by omega) (by omega) m0, decide_eq_true h1, Bool.true_and]
def rN (r : Nat → Int) (p l e : Int) : Nat → Int := up (up (up (up (up r (11 + qct r).toNat p) (71 + qct r).toNat l) (131 + qct r).toNat e) (191 + qct r).toNat 1) (3 : Int).toNat (qct r + 1)
theorem DR.node (h : DR X r) {p l e : Int} (hn : qct r < 60) (p0 : 0 ≤ p) (p1 : p < qct r) (l0 : 0 ≤ l) (l1 : l ≤ 999) (he : e = 0 ∨ e = 1) (hw : qcw r p l = -1) : ∃ X2, F_X4_addNext z 10 p l e X = some (qct r, X2) ∧ (∀ C j, ¬ ((C = 4 ∨ C = 21 ∨ C = 22 ∨ C = 30) ∧ j = 10) → X2.1 C j = X.1 C j ∧ X2.2 C j = X.2 C j) ∧ DR (pl X2 0 30 (up (X2.2 0 30) 0 ((X.2 0 30 0) ||| bt (qct r)))) (rN r p l e) := by
  have hal := fun n n0 n1 => h.al (n := n) n0 n1
  obtain ⟨⟨hb, ht, hr, hv⟩, h1, h2, ⟨hH, hN, hB⟩, h5, h6, h7⟩ := h
  have h60 := hb.2.2.2.1
  have hfc := hb.2.1
  obtain ⟨y2, e2, f2, a4, a21, a22, a30, a41⟩ := k_addNext (z := z) (l := l) hN hb p0 p1 he hn
  refine ⟨y2, e2, f2, ?_⟩
  have E : ∀ i : Int, 0 ≤ i → i ≠ 3 → i ≠ 11 + qct r → i ≠ 71 + qct r → i ≠ 131 + qct r → i ≠ 191 + qct r → rN r p l e i.toNat = r i.toNat := fun i i0 i1 i2 i3 i4 i5 => by
    unfold rN
    rw [up_i i0 (by omega) i1, up_i i0 (by omega) i5, up_i i0 (by omega) i4, up_i i0 (by omega) i3, up_i i0 (by omega) i2]
  have ect : qct (rN r p l e) = qct r + 1 := by unfold qct rN; exact up_s
  have etk : qtk (rN r p l e) = qtk r := E 0 (by omega) (by omega) (by omega) (by omega) (by omega) (by omega)
  have efc : qfc (rN r p l e) = qfc r := E 1 (by omega) (by omega) (by omega) (by omega) (by omega) (by omega)
  have ecc : qcc (rN r p l e) = qcc r := E 2 (by omega) (by omega) (by omega) (by omega) (by omega) (by omega)
  have ekc : qkc (rN r p l e) = qkc r := E 4 (by omega) (by omega) (by omega) (by omega) (by omega) (by omega)
  have epa : ∀ n' : Int, 0 ≤ n' → n' < qct r → qpa (rN r p l e) n' = qpa r n' := fun n' a b => E (11 + n') (by omega) (by omega) (by omega) (by omega) (by omega) (by omega)
  have elb : ∀ n' : Int, 0 ≤ n' → n' < qct r → qlb (rN r p l e) n' = qlb r n' := fun n' a b => E (71 + n') (by omega) (by omega) (by omega) (by omega) (by omega) (by omega)
  have epN : qpa (rN r p l e) (qct r) = p := by
    unfold qpa rN
    rw [up_i (by omega) (by omega) (by omega), up_i (by omega) (by omega) (by omega), up_i (by omega) (by omega) (by omega), up_i (by omega) (by omega) (by omega), up_e rfl]
  have elN : qlb (rN r p l e) (qct r) = l := by
    unfold qlb rN
    rw [up_i (by omega) (by omega) (by omega), up_i (by omega) (by omega) (by omega), up_i (by omega) (by omega) (by omega), up_e rfl]
  have erN : rN r p l e (131 + qct r).toNat = e := by
    unfold rN
    rw [up_i (by omega) (by omega) (by omega), up_i (by omega) (by omega) (by omega), up_e rfl]
  have eaN : rN r p l e (191 + qct r).toNat = 1 := by
    unfold rN
    rw [up_i (by omega) (by omega) (by omega), up_e rfl]
  have erc : ∀ n' : Int, 0 ≤ n' → n' < 60 → n' ≠ qct r → rN r p l e (131 + n').toNat = r (131 + n').toNat := fun n' a b c => E (131 + n') (by omega) (by omega) (by omega) (by omega) (by omega) (by omega)
  have eal : ∀ n' : Int, 0 ≤ n' → n' < 60 → n' ≠ qct r → rN r p l e (191 + n').toNat = r (191 + n').toNat := fun n' a b c => E (191 + n') (by omega) (by omega) (by omega) (by omega) (by omega) (by omega)
  have etv : ∀ n' f' : Int, 0 ≤ n' → n' < 60 → 0 ≤ f' → f' < 6 → qtv (rN r p l e) n' f' = qtv r n' f' := fun n' f' a b c d => E _ (by omega) (by omega) (by omega) (by omega) (by omega) (by omega)
  have eln : ∀ c : Int, 0 ≤ c → qln (rN r p l e) c = qln r c := fun c c0 => E (611 + 3 * c) (by omega) (by omega) (by omega) (by omega) (by omega) (by omega)
  have fresh : ∀ n : Int, 0 ≤ n → n < qct r → ¬ (qpa r n = p ∧ qlb r n = l) := by
    intro n n0 n1 w
    have := qff_none (i := 0) (by omega) hw n (by omega) (by omega)
    rw [hal n n0 (by omega), decide_eq_true n1, decide_eq_true w.1, decide_eq_true w.2] at this
    cases this
  have ht' : Wt (rN r p l e) := by
    refine ⟨by rw [epa 0 (by omega) (by omega)]; exact ht.1, by rw [elb 0 (by omega) (by omega)]; exact ht.2.1, fun m m0 m1 => ?_⟩
    rw [ect] at m1
    by_cases q : m = qct r
    · rw [q, epN, elN]; exact ⟨p0, p1, l0, l1⟩
    · rw [epa m (by omega) (by omega), elb m (by omega) (by omega)]; exact ht.2.2 m m0 (by omega)
  have hb' : Wb (rN r p l e) := by
    unfold Wb; rw [ect, etk, ekc, efc, ecc]; exact ⟨hb.1, hb.2.1, hb.2.2.1, by omega, hb.2.2.2.2⟩
  have hwi : ∀ k m : Int, 0 ≤ m → k < qct r → win (rN r p l e) k m = win r k m := fun k m m0 k1 => win_pa hb ht (fun k k0 k1 => epa k k0 k1) m0 k1
  have g1 : ∀ C j, ¬ ((C = 4 ∨ C = 21 ∨ C = 22 ∨ C = 30) ∧ j = 10) → (pl y2 0 30 (up (y2.2 0 30) 0 ((X.2 0 30 0) ||| bt (qct r)))).1 C j = X.1 C j := fun C j q => (f2 C j q).1
  refine ⟨⟨hb', ht', ?_, ?_⟩, ?_, ?_, ⟨?_, ?_, ?_⟩, ?_, ?_, ?_⟩
  · intro m m0 m1
    by_cases q : m = qct r
    · rw [q, erN]; exact he
    · rw [erc m m0 m1 q]; exact hr m m0 m1
  · intro m g m0 m1 q0 q1
    rw [efc] at q0
    rw [etv m g m0 m1 (by omega) q1]; exact hv m g m0 m1 q0 q1
  · intro m m0 m1
    rw [ect]
    by_cases q : m = qct r
    · rw [q, eaN, if_pos (by omega)]
    · rw [eal m m0 m1 q, h1 m m0 m1]
      by_cases q2 : m < qct r
      · rw [if_pos q2, if_pos (by omega)]
      · rw [if_neg q2, if_neg (by omega)]
  · intro m k m0 m1 k0 k1 hne
    rw [ect] at m1 k1
    by_cases q : m = qct r
    · by_cases q2 : k = qct r
      · omega
      · rw [q, epN, elN, epa k (by omega) (by omega), elb k (by omega) (by omega)]
        intro w1 w2
        exact fresh k (by omega) (by omega) ⟨w1.symm, w2.symm⟩
    · by_cases q2 : k = qct r
      · rw [q2, epN, elN, epa m (by omega) (by omega), elb m (by omega) (by omega)]
        intro w1 w2
        exact fresh m (by omega) (by omega) ⟨w1, w2⟩
      · rw [epa m (by omega) (by omega), epa k (by omega) (by omega), elb m (by omega) (by omega), elb k (by omega) (by omega)]
        exact h2 m k m0 (by omega) k0 (by omega) hne
  · have := RH_fr (y := pl y2 0 30 (up (y2.2 0 30) 0 ((X.2 0 30 0) ||| bt (qct r)))) hH (g1 _ _ (by omega)) (g1 _ _ (by omega))
    refine ⟨this.1.trans etk.symm, this.2.1.trans efc.symm, this.2.2.1.trans ecc.symm, fun g q0 q1 => ?_⟩
    rw [efc] at q1
    exact (this.2.2.2 g q0 q1).trans (E (5 + g) (by omega) (by omega) (by omega) (by omega) (by omega) (by omega)).symm
  · refine ⟨by rw [pl_1, a4, ect], fun m m0 m1 => ?_, fun m m0 m1 => ?_⟩
    · rw [ect] at m1
      rw [pl_1, a21, a22, pl_C (by decide), a30]
      by_cases q : m = qct r
      · subst q
        rw [up_s, up_s, up_s, epN, elN]
        refine ⟨rfl, rfl, fun k k0 k1 => ?_⟩
        rw [has_or, (hN.2.1 p p0 p1).2.2 k k0 k1, has_bt (by omega) (by omega) k0]
        by_cases q2 : k = qct r
        · rw [q2, decide_eq_true rfl, Bool.or_true, win_rf]
        · rw [decide_eq_false q2, Bool.or_false]
          by_cases q3 : k < qct r
          · rw [win_up hb' ht' k0 q3 (by rw [ect]; omega), epN, hwi p k k0 p1]
          · rw [win_lt (by omega), win_lt (by omega)]
      · obtain ⟨g1, g2, g3⟩ := hN.2.1 m m0 (by omega)
        rw [up_i m0 (by omega) q, up_i m0 (by omega) q, up_i m0 (by omega) q, g1, g2, epa m m0 (by omega), elb m m0 (by omega)]
        exact ⟨rfl, rfl, fun k k0 k1 => by rw [g3 k k0 k1, hwi m k k0 (by omega)]⟩
    · rw [pl_C (by decide), a41 m m0 m1, hN.2.2 m m0 m1, ect]
      by_cases q : m = qct r
      · subst q
        rw [decide_eq_false (by omega), Bool.false_and, Bool.false_or, decide_eq_true (show qct r < qct r + 1 by omega), Bool.true_and, decide_eq_true rfl, Bool.and_true]
        unfold qrc; rw [erN]
      · rw [decide_eq_false q, Bool.and_false, Bool.or_false]
        by_cases q2 : m < qct r
        · rw [decide_eq_true q2, decide_eq_true (show m < qct r + 1 by omega)]
          unfold qrc; rw [erc m m0 (by omega) q]
        · rw [decide_eq_false q2, decide_eq_false (show ¬ m < qct r + 1 by omega)]; rfl
  · rw [pl_s, g1 23 30 (by omega)]
    refine ⟨fun m m0 m1 => ?_, fun m g m0 m1 q0 q1 => ?_⟩
    · rw [up_s, has_or, hB.1 m m0 m1, has_bt (by omega) (by omega) m0, ect]
      by_cases q : m = qct r
      · subst q
        rw [decide_eq_true rfl, Bool.or_true, decide_eq_true (show qct r < qct r + 1 by omega)]; unfold qal; rw [eaN]; rfl
      · rw [decide_eq_false q, Bool.or_false]
        by_cases q2 : m < qct r
        · rw [decide_eq_true q2, decide_eq_true (show m < qct r + 1 by omega)]
          unfold qal; rw [eal m m0 (by omega) q]
        · rw [decide_eq_false q2, decide_eq_false (show ¬ m < qct r + 1 by omega)]; rfl
    · rw [hB.2 m g m0 m1 q0 q1, etv m g m0 m1 q0 q1]
  · intro c c0 c1; rw [eln c c0, g1 3 _ (by omega)]; exact h5 c c0 c1
  · rw [ekc]; exact h6
  · rw [g1 1 10 (by omega)]; exact h7
end
