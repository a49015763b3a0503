/-! The empty State. -/
section
variable {z : Nat} {x y X X' W W' : Mm} {r r' : Nat → Int}
def r0 (i : Int) : Int := if 611 ≤ i ∧ i < 626 ∧ (i - 611) % 3 = 0 then -1 else if i = 3 ∨ i = 191 then 1 else if i = 11 ∨ i = 71 then -1 else 0
theorem r0_z {i : Int} (h1 : ¬ (611 ≤ i ∧ i < 626)) (h2 : i ≠ 3) (h3 : i ≠ 191) (h4 : i ≠ 11) (h5 : i ≠ 71) : r0 i = 0 := by
  unfold r0; rw [if_neg (by omega), if_neg (by omega), if_neg (by omega)]
theorem e_forgetRead (hz : 50000 ≤ z) : Tt (F_X8_forgetRead z 0 W) (fun V => ∃ g, V = pj W 27 1 g ∧ ∀ i : Int, 0 ≤ i → i < 5366 → g i.toNat = r0 i) := by
  unfold F_X8_forgetRead
  refine Tt.bind (P := fun V => ∃ g, V = pj W 27 1 g ∧ ∀ i : Int, 0 ≤ i → i < 5366 → g i.toNat = 0) ?_ ?_
  · refine loopU (fun k i (V : Mm) => F_X8_forgetRead_2 z 0 k i V) 5366 (fun i V => 0 ≤ i ∧ i ≤ 5366 ∧ ∃ g, V = pj W 27 1 g ∧ ∀ m : Int, 0 ≤ m → m < i → g m.toNat = 0) _ ?_ ?_ z 0 W (by omega) (by omega) ⟨by omega, by omega, W.1 27 1, pj_id.symm, fun m m0 m1 => by omega⟩
    · rintro k V i hN ⟨i0, i1, g, rfl, hg⟩
      exact Tt.of (v := pj W 27 1 g) (if_pos hN) ⟨g, rfl, fun m m0 m1 => hg m m0 (by omega)⟩
    · rintro k V i hN ⟨i0, i1, g, rfl, hg⟩
      refine Or.inl ⟨pj W 27 1 (up g i.toNat 0), ?_, by omega, by omega, _, rfl, fun m m0 m1 => ?_⟩
      · show (if (5366 : Int) ≤ i then _ else _) = _
        rw [if_neg (by omega), ckI_t i0 (by omega), sbind, ckR_t (by omega) (by omega), wI_pj, pj_s, pj_pj]
      · by_cases q : m = i
        · exact up_e q
        · rw [up_i m0 i0 q]; exact hg m m0 (by omega)
  · rintro V ⟨g, rfl, hg⟩
    rw [ckI_t (by omega) (by omega), sbind, ckI_t (by omega) (by omega), sbind, ckI_t (by omega) (by omega), sbind, ckI_t (by omega) (by omega), sbind]
    simp only [wI_pj, pj_s, pj_pj]
    have hg2 : ∀ i : Int, 0 ≤ i → i < 5366 → (up (up (up (up g (3 : Int).toNat 1) (11 : Int).toNat (-1)) (71 : Int).toNat (-1)) (191 : Int).toNat 1) i.toNat = if 611 ≤ i ∧ i < 611 + 3 * 0 ∧ (i - 611) % 3 = 0 then -1 else if i = 3 ∨ i = 191 then 1 else if i = 11 ∨ i = 71 then -1 else 0 := by
      intro i i0 i1
      rw [if_neg (by omega)]
      by_cases q1 : i = 191
      · rw [up_e q1, if_pos (by omega)]
      · rw [up_i i0 (by omega) q1]
        by_cases q2 : i = 71
        · rw [up_e q2, if_neg (by omega), if_pos (by omega)]
        · rw [up_i i0 (by omega) q2]
          by_cases q3 : i = 11
          · rw [up_e q3, if_neg (by omega), if_pos (by omega)]
          · rw [up_i i0 (by omega) q3]
            by_cases q4 : i = 3
            · rw [up_e q4, if_pos (by omega)]
            · rw [up_i i0 (by omega) q4, if_neg (by omega), if_neg (by omega)]; exact hg i i0 i1
    generalize up (up (up (up g (3 : Int).toNat 1) (11 : Int).toNat (-1)) (71 : Int).toNat (-1)) (191 : Int).toNat 1 = g2 at *
    refine Tt.bind (P := fun V => ∃ g, V = pj W 27 1 g ∧ ∀ i : Int, 0 ≤ i → i < 5366 → g i.toNat = r0 i) ?_ (fun a e => Tt.ret e)
    refine loopU (fun k i (V : Mm) => F_X8_forgetRead_56 z 0 k i V) 5 (fun c V => 0 ≤ c ∧ c ≤ 5 ∧ ∃ g, V = pj W 27 1 g ∧ ∀ i : Int, 0 ≤ i → i < 5366 → g i.toNat = if 611 ≤ i ∧ i < 611 + 3 * c ∧ (i - 611) % 3 = 0 then -1 else if i = 3 ∨ i = 191 then 1 else if i = 11 ∨ i = 71 then -1 else 0) _ ?_ ?_ z 0 _ (by omega) (by omega) ⟨by omega, by omega, g2, rfl, hg2⟩
    · rintro k V c hN ⟨c0, c1, h, rfl, hh⟩
      refine Tt.of (v := pj W 27 1 h) (if_pos hN) ⟨h, rfl, fun i i0 i1 => ?_⟩
      have e : c = 5 := by omega
      subst e; exact hh i i0 i1
    · rintro k V c hN ⟨c0, c1, h, rfl, hh⟩
      refine Or.inl ⟨pj W 27 1 (up h (611 + 3 * c).toNat (-1)), ?_, by omega, by omega, _, rfl, fun i i0 i1 => ?_⟩
      · show (if (5 : Int) ≤ c then _ else _) = _
        rw [if_neg (by omega), ckR_t (by omega) (by omega), ckR_t (by omega) (by omega), ckI_t (by omega) (by omega), sbind, ckR_t (by omega) (by omega), wI_pj, pj_s, pj_pj]
      · by_cases q : i = 611 + 3 * c
        · rw [up_e q, if_pos (by omega)]
        · rw [up_i i0 (by omega) q, hh i i0 i1]
          by_cases w : 611 ≤ i ∧ i < 611 + 3 * c ∧ (i - 611) % 3 = 0
          · rw [if_pos w, if_pos (by omega)]
          · rw [if_neg w, if_neg (show ¬ (611 ≤ i ∧ i < 611 + 3 * (c + 1) ∧ (i - 611) % 3 = 0) by omega)]
theorem k_fill (hz : 50000 ≤ z) {b : Nat} : Tt (F_J7_fill_53178 z b 0 X) (fun V => ∃ g, V = pj X 23 b g ∧ ∀ i : Int, 0 ≤ i → i < 360 → g i.toNat = 0) := by
  unfold F_J7_fill_53178
  refine Tt.bind (P := fun V => ∃ g, V = pj X 23 b g ∧ ∀ i : Int, 0 ≤ i → i < 360 → g i.toNat = 0) ?_ (fun a e => Tt.ret e)
  refine loopU (fun k i (V : Mm) => F_J7_fill_53178_5 z b 0 360 k i V) 360 (fun i V => 0 ≤ i ∧ i ≤ 360 ∧ ∃ g, V = pj X 23 b g ∧ ∀ m : Int, 0 ≤ m → m < i → g m.toNat = 0) _ ?_ ?_ z 0 X (by omega) (by omega) ⟨by omega, by omega, X.1 23 b, pj_id.symm, fun m m0 m1 => by omega⟩
  · rintro k V i hN ⟨i0, i1, g, rfl, hg⟩
    exact Tt.of (v := pj X 23 b g) (if_pos hN) ⟨g, rfl, fun m m0 m1 => hg m m0 (by omega)⟩
  · rintro k V i hN ⟨i0, i1, g, rfl, hg⟩
    refine Or.inl ⟨pj X 23 b (up g i.toNat 0), ?_, by omega, by omega, _, rfl, fun m m0 m1 => ?_⟩
    · show (if (360 : Int) ≤ i then _ else _) = _
      rw [if_neg (by omega), ckI_t i0 (by omega), sbind, ckR_t (by omega) (by omega), wI_pj, pj_s, pj_pj]
    · by_cases q : m = i
      · exact up_e q
      · rw [up_i m0 i0 q]; exact hg m m0 (by omega)
/-- a State emptied -/
def E0 (y : Mm) (j : Nat) : Prop := (y.1 6 j 0 = 0 ∧ y.1 6 j 1 = 0 ∧ y.1 6 j 2 = 0) ∧ (y.1 4 j 0 = 1 ∧ y.2 4 j 1 = 0#64 ∧ y.1 21 j 0 = -1 ∧ y.1 22 j 0 = -1 ∧ y.2 30 j 0 = bt 0) ∧ (y.2 0 (3 * j) 0 = bt 0 ∧ ∀ i : Int, 0 ≤ i → i < 360 → y.1 23 (3 * j) i.toNat = 0) ∧ (∀ c : Int, 0 ≤ c → c < 5 → y.1 3 (5 * j + c.toNat) 0 = 0) ∧ y.1 1 j 0 = 0
theorem k_reset4 {j : Nat} : Tt (F_X4_reset z j X) (fun y => (y.1 4 j 0 = 1 ∧ y.2 4 j 1 = 0#64 ∧ y.1 21 j 0 = -1 ∧ y.1 22 j 0 = -1 ∧ y.2 30 j 0 = bt 0) ∧ Fg (fun C j' => (C = 4 ∨ C = 21 ∨ C = 22 ∨ C = 30) ∧ j' = j) X y) := by
  unfold F_X4_reset
  rw [sbind, sbind, ckI_t (by omega) (by omega), sbind, ckI_t (by omega) (by omega), sbind, k_bit z _ (by omega) (by omega), sbind, ckI_t (by omega) (by omega), sbind]
  simp only [wI_pj, wL_pl]
  refine Tt.ret ⟨⟨?_, ?_, ?_, ?_, ?_⟩, ?_⟩
  · rw [pl_1, pj_C (by decide), pj_C (by decide), pl_1, pj_s, up_s]
  · rw [pl_C (by decide), pj_2, pj_2, pl_s, up_s]
  · rw [pl_1, pj_C (by decide), pj_s]; exact up_s
  · rw [pl_1, pj_s]; exact up_s
  · rw [pl_s]; exact up_s
  · intro C j' q
    have q4 : ¬ (C = 4 ∧ j' = j) := fun u => q ⟨by omega, u.2⟩
    have q21 : ¬ (C = 21 ∧ j' = j) := fun u => q ⟨by omega, u.2⟩
    have q22 : ¬ (C = 22 ∧ j' = j) := fun u => q ⟨by omega, u.2⟩
    have q30 : ¬ (C = 30 ∧ j' = j) := fun u => q ⟨by omega, u.2⟩
    simp only [pj, pl, if_neg q4, if_neg q21, if_neg q22, if_neg q30]
    exact ⟨trivial, trivial⟩
theorem k_reset0 (hz : 50000 ≤ z) {b : Nat} : Tt (F_X0_reset z b X) (fun y => (y.2 0 b 0 = bt 0 ∧ ∀ i : Int, 0 ≤ i → i < 360 → y.1 23 b i.toNat = 0) ∧ Fg (fun C j' => (C = 0 ∨ C = 23) ∧ j' = b) X y) := by
  unfold F_X0_reset
  rw [k_bit z _ (by omega) (by omega), sbind, sbind, wL_pl]
  refine (k_fill (z := z) hz (b := b)).bind ?_
  rintro y ⟨g, rfl, hg⟩
  refine Tt.ret ⟨⟨by rw [pj_2, pl_s, up_s], fun i i0 i1 => by rw [pj_s]; exact hg i i0 i1⟩, fun C j' q => ?_⟩
  have q0 : ¬ (C = 0 ∧ j' = b) := fun u => q ⟨by omega, u.2⟩
  have q23 : ¬ (C = 23 ∧ j' = b) := fun u => q ⟨by omega, u.2⟩
  simp only [pj, pl, if_neg q0, if_neg q23]
  exact ⟨trivial, trivial⟩
theorem k_reset31 (hz : 50000 ≤ z) {j : Nat} : Tt (F_X6_reset_31 z j z 0 X) (fun y => (∀ c : Int, 0 ≤ c → c < 5 → y.1 3 (5 * j + c.toNat) 0 = 0) ∧ Fg (fun C j' => C = 3 ∧ ∃ c : Nat, c < 5 ∧ j' = 5 * j + c) X y) := by
  refine loopU (fun k i (V : Mm) => F_X6_reset_31 z j k i V) 5 (fun i V => 0 ≤ i ∧ i ≤ 5 ∧ (∀ c : Int, 0 ≤ c → c < i → V.1 3 (5 * j + c.toNat) 0 = 0) ∧ Fg (fun C j' => C = 3 ∧ ∃ c : Nat, c < 5 ∧ j' = 5 * j + c) X V) _ ?_ ?_ z 0 X (by omega) (by omega) ⟨by omega, by omega, fun c c0 c1 => by omega, Fg.rf⟩
  · rintro k V i hN ⟨i0, i1, hc, hF⟩
    exact Tt.of (v := V) (if_pos hN) ⟨fun c c0 c1 => hc c c0 (by omega), hF⟩
  · rintro k V i hN ⟨i0, i1, hc, hF⟩
    refine Or.inl ⟨pj V 3 (5 * j + i.toNat) (up (V.1 3 (5 * j + i.toNat)) 0 0), ?_, by omega, by omega, fun c c0 c1 => ?_, hF.pj ⟨rfl, i.toNat, by omega, rfl⟩⟩
    · show (if (5 : Int) ≤ i then _ else _) = _
      rw [if_neg (by omega), ckI_t i0 (by omega), sbind, ckR_t (by omega) (by omega), wI_pj]
    · by_cases q : c = i
      · subst q; rw [pj_s, up_s]
      · rw [pj_j (by omega)]; exact hc c c0 (by omega)
theorem k_reset (hz : 50000 ≤ z) {j : Nat} : Tt (F_X6_reset z j X) (fun y => E0 y j ∧ Fo (fun o => o = j) X y) := by
  unfold F_X6_reset
  rw [sbind, sbind, sbind]
  simp only [wI_pj, pj_s, pj_pj]
  refine (k_reset4 (z := z) (j := j)).bind ?_
  rintro y1 ⟨h1, f1⟩
  refine (k_reset0 (z := z) hz (b := 3 * j)).bind ?_
  rintro y2 ⟨h2, f2⟩
  refine (k_reset31 (z := z) hz (j := j)).bind ?_
  rintro y3 ⟨h3, f3⟩
  rw [sbind]
  have n3 : ∀ C j', C ≠ 3 → y3.1 C j' = y2.1 C j' ∧ y3.2 C j' = y2.2 C j' := fun C j' q => f3 C j' (fun u => q u.1)
  have n2 : ∀ C j', C ≠ 0 → C ≠ 23 → y2.1 C j' = y1.1 C j' ∧ y2.2 C j' = y1.2 C j' := fun C j' q q' => f2 C j' (fun u => by omega)
  refine Tt.ret ⟨⟨⟨?_, ?_, ?_⟩, ⟨?_, ?_, ?_, ?_, ?_⟩, ⟨?_, ?_⟩, ?_, ?_⟩, ?_⟩
  · rw [pj_C (by decide), (n3 6 j (by decide)).1, (n2 6 j (by decide) (by decide)).1, (f1 6 j (by omega)).1, pj_s]; rfl
  · rw [pj_C (by decide), (n3 6 j (by decide)).1, (n2 6 j (by decide) (by decide)).1, (f1 6 j (by omega)).1, pj_s]; rfl
  · rw [pj_C (by decide), (n3 6 j (by decide)).1, (n2 6 j (by decide) (by decide)).1, (f1 6 j (by omega)).1, pj_s]; rfl
  · rw [pj_C (by decide), (n3 4 j (by decide)).1, (n2 4 j (by decide) (by decide)).1]; exact h1.1
  · rw [pj_2, (n3 4 j (by decide)).2, (n2 4 j (by decide) (by decide)).2]; exact h1.2.1
  · rw [pj_C (by decide), (n3 21 j (by decide)).1, (n2 21 j (by decide) (by decide)).1]; exact h1.2.2.1
  · rw [pj_C (by decide), (n3 22 j (by decide)).1, (n2 22 j (by decide) (by decide)).1]; exact h1.2.2.2.1
  · rw [pj_2, (n3 30 j (by decide)).2, (n2 30 j (by decide) (by decide)).2]; exact h1.2.2.2.2
  · rw [pj_2, (n3 0 (3 * j) (by decide)).2]; exact h2.1
  · intro i i0 i1
    rw [pj_C (by decide), (n3 23 (3 * j) (by decide)).1]; exact h2.2 i i0 i1
  · intro c c0 c1
    rw [pj_C (by decide)]; exact h3 c c0 c1
  · rw [pj_s, up_s]
  · intro C j' q
    have q1 : ¬ (C = 1 ∧ j' = j) := fun u => q (by rw [u.2]; exact own_s (by omega))
    have q6 : ¬ (C = 6 ∧ j' = j) := fun u => q (by rw [u.2]; exact own_s (by omega))
    have q4 : ¬ ((C = 4 ∨ C = 21 ∨ C = 22 ∨ C = 30) ∧ j' = j) := fun u => q (by rw [u.2]; exact own_s (by omega))
    have q0 : ¬ ((C = 0 ∨ C = 23) ∧ j' = 3 * j) := fun u => q (by rw [u.2]; exact own_t u.1)
    have q3 : ¬ (C = 3 ∧ ∃ c : Nat, c < 5 ∧ j' = 5 * j + c) := fun u => q (by
      obtain ⟨u1, c, u2, u3⟩ := u
      rw [u1, u3]; exact own_l u2)
    have a3 := f3 C j' q3
    have a2 := f2 C j' q0
    have a1 := f1 C j' q4
    refine ⟨?_, ?_⟩
    · show (pj y3 1 j _).1 C j' = _
      rw [show (pj y3 1 j (up (y3.1 1 j) 0 0)).1 C j' = y3.1 C j' from if_neg q1, a3.1, a2.1, a1.1]
      exact if_neg q6
    · rw [pj_2, a3.2, a2.2, a1.2, pj_2]
theorem win_00 {m : Int} (h : 0 ≤ m) : win r 0 m = decide (m = 0) := by
  by_cases q : m = 0
  · rw [q, win_rf, decide_eq_true rfl]
  · rw [win_lt (by omega), decide_eq_false q]
/-- the empty State, in the model's words -/
theorem E0.DR (h : E0 y 10) {g : Nat → Int} (hg : ∀ i : Int, 0 ≤ i → i < 5366 → g i.toNat = r0 i) : DR y g := by
  obtain ⟨⟨a1, a2, a3⟩, ⟨b1, b2, b3, b4, b5⟩, ⟨c1, c2⟩, d, e⟩ := h
  have Z : ∀ i : Int, 0 ≤ i → i < 5366 → ¬ (611 ≤ i ∧ i < 626) → i ≠ 3 → i ≠ 191 → i ≠ 11 → i ≠ 71 → g i.toNat = 0 := fun i i0 i1 x1 x2 x3 x4 x5 => by rw [hg i i0 i1, r0_z x1 x2 x3 x4 x5]
  have ect : qct g = 1 := (hg 3 (by omega) (by omega)).trans (by decide)
  have etk : qtk g = 0 := Z 0 (by omega) (by omega) (by omega) (by omega) (by omega) (by omega) (by omega)
  have efc : qfc g = 0 := Z 1 (by omega) (by omega) (by omega) (by omega) (by omega) (by omega) (by omega)
  have ecc : qcc g = 0 := Z 2 (by omega) (by omega) (by omega) (by omega) (by omega) (by omega) (by omega)
  have ekc : qkc g = 0 := Z 4 (by omega) (by omega) (by omega) (by omega) (by omega) (by omega) (by omega)
  have epa : qpa g 0 = -1 := (hg 11 (by omega) (by omega)).trans (by decide)
  have elb : qlb g 0 = -1 := (hg 71 (by omega) (by omega)).trans (by decide)
  have eal : g (191 + 0 : Int).toNat = 1 := (hg 191 (by omega) (by omega)).trans (by decide)
  have erc : ∀ n : Int, 0 ≤ n → n < 60 → g (131 + n).toNat = 0 := fun n n0 n1 => Z _ (by omega) (by omega) (by omega) (by omega) (by omega) (by omega) (by omega)
  have etv : ∀ n f : Int, 0 ≤ n → n < 60 → 0 ≤ f → f < 6 → qtv g n f = 0 := fun n f n0 n1 f0 f1 => Z _ (by omega) (by omega) (by omega) (by omega) (by omega) (by omega) (by omega)
  refine ⟨⟨?_, ?_, ?_, ?_⟩, ?_, ?_, ⟨?_, ?_, ?_⟩, ?_, ekc, e⟩
  · unfold Wb; rw [ect, etk, efc, ecc, ekc]; omega
  · exact ⟨epa, elb, fun n n0 n1 => by omega⟩
  · intro n n0 n1; exact Or.inl (erc n n0 n1)
  · intro n f n0 n1 f0 f1; exact etv n f n0 n1 (by omega) f1
  · intro n n0 n1
    rw [ect]
    by_cases q : n = 0
    · rw [q, eal, if_pos (by omega)]
    · rw [if_neg (by omega)]
      exact Z _ (by omega) (by omega) (by omega) (by omega) (by omega) (by omega) (by omega)
  · intro n m n0 n1; omega
  · exact ⟨a1.trans etk.symm, a2.trans efc.symm, a3.trans ecc.symm, fun f f0 f1 => by omega⟩
  · refine ⟨b1.trans ect.symm, fun n n0 n1 => ?_, fun n n0 n1 => ?_⟩
    · have e0 : n = 0 := by omega
      subst e0
      refine ⟨b3.trans epa.symm, b4.trans elb.symm, fun m m0 m1 => ?_⟩
      have e5 : y.2 30 10 (0 : Int).toNat = bt 0 := b5
      rw [e5, win_00 m0, has_bt (by omega) (by omega) m0]
    · rw [b2, ect]
      have : has 0#64 n = false := by unfold has; simp
      rw [this]
      by_cases q : n < 1
      · have : qrc g n = false := by
          unfold qrc; rw [erc n n0 (by omega)]; rfl
        rw [this, Bool.and_false]
      · rw [decide_eq_false q]; rfl
  · refine ⟨fun n n0 n1 => ?_, fun n f n0 n1 f0 f1 => ?_⟩
    · have e5 : y.2 0 30 0 = bt 0 := c1
      rw [e5, has_bt (by omega) (by omega) n0, ect]
      by_cases q : n = 0
      · rw [q, decide_eq_true rfl, decide_eq_true (by omega)]
        unfold qal; rw [eal]; rfl
      · rw [decide_eq_false q, decide_eq_false (by omega)]; rfl
    · rw [etv n f n0 n1 f0 f1]; exact c2 _ (by omega) (by omega)
  · intro c c0 c1
    refine ⟨?_, d c c0 c1⟩
    unfold qln
    rw [hg _ (by omega) (by omega)]
    unfold r0; rw [if_pos (by omega)]
end
