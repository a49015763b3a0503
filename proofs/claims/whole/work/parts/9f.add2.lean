section
variable {z : Nat} {x y : Mm} {r : Nat → Int} {c p l e : Int}
theorem Wq_qan (hW : Wq r) (c0 : 0 ≤ c) (c1 : c < 5) (p0 : 0 ≤ p) (p1 : p < qct r) (l0 : 0 ≤ l) (l1 : l ≤ 999) (he : e = 0 ∨ e = 1) (hn : qct r < 60) : Wq (qan r c p l e) := by
  obtain ⟨hb, ht, ha, hr, hv, hl, hk⟩ := hW
  have h60 := hb.2.2.2.1
  have hf := hb.2.1
  obtain ⟨v3, v11, v71, v131, v191, v6, v12⟩ := qan_v (r := r) (c := c) (p := p) (l := l) (e := e) hb c0 hn
  have O : ∀ i : Int, 0 ≤ i → i ≠ 3 → i ≠ 11 + qct r → i ≠ 71 + qct r → i ≠ 131 + qct r → i ≠ 191 + qct r → i ≠ 866 + 900 * c + 60 + qct r → i ≠ 866 + 900 * c + 120 + qct r → qan r c p l e i.toNat = r i.toNat := fun i a1 a2 a3 a4 a5 a6 a7 a8 => qan_o hb c0 a1 a2 a3 a4 a5 a6 a7 a8
  have efc : qfc (qan r c p l e) = qfc r := O 1 (by omega) (by omega) (by omega) (by omega) (by omega) (by omega) (by omega) (by omega)
  have epa : ∀ m : Int, 0 ≤ m → m < qct r → qpa (qan r c p l e) m = qpa r m := fun m m0 m1 => O _ (by omega) (by omega) (by omega) (by omega) (by omega) (by omega) (by omega) (by omega)
  have elb : ∀ m : Int, 0 ≤ m → m < qct r → qlb (qan r c p l e) m = qlb r m := fun m m0 m1 => O _ (by omega) (by omega) (by omega) (by omega) (by omega) (by omega) (by omega) (by omega)
  have eal : ∀ m : Int, 0 ≤ m → m < 60 → m ≠ qct r → qal (qan r c p l e) m = qal r m := fun m m0 m1 m2 => by unfold qal; rw [O _ (by omega) (by omega) (by omega) (by omega) (by omega) (by omega) (by omega) (by omega)]
  have ealn : qal (qan r c p l e) (qct r) = false := by unfold qal; rw [v191]; rfl
  refine ⟨?_, ?_, ⟨fun m m0 m1 => ?_, fun m m0 m1 => ?_, fun m m0 m1 hm => ?_, fun m q m0 m1 q0 q1 hmq hm hq hp => ?_⟩, fun m m0 m1 => ?_, fun m f m0 m1 f0 f1 => ?_, fun d d0 d1 => ?_, fun i i0 i1 => ?_⟩
  · unfold Wb
    rw [show qtk (qan r c p l e) = qtk r from O 0 (by omega) (by omega) (by omega) (by omega) (by omega) (by omega) (by omega) (by omega), efc, show qcc (qan r c p l e) = qcc r from O 2 (by omega) (by omega) (by omega) (by omega) (by omega) (by omega) (by omega) (by omega), v3, show qkc (qan r c p l e) = qkc r from O 4 (by omega) (by omega) (by omega) (by omega) (by omega) (by omega) (by omega) (by omega)]
    exact ⟨hb.1, hb.2.1, hb.2.2.1, by omega, hb.2.2.2.2⟩
  · refine ⟨by rw [epa 0 (by omega) (by omega)]; exact ht.1, by rw [elb 0 (by omega) (by omega)]; exact ht.2.1, fun m m0 m1 => ?_⟩
    rw [v3] at m1
    by_cases q : m = qct r
    · subst q; rw [v11, v71]; omega
    · rw [epa m (by omega) (by omega), elb m (by omega) (by omega)]; exact ht.2.2 m m0 (by omega)
  · by_cases q : m = qct r
    · subst q; rw [v191]; exact Or.inl rfl
    · rw [O _ (by omega) (by omega) (by omega) (by omega) (by omega) (by omega) (by omega) (by omega)]; exact ha.1 m m0 m1
  · rw [v3] at m0
    rw [eal m (by omega) m1 (by omega)]; exact ha.2.1 m (by omega) m1
  · rw [v3] at m1
    by_cases q : m = qct r
    · subst q; rw [ealn] at hm; cases hm
    · have hp := ht.2.2 m m0 (by omega)
      rw [eal m (by omega) (by omega) q] at hm
      rw [epa m (by omega) (by omega), eal _ (by omega) (by omega) (by omega)]; exact ha.2.2.1 m m0 (by omega) hm
  · rw [v3] at m1 q1
    by_cases w1 : m = qct r
    · subst w1; rw [ealn] at hm; cases hm
    · by_cases w2 : q = qct r
      · subst w2; rw [ealn] at hq; cases hq
      · rw [eal m (by omega) (by omega) w1] at hm
        rw [eal q (by omega) (by omega) w2] at hq
        rw [epa m (by omega) (by omega), epa q (by omega) (by omega)] at hp
        rw [elb m (by omega) (by omega), elb q (by omega) (by omega)]
        exact ha.2.2.2 m q m0 (by omega) q0 (by omega) hmq hm hq hp
  · by_cases q : m = qct r
    · subst q; rw [v131]; exact he
    · rw [O _ (by omega) (by omega) (by omega) (by omega) (by omega) (by omega) (by omega) (by omega)]; exact hr m m0 m1
  · rw [efc] at f0
    show qan r c p l e (251 + 6 * m + f).toNat = 0
    rw [O _ (by omega) (by omega) (by omega) (by omega) (by omega) (by omega) (by omega) (by omega)]; exact hv m f m0 m1 f0 f1
  · have hd := hl d d0 d1
    have eln : qln (qan r c p l e) d = qln r d := O _ (by omega) (by omega) (by omega) (by omega) (by omega) (by omega) (by omega) (by omega)
    have ehl : qhl (qan r c p l e) d = qhl r d := by unfold qhl; rw [eln]
    intro w
    rw [ehl] at w
    obtain ⟨b1, b2, b3, b4, b5, b6⟩ := hd w
    have ecp : ∀ q m : Int, q = 0 ∨ q = 60 ∨ q = 120 → 0 ≤ m → m < 60 → ¬ (d = c ∧ m = qct r ∧ q ≠ 0) → qcp (qan r c p l e) d q m = qcp r d q m := fun q m hq m0 m1 hne => by
      unfold qcp; rw [O _ (by omega) (by omega) (by omega) (by omega) (by omega) (by omega) (by omega) (by omega)]
    have eov : ∀ m f : Int, 0 ≤ m → m < 60 → 0 ≤ f → f < 6 → qov (qan r c p l e) d m f = qov r d m f := fun m f m0 m1 f0 f1 => O _ (by omega) (by omega) (by omega) (by omega) (by omega) (by omega) (by omega) (by omega)
    have env : ∀ m f : Int, 0 ≤ m → m < 60 → 0 ≤ f → f < 6 → qnv (qan r c p l e) d m f = qnv r d m f := fun m f m0 m1 f0 f1 => O _ (by omega) (by omega) (by omega) (by omega) (by omega) (by omega) (by omega) (by omega)
    refine ⟨by rw [eln, v3]; omega, ?_, ?_, ⟨?_, fun m f m0 m1 f0 f1 => ?_, fun m m0 m1 hm => ?_⟩, fun m f m0 m1 f0 f1 => ?_, fun m m0 m1 => ?_⟩
    · rw [show qle (qan r c p l e) d = qle r d from O _ (by omega) (by omega) (by omega) (by omega) (by omega) (by omega) (by omega) (by omega)]; exact b2
    · rw [show qlx (qan r c p l e) d = qlx r d from O _ (by omega) (by omega) (by omega) (by omega) (by omega) (by omega) (by omega) (by omega)]; exact b3
    · rw [ecp 120 0 (by omega) (by omega) (by omega) (by omega)]; exact b4.1
    · rw [efc] at f0
      rw [eov m f m0 m1 (by omega) f1, env m f m0 m1 (by omega) f1]; exact b4.2.1 m f m0 m1 f0 f1
    · by_cases q : d = c ∧ m = qct r
      · refine Or.inr ?_
        rw [q.1, q.2]; unfold qcp; rw [v12]; rfl
      · rw [ecp 60 m (by omega) m0 m1 (by omega)] at hm
        rw [ecp 0 m (by omega) m0 m1 (by omega), ecp 120 m (by omega) m0 m1 (by omega)]; exact b4.2.2 m m0 m1 hm
    · rw [v3] at m0
      rw [env m f (by omega) m1 f0 f1]; exact b5 m f (by omega) m1 f0 f1
    · rw [v3] at m0
      rw [ecp 0 m (by omega) (by omega) m1 (by omega), ecp 60 m (by omega) (by omega) m1 (by omega), ecp 120 m (by omega) (by omega) m1 (by omega)]; exact b6 m (by omega) m1
  · have ek : qkc (qan r c p l e) = qkc r := O 4 (by omega) (by omega) (by omega) (by omega) (by omega) (by omega) (by omega) (by omega)
    have hkc := hb.2.2.2.2
    rw [ek] at i1
    have eq : ∀ w : Int, 0 ≤ w → w < 6 → qkp (qan r c p l e) i w = qkp r i w := fun w w0 w1 => O _ (by omega) (by omega) (by omega) (by omega) (by omega) (by omega) (by omega) (by omega)
    rw [eq 1 (by omega) (by omega), eq 0 (by omega) (by omega), eq 2 (by omega) (by omega), v3, efc]
    have := hk i i0 i1
    exact ⟨by omega, this.2⟩
/-- the class's addToCopy -/
theorem k_addToCopy (hz : 50000 ≤ z) (hR : Rs y 0 r) (c0 : 0 ≤ c) (c1 : c < 5) (ql : qhl r c = true) (p0 : 0 ≤ p) (p1 : p < qct r) (l0 : 0 ≤ l) (l1 : l ≤ 999) (he : e = 0 ∨ e = 1) (hn : qct r < 60) : Tt (F_X6_addToCopy z 0 c p l e y) (fun q => q.1 = qct r ∧ Rs q.2 0 (qan r c p l e) ∧ Fo (fun o => o = 0) y q.2) := by
  have hW' := Wq_qan hR.1 c0 c1 p0 p1 l0 l1 he hn
  obtain ⟨hW, hH, hN, hB, hLs, hC⟩ := hR
  obtain ⟨hb, ht, ha, hr, hv, hl, hk⟩ := hW
  have h60 := hb.2.2.2.1
  have hf := hb.2.1
  have hkc := hb.2.2.2.2
  obtain ⟨v3, v11, v71, v131, v191, v6, v12⟩ := qan_v (r := r) (c := c) (p := p) (l := l) (e := e) hb c0 hn
  have O : ∀ i : Int, 0 ≤ i → i ≠ 3 → i ≠ 11 + qct r → i ≠ 71 + qct r → i ≠ 131 + qct r → i ≠ 191 + qct r → i ≠ 866 + 900 * c + 60 + qct r → i ≠ 866 + 900 * c + 120 + qct r → qan r c p l e i.toNat = r i.toNat := fun i a1 a2 a3 a4 a5 a6 a7 a8 => qan_o hb c0 a1 a2 a3 a4 a5 a6 a7 a8
  -- addNext
  have hadd : ∃ y2, F_X4_addNext z 0 p l e y = some (qct r, y2) ∧ (∀ C j, ¬ ((C = 4 ∨ C = 21 ∨ C = 22 ∨ C = 30) ∧ j = 0) → y2.1 C j = y.1 C j ∧ y2.2 C j = y.2 C j) ∧ y2.1 4 0 0 = qct r + 1 ∧ y2.1 21 0 = up (y.1 21 0) (qct r).toNat p ∧ y2.1 22 0 = up (y.1 22 0) (qct r).toNat l ∧ y2.2 30 0 = up (y.2 30 0) (qct r).toNat ((y.2 30 0 p.toNat) ||| bt (qct r)) ∧ (∀ m : Int, 0 ≤ m → m < 64 → has (y2.2 4 0 1) m = (has (y.2 4 0 1) m || (decide (e = 1) && decide (m = qct r)))) := by
    unfold F_X4_addNext
    rw [hN.1, ckI_t (by omega) (by omega), sbind, ckI_t (by omega) (by omega), sbind, ckI_t p0 (by omega), k_bit z _ (by omega) (by omega), sbind, ckI_t (by omega) (by omega), sbind]
    simp only [wI_pj, wL_pl, pl_1, pj_2, pj_C (show (22 : Nat) ≠ 21 by decide), pj_C (show (4 : Nat) ≠ 22 by decide), pj_C (show (4 : Nat) ≠ 21 by decide), hN.1]
    rw [ckR_t (by omega) (by omega), sbind, k_bit z _ (by omega) (by omega), sbind, sbind]
    simp only [pl_1, pj_2, pj_C (show (4 : Nat) ≠ 22 by decide), pj_C (show (4 : Nat) ≠ 21 by decide), hN.1, pl_C (show (4 : Nat) ≠ 30 by decide)]
    rw [ckR_t (by omega) (by omega), sbind]
    rcases he with h0 | h1
    · rw [if_pos h0]
      refine ⟨_, rfl, fun C j q => ⟨?_, ?_⟩, ?_, ?_, ?_, ?_, fun m m0 m1 => ?_⟩
      · by_cases q4 : C = 4
        · have : j ≠ 0 := fun w => q ⟨by omega, w⟩
          rw [pj_j this, pl_1]
          by_cases q22 : C = 22
          · omega
          · rw [pj_C q22, pj_C (by omega)]
        · rw [pj_C q4, pl_1]
          by_cases q22 : C = 22
          · rw [pj_j (fun w => q ⟨by omega, w⟩), pj_C (by omega)]
          · rw [pj_C q22]
            by_cases q21 : C = 21
            · rw [pj_j (fun w => q ⟨by omega, w⟩)]
            · rw [pj_C q21]
      · rw [pj_2]
        by_cases q30 : C = 30
        · rw [pl_j (fun w => q ⟨by omega, w⟩), pj_2, pj_2]
        · rw [pl_C q30, pj_2, pj_2]
      · rw [pj_s, up_s]
      · rw [pj_C (by decide), pl_1, pj_C (by decide), pj_s]
      · rw [pj_C (by decide), pl_1, pj_s]
      · rw [pj_2, pl_s]
      · rw [pj_2, pl_C (by decide), pj_2, pj_2, decide_eq_false (by omega), Bool.false_and, Bool.or_false]
    · rw [if_neg (by omega)]
      refine ⟨_, rfl, fun C j q => ⟨?_, ?_⟩, ?_, ?_, ?_, ?_, fun m m0 m1 => ?_⟩
      · by_cases q4 : C = 4
        · have : j ≠ 0 := fun w => q ⟨by omega, w⟩
          rw [pj_j this, pl_1, pl_1]
          by_cases q22 : C = 22
          · omega
          · rw [pj_C q22, pj_C (by omega)]
        · rw [pj_C q4, pl_1, pl_1]
          by_cases q22 : C = 22
          · rw [pj_j (fun w => q ⟨by omega, w⟩), pj_C (by omega)]
          · rw [pj_C q22]
            by_cases q21 : C = 21
            · rw [pj_j (fun w => q ⟨by omega, w⟩)]
            · rw [pj_C q21]
      · rw [pj_2]
        by_cases q4 : C = 4
        · rw [pl_j (fun w => q ⟨by omega, w⟩)]
          by_cases q30 : C = 30
          · omega
          · rw [pl_C q30, pj_2, pj_2]
        · rw [pl_C q4]
          by_cases q30 : C = 30
          · rw [pl_j (fun w => q ⟨by omega, w⟩), pj_2, pj_2]
          · rw [pl_C q30, pj_2, pj_2]
      · rw [pj_s, up_s]
      · rw [pj_C (by decide), pl_1, pl_1, pj_C (by decide), pj_s]
      · rw [pj_C (by decide), pl_1, pl_1, pj_s]
      · rw [pj_2, pl_C (by decide), pl_s]
      · rw [pj_2, pl_s, up_s, has_or, has_bt (by omega) (by omega) m0, decide_eq_true h1, Bool.true_and]
  obtain ⟨y2, e2, f2, a4, a21, a22, a30, a41⟩ := hadd
  unfold F_X6_addToCopy
  rw [ckI_t c0 (by omega), e2, sbind]
  show Tt ((F_X7_bit z (qct r) y2).bind _) _
  rw [k_bit z _ (by omega) (by omega), sbind, sbind, k_bit z _ (by omega) (by omega), sbind, sbind]
  show Tt ((F_X0_clearFields z (3 * (5 * 0 + c.toNat) + 2) (qct r) (wL (wL y2 3 (5 * 0 + c.toNat) 4 ((y2.2 3 (5 * 0 + c.toNat) 4) ||| bt (qct r))) 0 (3 * (5 * 0 + c.toNat) + 2) 0 (((wL y2 3 (5 * 0 + c.toNat) 4 ((y2.2 3 (5 * 0 + c.toNat) 4) ||| bt (qct r))).2 0 (3 * (5 * 0 + c.toNat) + 2) 0) ||| bt (qct r)))).bind _) _
  rw [wL_pl, wL_pl, pl_C (show (0 : Nat) ≠ 3 by decide)]
  refine (k_clearFields (z := z) hz (b := 3 * (5 * 0 + c.toNat) + 2) (n := qct r) (by omega) hn).bind ?_
  rintro y3 ⟨vs, rfl, hvs⟩
  have O4 : ∀ C j, ¬ ((C = 4 ∨ C = 21 ∨ C = 22 ∨ C = 30) ∧ j = 0) → ¬ (C = 3 ∧ j = 5 * 0 + c.toNat) → ¬ ((C = 0 ∨ C = 23) ∧ j = 3 * (5 * 0 + c.toNat) + 2) → (pj (pl (pl y2 3 (5 * 0 + c.toNat) (up (y2.2 3 (5 * 0 + c.toNat)) 4 ((y2.2 3 (5 * 0 + c.toNat) 4) ||| bt (qct r)))) 0 (3 * (5 * 0 + c.toNat) + 2) (up (y2.2 0 (3 * (5 * 0 + c.toNat) + 2)) 0 ((y2.2 0 (3 * (5 * 0 + c.toNat) + 2) 0) ||| bt (qct r)))) 23 (3 * (5 * 0 + c.toNat) + 2) vs).1 C j = y.1 C j ∧ (pj (pl (pl y2 3 (5 * 0 + c.toNat) (up (y2.2 3 (5 * 0 + c.toNat)) 4 ((y2.2 3 (5 * 0 + c.toNat) 4) ||| bt (qct r)))) 0 (3 * (5 * 0 + c.toNat) + 2) (up (y2.2 0 (3 * (5 * 0 + c.toNat) + 2)) 0 ((y2.2 0 (3 * (5 * 0 + c.toNat) + 2) 0) ||| bt (qct r)))) 23 (3 * (5 * 0 + c.toNat) + 2) vs).2 C j = y.2 C j := by
    intro C j q1 q2 q3
    obtain ⟨g1, g2⟩ := f2 C j q1
    rw [← g1, ← g2]
    refine ⟨?_, ?_⟩
    · by_cases w : C = 23
      · rw [pj_j (fun u => q3 ⟨Or.inr w, u⟩), pl_1, pl_1]
      · rw [pj_C w, pl_1, pl_1]
    · rw [pj_2]
      by_cases w : C = 0
      · rw [pl_j (fun u => q3 ⟨Or.inl w, u⟩), pl_C (by omega)]
      · rw [pl_C w]
        by_cases w3 : C = 3
        · rw [pl_j (fun u => q2 ⟨w3, u⟩)]
        · rw [pl_C w3]
  have A4 : ∀ C j, C = 4 ∨ C = 21 ∨ C = 22 ∨ C = 30 → (pj (pl (pl y2 3 (5 * 0 + c.toNat) (up (y2.2 3 (5 * 0 + c.toNat)) 4 ((y2.2 3 (5 * 0 + c.toNat) 4) ||| bt (qct r)))) 0 (3 * (5 * 0 + c.toNat) + 2) (up (y2.2 0 (3 * (5 * 0 + c.toNat) + 2)) 0 ((y2.2 0 (3 * (5 * 0 + c.toNat) + 2) 0) ||| bt (qct r)))) 23 (3 * (5 * 0 + c.toNat) + 2) vs).1 C j = y2.1 C j ∧ (pj (pl (pl y2 3 (5 * 0 + c.toNat) (up (y2.2 3 (5 * 0 + c.toNat)) 4 ((y2.2 3 (5 * 0 + c.toNat) 4) ||| bt (qct r)))) 0 (3 * (5 * 0 + c.toNat) + 2) (up (y2.2 0 (3 * (5 * 0 + c.toNat) + 2)) 0 ((y2.2 0 (3 * (5 * 0 + c.toNat) + 2) 0) ||| bt (qct r)))) 23 (3 * (5 * 0 + c.toNat) + 2) vs).2 C j = y2.2 C j := by
    intro C j q
    rw [pj_C (by omega), pl_1, pl_1, pj_2, pl_C (by omega), pl_C (by omega)]; exact ⟨rfl, rfl⟩
  have B3 : (pj (pl (pl y2 3 (5 * 0 + c.toNat) (up (y2.2 3 (5 * 0 + c.toNat)) 4 ((y2.2 3 (5 * 0 + c.toNat) 4) ||| bt (qct r)))) 0 (3 * (5 * 0 + c.toNat) + 2) (up (y2.2 0 (3 * (5 * 0 + c.toNat) + 2)) 0 ((y2.2 0 (3 * (5 * 0 + c.toNat) + 2) 0) ||| bt (qct r)))) 23 (3 * (5 * 0 + c.toNat) + 2) vs).2 3 (5 * 0 + c.toNat) 4 = ((y.2 3 (5 * 0 + c.toNat) 4) ||| bt (qct r)) := by
    rw [pj_2, pl_C (by decide), pl_s, up_s, (f2 3 _ (by omega)).2]
  have B31 : (pj (pl (pl y2 3 (5 * 0 + c.toNat) (up (y2.2 3 (5 * 0 + c.toNat)) 4 ((y2.2 3 (5 * 0 + c.toNat) 4) ||| bt (qct r)))) 0 (3 * (5 * 0 + c.toNat) + 2) (up (y2.2 0 (3 * (5 * 0 + c.toNat) + 2)) 0 ((y2.2 0 (3 * (5 * 0 + c.toNat) + 2) 0) ||| bt (qct r)))) 23 (3 * (5 * 0 + c.toNat) + 2) vs).1 3 (5 * 0 + c.toNat) = y.1 3 (5 * 0 + c.toNat) := by
    rw [pj_C (by decide), pl_1, pl_1, (f2 3 _ (by omega)).1]
  have B0 : (pj (pl (pl y2 3 (5 * 0 + c.toNat) (up (y2.2 3 (5 * 0 + c.toNat)) 4 ((y2.2 3 (5 * 0 + c.toNat) 4) ||| bt (qct r)))) 0 (3 * (5 * 0 + c.toNat) + 2) (up (y2.2 0 (3 * (5 * 0 + c.toNat) + 2)) 0 ((y2.2 0 (3 * (5 * 0 + c.toNat) + 2) 0) ||| bt (qct r)))) 23 (3 * (5 * 0 + c.toNat) + 2) vs).2 0 (3 * (5 * 0 + c.toNat) + 2) 0 = ((y.2 0 (3 * (5 * 0 + c.toNat) + 2) 0) ||| bt (qct r)) := by
    rw [pj_2, pl_s, up_s, (f2 0 _ (by omega)).2]
  have B23 : ∀ m f : Int, 0 ≤ m → m < 60 → 0 ≤ f → f < 6 → (pj (pl (pl y2 3 (5 * 0 + c.toNat) (up (y2.2 3 (5 * 0 + c.toNat)) 4 ((y2.2 3 (5 * 0 + c.toNat) 4) ||| bt (qct r)))) 0 (3 * (5 * 0 + c.toNat) + 2) (up (y2.2 0 (3 * (5 * 0 + c.toNat) + 2)) 0 ((y2.2 0 (3 * (5 * 0 + c.toNat) + 2) 0) ||| bt (qct r)))) 23 (3 * (5 * 0 + c.toNat) + 2) vs).1 23 (3 * (5 * 0 + c.toNat) + 2) (m * 6 + f).toNat = if m = qct r then 0 else y.1 23 (3 * (5 * 0 + c.toNat) + 2) (m * 6 + f).toNat := by
    intro m f m0 m1 f0 f1
    rw [pj_s, hvs m f m0 m1 f0 f1, pl_1, pl_1, (f2 23 _ (by omega)).1]
  clear hvs f2
  generalize pj (pl (pl y2 3 (5 * 0 + c.toNat) (up (y2.2 3 (5 * 0 + c.toNat)) 4 ((y2.2 3 (5 * 0 + c.toNat) 4) ||| bt (qct r)))) 0 (3 * (5 * 0 + c.toNat) + 2) (up (y2.2 0 (3 * (5 * 0 + c.toNat) + 2)) 0 ((y2.2 0 (3 * (5 * 0 + c.toNat) + 2) 0) ||| bt (qct r)))) 23 (3 * (5 * 0 + c.toNat) + 2) vs = w at *
  refine Tt.ret ⟨rfl, ⟨hW', ?_, ?_, ?_, ?_, ?_⟩, ?_⟩
  · have := RH_fr hH (O4 6 0 (by omega) (by omega) (by omega)).1 (O4 20 0 (by omega) (by omega) (by omega)).1
    refine ⟨this.1.trans (O 0 (by omega) (by omega) (by omega) (by omega) (by omega) (by omega) (by omega) (by omega)).symm, this.2.1.trans (O 1 (by omega) (by omega) (by omega) (by omega) (by omega) (by omega) (by omega) (by omega)).symm, this.2.2.1.trans (O 2 (by omega) (by omega) (by omega) (by omega) (by omega) (by omega) (by omega) (by omega)).symm, fun g g0 g1 => ?_⟩
    rw [show qfc (qan r c p l e) = qfc r from O 1 (by omega) (by omega) (by omega) (by omega) (by omega) (by omega) (by omega) (by omega)] at g1
    exact (this.2.2.2 g g0 g1).trans (O (5 + g) (by omega) (by omega) (by omega) (by omega) (by omega) (by omega) (by omega) (by omega)).symm
  · refine ⟨by rw [(A4 4 0 (by omega)).1, a4, v3], fun m m0 m1 => ?_, fun m m0 m1 => ?_⟩
    · rw [v3] at m1
      rw [(A4 21 0 (by omega)).1, (A4 22 0 (by omega)).1, (A4 30 0 (by omega)).2, a21, a22, a30]
      by_cases q : m = qct r
      · subst q
        rw [up_s, up_s, up_s, v11, v71]
        refine ⟨rfl, rfl, fun k k0 k1 => ?_⟩
        rw [has_or, (hN.2.1 p p0 p1).2.2 k k0 k1, has_bt (by omega) (by omega) k0]
        by_cases q2 : k = qct r
        · rw [q2, decide_eq_true rfl, Bool.or_true, win_rf]
        · rw [decide_eq_false q2, Bool.or_false]
          by_cases q3 : k < qct r
          · rw [win_up hW'.1 hW'.2.1 k0 q3 (by rw [v3]; omega), v11, qan_wi hb ht c0 k0 p1]
          · rw [win_lt (by omega), win_lt (by omega)]
      · obtain ⟨g1, g2, g3⟩ := hN.2.1 m m0 (by omega)
        rw [up_i m0 (by omega) q, up_i m0 (by omega) q, up_i m0 (by omega) q, g1, g2]
        refine ⟨(O (11 + m) (by omega) (by omega) (by omega) (by omega) (by omega) (by omega) (by omega) (by omega)).symm, (O (71 + m) (by omega) (by omega) (by omega) (by omega) (by omega) (by omega) (by omega) (by omega)).symm, fun k k0 k1 => ?_⟩
        rw [g3 k k0 k1, qan_wi hb ht c0 k0 (by omega)]
    · rw [(A4 4 0 (by omega)).2, a41 m m0 m1, hN.2.2 m m0 m1, v3]
      by_cases q : m = qct r
      · subst q
        rw [decide_eq_false (by omega), Bool.false_and, Bool.false_or, decide_eq_true (show qct r < qct r + 1 by omega), Bool.true_and, decide_eq_true rfl, Bool.and_true]
        unfold qrc; rw [v131]
      · rw [decide_eq_false q, Bool.and_false, Bool.or_false]
        by_cases q2 : m < qct r
        · rw [decide_eq_true q2, decide_eq_true (show m < qct r + 1 by omega)]
          unfold qrc; rw [O _ (by omega) (by omega) (by omega) (by omega) (by omega) (by omega) (by omega) (by omega)]
        · rw [decide_eq_false q2, decide_eq_false (show ¬ m < qct r + 1 by omega)]; rfl
  · rw [(O4 0 (3 * 0) (by omega) (by omega) (by omega)).2, (O4 23 (3 * 0) (by omega) (by omega) (by omega)).1]
    refine ⟨fun m m0 m1 => ?_, fun m g m0 m1 g0 g1 => ?_⟩
    · rw [hB.1 m m0 m1, v3]
      by_cases q : m = qct r
      · subst q
        rw [decide_eq_false (by omega)]; unfold qal; rw [v191]; simp
      · by_cases q2 : m < qct r
        · rw [decide_eq_true q2, decide_eq_true (show m < qct r + 1 by omega)]
          unfold qal; rw [O _ (by omega) (by omega) (by omega) (by omega) (by omega) (by omega) (by omega) (by omega)]
        · rw [decide_eq_false q2, decide_eq_false (show ¬ m < qct r + 1 by omega)]; rfl
    · rw [hB.2 m g m0 m1 g0 g1]; exact (O (251 + 6 * m + g) (by omega) (by omega) (by omega) (by omega) (by omega) (by omega) (by omega) (by omega)).symm
  · intro d d0 d1
    have eln : qln (qan r c p l e) d = qln r d := O _ (by omega) (by omega) (by omega) (by omega) (by omega) (by omega) (by omega) (by omega)
    have ele : qle (qan r c p l e) d = qle r d := O _ (by omega) (by omega) (by omega) (by omega) (by omega) (by omega) (by omega) (by omega)
    have elx : qlx (qan r c p l e) d = qlx r d := O _ (by omega) (by omega) (by omega) (by omega) (by omega) (by omega) (by omega) (by omega)
    have ehl : qhl (qan r c p l e) d = qhl r d := by unfold qhl; rw [eln]
    have ecp : ∀ q m : Int, q = 0 ∨ q = 60 ∨ q = 120 → 0 ≤ m → m < 60 → ¬ (d = c ∧ m = qct r ∧ q ≠ 0) → qcp (qan r c p l e) d q m = qcp r d q m := fun q m hq m0 m1 hne => by
      unfold qcp; rw [O _ (by omega) (by omega) (by omega) (by omega) (by omega) (by omega) (by omega) (by omega)]
    have eov : ∀ m f : Int, 0 ≤ m → m < 60 → 0 ≤ f → f < 6 → qov (qan r c p l e) d m f = qov r d m f := fun m f m0 m1 f0 f1 => O _ (by omega) (by omega) (by omega) (by omega) (by omega) (by omega) (by omega) (by omega)
    have env : ∀ m f : Int, 0 ≤ m → m < 60 → 0 ≤ f → f < 6 → qnv (qan r c p l e) d m f = qnv r d m f := fun m f m0 m1 f0 f1 => O _ (by omega) (by omega) (by omega) (by omega) (by omega) (by omega) (by omega) (by omega)
    obtain ⟨L1, L2⟩ := hLs d d0 d1
    by_cases qd : d = c
    · subst qd
      refine ⟨by rw [B31, ehl]; exact L1, fun u => ?_⟩
      obtain ⟨⟨l1', l2', l3'⟩, lr, lv⟩ := L2 ql
      obtain ⟨b1, b2, b3, b4, b5, b6⟩ := hl d d0 d1 ql
      rw [B31, eln, ele, elx, v3]
      refine ⟨⟨l1', l2', l3'⟩, fun m m0 m1 => ?_, fun m f m0 m1 f0 f1 => ?_⟩
      · rw [B3, B0, (O4 0 (3 * (5 * 0 + d.toNat) + 1) (by omega) (by omega) (by omega)).2, has_or, has_or, has_bt (by omega) (by omega) m0]
        obtain ⟨g1, g2, g3⟩ := lr m m0 m1
        rw [g1, g2, g3]
        by_cases q : m = qct r
        · subst q
          rw [decide_eq_false (show ¬ qct r < qct r by omega), decide_eq_true (show qct r < qct r + 1 by omega), ecp 0 _ (by omega) (by omega) (by omega) (by omega), (b6 (qct r) (by omega) (by omega)).1]
          refine ⟨?_, rfl, ?_⟩
          · unfold qcp; rw [v12]; simp
          · unfold qcp; rw [v6]; simp
        · rw [decide_eq_false q, Bool.or_false, Bool.or_false]
          by_cases q2 : m < qct r
          · rw [decide_eq_true q2, decide_eq_true (show m < qct r + 1 by omega), ecp 0 m (by omega) m0 (by omega) (by omega), ecp 60 m (by omega) m0 (by omega) (by omega), ecp 120 m (by omega) m0 (by omega) (by omega)]
            exact ⟨rfl, rfl, rfl⟩
          · rw [decide_eq_false q2, decide_eq_false (show ¬ m < qct r + 1 by omega)]; exact ⟨rfl, rfl, rfl⟩
      · rw [(O4 23 (3 * (5 * 0 + d.toNat) + 1) (by omega) (by omega) (by omega)).1, B23 m f m0 m1 f0 f1, eov m f m0 m1 f0 f1, env m f m0 m1 f0 f1, ecp 0 m (by omega) m0 m1 (by omega)]
        refine ⟨(lv m f m0 m1 f0 f1).1, fun u => ?_⟩
        by_cases q : m = qct r
        · rw [if_pos q]; exact (b5 m f (by omega) m1 f0 f1).symm
        · rw [ecp 120 m (by omega) m0 m1 (by omega)] at u
          rw [if_neg q]; exact (lv m f m0 m1 f0 f1).2 u
    · have L := RL_fr (y := w) (hLs d d0 d1) (O4 3 _ (by omega) (by omega) (by omega)).1 (O4 3 _ (by omega) (by omega) (by omega)).2 (O4 0 _ (by omega) (by omega) (by omega)).2 (O4 0 _ (by omega) (by omega) (by omega)).2 (O4 23 _ (by omega) (by omega) (by omega)).1 (O4 23 _ (by omega) (by omega) (by omega)).1
      refine ⟨by rw [ehl]; exact L.1, fun u => ?_⟩
      rw [ehl] at u
      obtain ⟨⟨l1', l2', l3'⟩, lr, lv⟩ := L.2 u
      obtain ⟨b1, b2, b3, b4, b5, b6⟩ := hl d d0 d1 u
      refine ⟨⟨l1'.trans eln.symm, l2'.trans ele.symm, l3'.trans elx.symm⟩, fun m m0 m1 => ?_, fun m f m0 m1 f0 f1 => ?_⟩
      · obtain ⟨g1, g2, g3⟩ := lr m m0 m1
        rw [g1, g2, g3, v3]
        by_cases q2 : m < qct r
        · rw [decide_eq_true q2, decide_eq_true (show m < qct r + 1 by omega), ecp 0 m (by omega) m0 (by omega) (by omega), ecp 60 m (by omega) m0 (by omega) (by omega), ecp 120 m (by omega) m0 (by omega) (by omega)]
          exact ⟨rfl, rfl, rfl⟩
        · by_cases q : m = qct r
          · subst q
            obtain ⟨h1, h2, h3⟩ := b6 (qct r) (by omega) (by omega)
            rw [ecp 0 _ (by omega) m0 (by omega) (by omega), ecp 60 _ (by omega) m0 (by omega) (by omega), ecp 120 _ (by omega) m0 (by omega) (by omega), h1, h2, h3]
            simp
          · rw [decide_eq_false q2, decide_eq_false (show ¬ m < qct r + 1 by omega)]; exact ⟨rfl, rfl, rfl⟩
      · rw [ecp 0 m (by omega) m0 m1 (by omega), ecp 120 m (by omega) m0 m1 (by omega), eov m f m0 m1 f0 f1, env m f m0 m1 f0 f1]
        exact lv m f m0 m1 f0 f1
  · rw [(O4 1 0 (by omega) (by omega) (by omega)).1, (O4 24 0 (by omega) (by omega) (by omega)).1]
    exact hC.same hkc.2 (fun i hi => O i (by omega) (by omega) (by omega) (by omega) (by omega) (by omega) (by omega) (by omega))
  · intro C j q
    refine O4 C j (fun u => q ?_) (fun u => q ?_) (fun u => q ?_)
    · rw [u.2]; exact own_s (by omega)
    · rw [u.1, u.2]; exact own_l (by omega)
    · rw [u.2]; exact (own_b u.1 (by omega)).2
theorem p_addNode (hz : 50000 ≤ z) (h : Inv x) (c p l e : Int) (he : e = 0 ∨ e = 1) : Pr [sI, sA, sS] (F_X7_addNode z 0 c p l e) (F_X8_addNode z 0 c p l e) x := by
  have hb := h.1.1.1
  have ht := h.1.1.2.1
  have hcc := hb.2.2.1
  have h60 := hb.2.2.2.1
  have hN := h.1.2.2.1
  by_cases qc : 0 ≤ c ∧ c < qcc (x.1 27 0)
  · by_cases qn : 0 ≤ p ∧ p < qct (x.1 27 0)
    · by_cases qt : 0 ≤ l ∧ l ≤ 999
      · have hL := h.1.2.2.2.2.1 c qc.1 (by omega)
        have hrp := h.1.1.2.2.2.1 p qn.1 (by omega)
        have er : x.1 27 0 (131 + p).toNat = b2i (qrc (x.1 27 0) p) := by
          unfold qrc; rcases hrp with e | e <;> rw [e] <;> rfl
        generalize hok : (qhl (x.1 27 0) c && (qcp (x.1 27 0) c 60 p && (!qrc (x.1 27 0) p && (decide (qct (x.1 27 0) < 60) && qall (qfr (x.1 27 0) c p l) (qct (x.1 27 0)).toNat)))) = ok
        have pre8 : ∀ u : Mm, u.1 27 0 = x.1 27 0 → F_X8_isToAdd z 0 c p l (th u 0) = some (b2i ok) := by
          intro u hu
          rw [← hok]
          exact e_isToAdd hz (by rw [th_C (by decide), hu]) hb er qc.1 (by omega) qn.1 qn.2
        have pre7 : F_X7_addNode z 0 c p l e x = (if ok = true then ((F_X2_push z 0 0 x).bind fun r19 => (F_X6_addToCopy z 0 c p l e r19).bind fun r21 => some ((.inl r21.1, r21.2))) else some (.inr sS, x)) := by
          unfold F_X7_addNode
          rw [rc_t h qc, bndXl, rn_t h qn, bndXl, if_neg (by omega), if_pos qt.2]
          cases ql : qhl (x.1 27 0) c
          · rw [rl_f h qc.1 (by omega) ql, bndXr, ← hok, ql]; rfl
          · rw [rl_t h qc.1 (by omega) ql, bndXl]
            cases qi : qcp (x.1 27 0) c 60 p
            · rw [rp_f h qc.1 (by omega) ql qn qi, bndXr, ← hok, ql, qi]; rfl
            · obtain ⟨_, glr, _⟩ := hL.2 ql
              have hcw : F_X4_childWith z 0 (x.2 0 (3 * (5 * 0 + c.toNat) + 2) 0) p l x = some (qff (fun m => decide (qpa (x.1 27 0) m = p) && decide (qlb (x.1 27 0) m = l) && qcp (x.1 27 0) c 60 m) (qct (x.1 27 0)).toNat 0) := by
                rw [k_childWith z x hz (by rw [hN.1]; omega) (by rw [hN.1]; omega), hN.1]
                congr 1
                refine qff_congr _ _ (fun m m0 m1 => ?_)
                obtain ⟨e1, e2, _⟩ := hN.2.1 m m0 (by omega)
                rw [e1, e2, (glr m m0 (by omega)).2.2, decide_eq_true (show m < qct (x.1 27 0) by omega), Bool.true_and]
              have hqa : decide (qff (fun m => decide (qpa (x.1 27 0) m = p) && decide (qlb (x.1 27 0) m = l) && qcp (x.1 27 0) c 60 m) (qct (x.1 27 0)).toNat 0 = -1) = qall (qfr (x.1 27 0) c p l) (qct (x.1 27 0)).toNat := by
                rw [qff_all (by omega)]
                have : (fun m => !(decide (qpa (x.1 27 0) m = p) && decide (qlb (x.1 27 0) m = l) && qcp (x.1 27 0) c 60 m)) = qfr (x.1 27 0) c p l := by
                  funext m; unfold qfr; rw [Bool.and_comm (qcp (x.1 27 0) c 60 m)]
                rw [this]
              rw [rp_t h qc.1 (by omega) ql qn qi, bndXl, k_contains z x qn.1 (by omega), sbind, ib, hN.2.2 p qn.1 (by omega), decide_eq_true qn.2, Bool.true_and, ckI_t qc.1 (by omega), hcw, sbind, hN.1, ← hok, ql, qi, ← hqa]
              cases qr : qrc (x.1 27 0) p
              · rw [if_pos rfl]
                by_cases w1 : qff (fun m => decide (qpa (x.1 27 0) m = p) && decide (qlb (x.1 27 0) m = l) && qcp (x.1 27 0) c 60 m) (qct (x.1 27 0)).toNat 0 = -1
                · rw [if_pos w1, decide_eq_true w1]
                  by_cases w2 : qct (x.1 27 0) < 60
                  · rw [if_pos w2, decide_eq_true w2]; rfl
                  · rw [if_neg w2, decide_eq_false w2]; rfl
                · rw [if_neg w1, decide_eq_false w1, Bool.and_false]; rfl
              · rfl
        cases ok
        · refine Pr.get h (y := .inr sS) ?_ (b := 0) (t := 3) ?_ (Ok.x rfl (by decide))
          · rw [pre7, if_neg (by decide)]
          · unfold F_X8_addNode F_X8_addNode_27
            rw [sbind, th_w, mC h, sbind, dt qc, mN h, sbind, dt qn, e_fails1, sbind, it0, e_in, sbind, e_failsT qt, sbind, it0, pre8 x rfl, sbind, e_failsf rfl, sbind, it1, th_th]
        · rw [Bool.and_eq_true, Bool.and_eq_true, Bool.and_eq_true, Bool.and_eq_true] at hok
          obtain ⟨ql, qi, qr, qs, qa⟩ := hok
          have hs : qct (x.1 27 0) < 60 := of_decide_eq_true qs
          obtain ⟨y, e0, hHI, hRy, hF⟩ := k_push (z := z) hz h.2.2.2.1 h.1 h.2.1
          obtain ⟨⟨v, y1⟩, e1, hv, hR1, hF1⟩ := k_addToCopy (z := z) hz hRy qc.1 (by omega) ql qn.1 qn.2 qt.1 qt.2 he hs
          simp only at hv hR1 hF1
          have hZ1 : Zr (qan (x.1 27 0) c p l e) := by
            unfold qan
            refine zr_up (zr_up (zr_up (zr_up (zr_up (zr_up (zr_up h.2.1 ?_ ?_) ?_ ?_) ?_ ?_) ?_ ?_) ?_ ?_) ?_ ?_) ?_ ?_ <;> omega
          refine Pr.chg h hF hHI hF1 hR1 hZ1 (b := qct (x.1 27 0)) ?_ (fun q => ?_)
          · rw [pre7, if_pos rfl, e0, sbind, e1, sbind, hv]
          · have q27 := q 27 0 (by omega)
            unfold F_X8_addNode F_X8_addNode_27
            rw [sbind, th_w, nC q27 hb, sbind, dt qc, nN q27 hb, sbind, dt qn, e_fails1, sbind, it0, e_in, sbind, e_failsT qt, sbind, it0, pre8 y1 q27, sbind, e_failst rfl, sbind, it0, n_rec hz h q, sbind]
            have w27 : (rm y1 (hrec (x.1 28 0) (x.1 8 0 12) (x.1 27 0)) (enx (x.1 8 0 12))).1 27 0 = x.1 27 0 := by rw [rm_C (by decide) (by decide), q27]
            generalize rm y1 (hrec (x.1 28 0) (x.1 8 0 12) (x.1 27 0)) (enx (x.1 8 0 12)) = w at *
            have w3 : w.1 27 0 (3 : Int).toNat = qct (x.1 27 0) := by rw [w27]; rfl
            have e131 : ∀ u : Int, u = e → F_X8_addNode_131 z 0 c (qct (x.1 27 0)) u (131 + qct (x.1 27 0)) 0 (pj w 27 0 (up (up (up (x.1 27 0) (3 : Int).toNat (qct (x.1 27 0) + 1)) (11 + qct (x.1 27 0)).toNat p) (71 + qct (x.1 27 0)).toNat l)) = some (qct (x.1 27 0), pj w 27 0 (qan (x.1 27 0) c p l e)) := by
              intro u hu
              unfold F_X8_addNode_131
              rw [ckI_t (by omega) (by omega), sbind, ckR_t (by omega) (by omega), ckI_t (by omega) (by omega), sbind, e_partOf z c 60 _ _ qc.1 (by omega) (by omega) (by omega) (by omega), sbind, ckI_t (by omega) (by omega), sbind, e_partOf z c 120 _ _ qc.1 (by omega) (by omega) (by omega) (by omega), sbind, ckI_t (by omega) (by omega), sbind, hu]
              simp only [wI_pj, pj_s, pj_pj]
              rfl
            rw [ckI_t (by omega) (by omega), ckI_t (by omega) (by omega), w3, ckR_t (by omega) (by omega), ckI_t (by omega) (by omega), sbind, ckR_t (by omega) (by omega), ckI_t (by omega) (by omega), sbind, ckR_t (by omega) (by omega), ckI_t (by omega) (by omega), sbind, ckR_t (by omega) (by omega)]
            simp only [wI_pj, pj_s, pj_pj, w27]
            rcases he with u | u
            · rw [if_pos u]; exact e131 0 u.symm
            · rw [if_neg (by omega)]; exact e131 1 u.symm
      · refine Pr.get h (y := .inr sA) ?_ (b := 0) (t := 2) ?_ (Ok.x rfl (by decide))
        · unfold F_X7_addNode
          rw [rc_t h qc, bndXl, rn_t h qn, bndXl]
          by_cases w : l < 0
          · rw [if_pos w]
          · rw [if_neg w, if_neg (by omega)]
        · unfold F_X8_addNode F_X8_addNode_27
          rw [sbind, th_w, mC h, sbind, dt qc, mN h, sbind, dt qn, e_fails1, sbind, it0, e_in, sbind, e_failsF qt, sbind, it1, th_th]
    · refine Pr.get h (y := .inr sI) ?_ (b := 0) (t := 1) ?_ (Ok.x rfl (by decide))
      · unfold F_X7_addNode
        rw [rc_t h qc, bndXl, rn_f h qn, bndXr]
      · unfold F_X8_addNode F_X8_addNode_26 F_X8_addNode_27
        rw [sbind, th_w, mC h, sbind, dt qc, mN h, sbind, df qn, e_fails0, sbind, it1, th_th]
  · refine Pr.get h (y := .inr sI) ?_ (b := 0) (t := 1) ?_ (Ok.x rfl (by decide))
    · unfold F_X7_addNode
      rw [rc_f h qc, bndXr]
    · unfold F_X8_addNode F_X8_addNode_26 F_X8_addNode_27
      rw [sbind, th_w, mC h, sbind, df qc, e_fails0, sbind, it1, th_th]
end
