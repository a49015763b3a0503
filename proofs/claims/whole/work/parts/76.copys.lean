theorem k_copyB' {z : Nat} {x : Mm} {b b2 : Nat} {r : Nat → Int} (hne : b ≠ b2) (h : RB (x.2 0 b2) (x.1 23 b2) r) : Tt (F_X0_copyFrom z b b2 x) (fun y => RB (y.2 0 b) (y.1 23 b) r ∧ Fg (fun C j => (C = 0 ∨ C = 23) ∧ j = b) x y) := by
  rw [k_copyB]
  refine Tt.ret ⟨?_, (Fg.rf.pl ⟨Or.inl rfl, rfl⟩).pj ⟨Or.inr rfl, rfl⟩⟩
  rw [pj_2, pl_s, pj_s]
  refine ⟨fun n n0 n1 => by rw [up_s]; exact h.1 n n0 n1, fun n f n0 n1 f0 f1 => ?_⟩
  rw [cpy0 (by omega) (by omega)]; exact h.2 n f n0 n1 f0 f1
theorem k_copyS {z : Nat} (hz : 50000 ≤ z) {x : Mm} {v0 v1 : Nat} {r : Nat → Int} (hne : v0 ≠ v1) (h : Rs x v1 r) : Tt (F_X6_copyFrom z v0 v1 x) (fun y => Rs y v0 r ∧ Fo (fun o => o = v0) x y) := by
  obtain ⟨hW, hH, hN, hB, hL, hC⟩ := h
  have hW' := hW
  obtain ⟨hb, ht, ha, hr, hv, hl, hk⟩ := hW
  have hf := hb.2.1
  have hne' : v1 ≠ v0 := fun w => hne w.symm
  unfold F_X6_copyFrom
  rw [sbind, sbind, sbind, ckC_t (by omega) (by omega) (by omega) (by omega) (by omega), sbind]
  generalize hx5 : wC (wI (wI (wI x 6 v0 0 (x.1 6 v1 0)) 6 v0 1 _) 6 v0 2 _) 20 v1 _ v0 _ _ = x5
  have h5 : RH x5 v0 r ∧ Fg (fun C j => (C = 6 ∨ C = 20) ∧ j = v0) x x5 := by
    rw [← hx5]
    simp only [wI_pj, wC_pj, pj_s, pj_j hne', pj_pj, pj_C (show (20 : Nat) ≠ 6 by decide)]
    refine ⟨⟨?_, ?_, ?_, fun f f0 f1 => ?_⟩, (Fg.rf.pj ⟨Or.inl rfl, rfl⟩).pj ⟨Or.inr rfl, rfl⟩⟩
    · rw [pj_C (by decide), pj_s, up_n (by decide), up_n (by decide), up_s]; exact hH.1
    · rw [pj_C (by decide), pj_s, up_n (by decide), up_s]; exact hH.2.1
    · rw [pj_C (by decide), pj_s, up_s]; exact hH.2.2.1
    · rw [pj_s, cpy0 f0 (by omega)]; exact hH.2.2.2 f f0 f1
  clear hx5
  obtain ⟨hH5, hF5⟩ := h5
  have e5 : ∀ C j, ¬ (C = 6 ∨ C = 20) ∨ j ≠ v0 → x5.1 C j = x.1 C j ∧ x5.2 C j = x.2 C j := fun C j q => hF5 C j (fun w => by rcases q with q | q; exact q w.1; exact q w.2)
  have hN5 : RN x5 v1 r := RN_fr hN (e5 4 v1 (by omega)).1 (e5 4 v1 (by omega)).2 (e5 21 v1 (by omega)).1 (e5 22 v1 (by omega)).1 (e5 30 v1 (by omega)).2
  refine (k_copyN (z := z) hne hb hN5).bind ?_
  rintro x6 ⟨hN6, hF6⟩
  have e6 : ∀ C j, ¬ (C = 4 ∨ C = 21 ∨ C = 22 ∨ C = 30) → x6.1 C j = x5.1 C j ∧ x6.2 C j = x5.2 C j := fun C j q => hF6 C j (fun w => q w.1)
  have hB6 : RB (x6.2 0 (3 * v1)) (x6.1 23 (3 * v1)) r := by
    rw [(e6 0 _ (by omega)).2, (e6 23 _ (by omega)).1, (e5 0 _ (by omega)).2, (e5 23 _ (by omega)).1]; exact hB
  refine (k_copyB' (z := z) (b := 3 * v0) (by omega) hB6).bind ?_
  rintro x7 ⟨hB7, hF7⟩
  have e7 : ∀ C j, ¬ (C = 0 ∨ C = 23) ∨ j ≠ 3 * v0 → x7.1 C j = x6.1 C j ∧ x7.2 C j = x6.2 C j := fun C j q => hF7 C j (fun w => by rcases q with q | q; exact q w.1; exact q w.2)
  have e57 : ∀ C j, ¬ (C = 6 ∨ C = 20 ∨ C = 4 ∨ C = 21 ∨ C = 22 ∨ C = 30) → (¬ (C = 0 ∨ C = 23) ∨ j ≠ 3 * v0) → x7.1 C j = x.1 C j ∧ x7.2 C j = x.2 C j := fun C j q1 q2 => ⟨(e7 C j q2).1.trans ((e6 C j (by omega)).1.trans (e5 C j (by omega)).1), (e7 C j q2).2.trans ((e6 C j (by omega)).2.trans (e5 C j (by omega)).2)⟩
  have hL7 : ∀ c : Int, 0 ≤ c → c < 5 → RLs x7 (5 * v1 + c.toNat) c r := fun c c0 c1 => RL_fr (hL c c0 c1) (e57 3 _ (by omega) (by omega)).1 (e57 3 _ (by omega) (by omega)).2 (e57 0 _ (by omega) (by omega)).2 (e57 0 _ (by omega) (by omega)).2 (e57 23 _ (by omega) (by omega)).1 (e57 23 _ (by omega) (by omega)).1
  have hloop : Tt (F_X6_copyFrom_63 z v0 v1 z 0 x7) (fun y => (∀ c : Int, 0 ≤ c → c < 5 → RLs y (5 * v0 + c.toNat) c r) ∧ Fg (fun C j => (C = 3 ∨ C = 0 ∨ C = 23) ∧ (C = 3 ∨ j % 3 ≠ 0) ∧ own C j = v0) x7 y) := by
    refine loopU (fun k i (w : Mm) => F_X6_copyFrom_63 z v0 v1 k i w) 5 (fun i y => 0 ≤ i ∧ i ≤ 5 ∧ (∀ c : Int, 0 ≤ c → c < i → RLs y (5 * v0 + c.toNat) c r) ∧ Fg (fun C j => (C = 3 ∨ C = 0 ∨ C = 23) ∧ (C = 3 ∨ j % 3 ≠ 0) ∧ own C j = v0) x7 y) _ ?_ ?_ z 0 x7 (by omega) (by omega) ⟨by omega, by omega, fun c c0 c1 => by omega, Fg.rf⟩
    · rintro k y i hN' ⟨i0, i1, h1, h2⟩
      refine Tt.of (v := y) (if_pos hN') ⟨?_, h2⟩
      rw [show i = 5 by omega] at h1; exact h1
    · rintro k y i hN' ⟨i0, i1, h1, h2⟩
      refine Or.inl ?_
      have q1 : y.1 3 (5 * v1 + i.toNat) = x7.1 3 (5 * v1 + i.toNat) ∧ y.2 3 (5 * v1 + i.toNat) = x7.2 3 (5 * v1 + i.toNat) := h2 _ _ (fun w => by
        have := w.2.2; rw [own_l (by omega)] at this; omega)
      have q2 : ∀ C, (C = 0 ∨ C = 23) → (y.1 C (3 * (5 * v1 + i.toNat) + 1) = x7.1 C (3 * (5 * v1 + i.toNat) + 1) ∧ y.2 C (3 * (5 * v1 + i.toNat) + 1) = x7.2 C (3 * (5 * v1 + i.toNat) + 1)) ∧ (y.1 C (3 * (5 * v1 + i.toNat) + 2) = x7.1 C (3 * (5 * v1 + i.toNat) + 2) ∧ y.2 C (3 * (5 * v1 + i.toNat) + 2) = x7.2 C (3 * (5 * v1 + i.toNat) + 2)) := fun C hC => ⟨h2 _ _ (fun w => by have := w.2.2; rw [(own_b hC (by omega)).1] at this; omega), h2 _ _ (fun w => by have := w.2.2; rw [(own_b hC (by omega)).2] at this; omega)⟩
      have hLi : RLs y (5 * v1 + i.toNat) i r := RL_fr (hL7 i i0 (by omega)) q1.1 q1.2 (q2 0 (by omega)).1.2 (q2 0 (by omega)).2.2 (q2 23 (by omega)).1.1 (q2 23 (by omega)).2.1
      obtain ⟨y', e, hR, hF⟩ := k_copyL (z := z) (p := 5 * v0 + i.toNat) (by omega) (fun w => (hl i i0 (by omega) w).2.2.1) hLi
      refine ⟨y', ?_, by omega, by omega, fun c c0 c1 => ?_, h2.tr (hF.mono ?_)⟩
      · show (if (5 : Int) ≤ i then _ else _) = _
        rw [if_neg (by omega), ckI_t i0 (by omega), ckI_t i0 (by omega), e, sbind, ckR_t (by omega) (by omega)]
      · by_cases hc : c = i
        · subst hc; exact hR
        · have f : ∀ C j, ¬ ((C = 3 ∧ j = 5 * v0 + i.toNat) ∨ ((C = 0 ∨ C = 23) ∧ (j = 3 * (5 * v0 + i.toNat) + 1 ∨ j = 3 * (5 * v0 + i.toNat) + 2))) → y'.1 C j = y.1 C j ∧ y'.2 C j = y.2 C j := hF
          exact RL_fr (h1 c c0 (by omega)) (f 3 _ (by omega)).1 (f 3 _ (by omega)).2 (f 0 _ (by omega)).2 (f 0 _ (by omega)).2 (f 23 _ (by omega)).1 (f 23 _ (by omega)).1
      · rintro C j (⟨rfl, rfl⟩ | ⟨hC, rfl | rfl⟩)
        · exact ⟨by omega, by omega, own_l (by omega)⟩
        · exact ⟨by omega, by omega, (own_b hC (by omega)).1⟩
        · exact ⟨by omega, by omega, (own_b hC (by omega)).2⟩
  refine hloop.bind ?_
  rintro x8 ⟨hL8, hF8⟩
  have e8 : ∀ C j, ¬ (C = 3 ∨ C = 0 ∨ C = 23) ∨ (C ≠ 3 ∧ j % 3 = 0) → x8.1 C j = x7.1 C j ∧ x8.2 C j = x7.2 C j := fun C j q => hF8 C j (fun w => by
    rcases q with q | q
    · exact q w.1
    · rcases w.2.1 with w2 | w2
      · exact q.1 w2
      · exact w2 q.2)
  have hC8 : RC (x8.1 1 v1) (x8.1 24 v1) r := by
    rw [(e8 1 _ (by omega)).1, (e8 24 _ (by omega)).1, (e57 1 _ (by omega) (by omega)).1, (e57 24 _ (by omega) (by omega)).1]; exact hC
  refine (k_copyC (z := z) hne hb hC8).bind ?_
  rintro x9 ⟨hC9, hF9⟩
  have e9 : ∀ C j, ¬ (C = 1 ∨ C = 24) → x9.1 C j = x8.1 C j ∧ x9.2 C j = x8.2 C j := fun C j q => hF9 C j (fun w => q w.1)
  refine Tt.ret ⟨⟨hW', ?_, ?_, ?_, ?_, hC9⟩, ?_⟩
  · exact RH_fr hH5 (((e9 6 _ (by omega)).1.trans (e8 6 _ (by omega)).1).trans ((e7 6 _ (by omega)).1.trans (e6 6 _ (by omega)).1)) (((e9 20 _ (by omega)).1.trans (e8 20 _ (by omega)).1).trans ((e7 20 _ (by omega)).1.trans (e6 20 _ (by omega)).1))
  · have g : ∀ C, (C = 4 ∨ C = 21 ∨ C = 22 ∨ C = 30) → x9.1 C v0 = x6.1 C v0 ∧ x9.2 C v0 = x6.2 C v0 := fun C q => ⟨((e9 C _ (by omega)).1.trans (e8 C _ (by omega)).1).trans (e7 C _ (by omega)).1, ((e9 C _ (by omega)).2.trans (e8 C _ (by omega)).2).trans (e7 C _ (by omega)).2⟩
    exact RN_fr hN6 (g 4 (by omega)).1 (g 4 (by omega)).2 (g 21 (by omega)).1 (g 22 (by omega)).1 (g 30 (by omega)).2
  · rw [(e9 0 _ (by omega)).2, (e9 23 _ (by omega)).1, (e8 0 _ (by omega)).2, (e8 23 _ (by omega)).1]; exact hB7
  · intro c c0 c1
    have g : ∀ C j, (C = 3 ∨ C = 0 ∨ C = 23) → x9.1 C j = x8.1 C j ∧ x9.2 C j = x8.2 C j := fun C j q => e9 C j (by omega)
    exact RL_fr (hL8 c c0 c1) (g 3 _ (by omega)).1 (g 3 _ (by omega)).2 (g 0 _ (by omega)).2 (g 0 _ (by omega)).2 (g 23 _ (by omega)).1 (g 23 _ (by omega)).1
  · unfold Fo
    refine ((((hF5.mono ?_).tr (hF6.mono ?_)).tr (hF7.mono ?_)).tr (hF8.mono ?_)).tr (hF9.mono ?_)
    · rintro C j ⟨q, rfl⟩; exact own_s (by omega)
    · rintro C j ⟨q, rfl⟩; exact own_s (by omega)
    · rintro C j ⟨q, rfl⟩; exact own_t q
    · rintro C j ⟨_, _, q⟩; exact q
    · rintro C j ⟨q, rfl⟩; exact own_s (by omega)
