/-! errorPosition, load -/
section
variable {z : Nat} {x y X X' W W' V : Mm} {n : Int} {f : Int → Int} {r r' : Nat → Int}
theorem DR.same (h : DR X r) (E : ∀ i : Int, 0 ≤ i → i < 5366 → r' i.toNat = r i.toNat) : DR X r' := by
  obtain ⟨⟨hb, ht, hr, hv⟩, h1, h2, ⟨hH, hN, hB⟩, h5, h6, h7⟩ := h
  have h60 := hb.2.2.2.1
  have hfc := hb.2.1
  have ect : qct r' = qct r := E 3 (by omega) (by omega)
  have etk : qtk r' = qtk r := E 0 (by omega) (by omega)
  have efc : qfc r' = qfc r := E 1 (by omega) (by omega)
  have ecc : qcc r' = qcc r := E 2 (by omega) (by omega)
  have ekc : qkc r' = qkc r := E 4 (by omega) (by omega)
  have epa : ∀ n : Int, 0 ≤ n → n < 60 → qpa r' n = qpa r n := fun n n0 n1 => E (11 + n) (by omega) (by omega)
  have elb : ∀ n : Int, 0 ≤ n → n < 60 → qlb r' n = qlb r n := fun n n0 n1 => E (71 + n) (by omega) (by omega)
  have erc : ∀ n : Int, 0 ≤ n → n < 60 → r' (131 + n).toNat = r (131 + n).toNat := fun n n0 n1 => E (131 + n) (by omega) (by omega)
  have etv : ∀ n f : Int, 0 ≤ n → n < 60 → 0 ≤ f → f < 6 → qtv r' n f = qtv r n f := fun n f n0 n1 f0 f1 => E (251 + 6 * n + f) (by omega) (by omega)
  have eal : ∀ n : Int, 0 ≤ n → n < 60 → r' (191 + n).toNat = r (191 + n).toNat := fun n n0 n1 => E (191 + n) (by omega) (by omega)
  have eln : ∀ c : Int, 0 ≤ c → c < 5 → qln r' c = qln r c := fun c c0 c1 => E (611 + 3 * c) (by omega) (by omega)
  refine ⟨⟨?_, ?_, ?_, ?_⟩, ?_, ?_, ⟨?_, ?_, ?_⟩, ?_, ?_, h7⟩
  · unfold Wb; rw [ect, etk, efc, ecc, ekc]; exact hb
  · refine ⟨by rw [epa 0 (by omega) (by omega)]; exact ht.1, by rw [elb 0 (by omega) (by omega)]; exact ht.2.1, fun n n0 n1 => ?_⟩
    rw [epa n (by omega) (by omega), elb n (by omega) (by omega)]; exact ht.2.2 n n0 (by omega)
  · intro n n0 n1; rw [erc n n0 n1]; exact hr n n0 n1
  · intro n f n0 n1 f0 f1; rw [efc] at f0; rw [etv n f n0 n1 (by omega) f1]; exact hv n f n0 n1 f0 f1
  · intro n n0 n1; rw [eal n n0 n1, ect]; exact h1 n n0 n1
  · intro n m n0 n1 m0 m1 hne
    rw [epa n (by omega) (by omega), epa m (by omega) (by omega), elb n (by omega) (by omega), elb m (by omega) (by omega)]
    exact h2 n m n0 (by omega) m0 (by omega) hne
  · exact ⟨hH.1.trans etk.symm, hH.2.1.trans efc.symm, hH.2.2.1.trans ecc.symm, fun g g0 g1 => (hH.2.2.2 g g0 (by omega)).trans (E (5 + g) (by omega) (by omega)).symm⟩
  · refine ⟨hN.1.trans ect.symm, fun n n0 n1 => ?_, fun n n0 n1 => ?_⟩
    · rw [ect] at n1
      obtain ⟨g1, g2, g3⟩ := hN.2.1 n n0 n1
      exact ⟨g1.trans (epa n n0 (by omega)).symm, g2.trans (elb n n0 (by omega)).symm, fun m m0 m1 => by rw [g3 m m0 m1, win_pa hb ht (fun k k0 k1 => epa k k0 (by omega)) m0 n1]⟩
    · rw [hN.2.2 n n0 n1, ect]
      by_cases q : n < qct r
      · unfold qrc; rw [erc n n0 (by omega)]
      · rw [decide_eq_false q]; rfl
  · refine ⟨fun n n0 n1 => ?_, fun n f n0 n1 f0 f1 => ?_⟩
    · rw [hB.1 n n0 n1, ect]
      by_cases q : n < qct r
      · unfold qal; rw [eal n n0 (by omega)]
      · rw [decide_eq_false q]; rfl
    · rw [hB.2 n f n0 n1 f0 f1, etv n f n0 n1 f0 f1]
  · intro c c0 c1; rw [eln c c0 c1]; exact h5 c c0 c1
  · rw [ekc]; exact h6
/-- a text read: the rest stays -/
theorem Inv_ps (h : Inv x) (hX : FX x X') (h5 : X'.1 5 0 0 = x.1 5 0 0) (hV : Fg (fun C j => (C = 8 ∧ j = 0) ∨ (C = 27 ∧ j = 1)) X' V) (hk : ∀ k, k = 2 ∨ k = 12 ∨ k = 13 → V.1 8 0 k = X'.1 8 0 k) : Inv V := by
  obtain ⟨a1, a2, a3, a4, a5, a6⟩ := h
  have hF : Fo (fun o => o = 10 ∨ o = 105 ∨ o = 108 ∨ o = 127) x V := by
    refine Fg.tr (hX.mono (fun C j q => ?_)) (hV.mono (fun C j q => ?_))
    · rcases q with q | q
      · exact Or.inl q
      · exact Or.inr (Or.inl q)
    · rcases q with q | q
      · show _ ∨ _; rw [q.1, q.2]; exact Or.inr (Or.inr (Or.inl (own_8 (by omega))))
      · show _ ∨ _; rw [q.1, q.2]; exact Or.inr (Or.inr (Or.inr (own_8 (by omega))))
  have f : ∀ C j, (C = 2 ∨ C = 7 ∨ C = 28 ∨ C = 25 ∨ C = 26) → V.1 C j = x.1 C j := fun C j q => (fo_o hF (by omega) (by omega) (by omega) (by omega)).1
  have x8 : ∀ j, X'.1 8 j = x.1 8 j := fun j => (fo_o hX (by omega) (by omega) (by omega) (by omega)).1
  have x27 : ∀ j, X'.1 27 j = x.1 27 j := fun j => (fo_o hX (by omega) (by omega) (by omega) (by omega)).1
  have v27 : ∀ j, j ≠ 1 → V.1 27 j = x.1 27 j := fun j q => ((hV 27 j (by omega)).1).trans (x27 j)
  have v2 : V.1 8 0 2 = x.1 8 0 2 := by rw [hk 2 (by omega), x8]
  have v12 : V.1 8 0 12 = x.1 8 0 12 := by rw [hk 12 (by omega), x8]
  have v13 : V.1 8 0 13 = x.1 8 0 13 := by rw [hk 13 (by omega), x8]
  have v5 : V.1 5 0 0 = x.1 5 0 0 := by rw [(hV 5 0 (by omega)).1]; exact h5
  refine ⟨?_, ?_, ?_, ?_, ?_, ?_⟩
  · rw [v27 0 (by decide)]; exact Rs_fr a1 hF (by omega)
  · rw [v27 0 (by decide)]; exact a2
  · unfold SV
    rw [f 7 0 (by omega), v13, v27 2 (by decide)]
    exact ⟨a3.1, a3.2.1, fun q => Rs_fr (a3.2.2.1 q) hF (by omega), a3.2.2.2⟩
  · rw [f 28 0 (by omega), v12]; exact HI_fr a4 hF (fun o _ _ => by omega) (by omega)
  · unfold TX; rw [v5, v2, f 25 0 (by omega), f 26 0 (by omega)]; exact a5
  · have e := hF 1 11 (by show ¬ (own 1 11 = 10 ∨ _); rw [own_s (by omega)]; omega)
    rw [e.1]; exact a6
theorem TX.c (h : TX x) : Tc (x.1 8 0 2) (fun k => x.1 26 0 k.toNat) x := ⟨h.1, h.2.1, fun k k0 k1 => h.2.2 k k0 k1⟩
theorem TX.m (h : TX x) (e8 : W.1 8 0 2 = x.1 8 0 2) (e26 : W.1 26 0 = x.1 26 0) : Tm (x.1 8 0 2) (fun k => x.1 26 0 k.toNat) W := ⟨e8, h.2.1, fun k k0 k1 => ⟨by rw [e26], (h.2.2 k k0 k1).2⟩⟩
theorem p_errorPosition (hz : 50000 ≤ z) (h : Inv x) : ∃ v x1 x2, F_X7_errorPosition z 0 x = some (v, x1) ∧ F_X8_errorPosition z 0 x1 = some (v, x2) ∧ Inv x2 := by
  have hT := h.2.2.2.2.1
  obtain ⟨e, X', _, a1, _, a3, _, a5, _⟩ := j_parse (z := z) hz (W := x) hT.c (hT.m rfl rfl)
  have x8 : X'.1 8 0 = x.1 8 0 := (fo_o a3 (by omega) (by omega) (by omega) (by omega)).1
  have x26 : X'.1 26 0 = x.1 26 0 := (fo_o a3 (by omega) (by omega) (by omega) (by omega)).1
  obtain ⟨e', X'', V, b1, b2, b3, b4, b5, _⟩ := j_parse (z := z) hz (W := th X' 0) hT.c (hT.m (by rw [th_k (by decide), x8]) (by rw [th_C (by decide), x26]))
  rw [a1] at b1
  obtain ⟨rfl, rfl⟩ := Prod.mk.inj (Option.some.inj b1)
  refine ⟨e, X', V, ?_, ?_, Inv_ps h a3 (a5.1.trans hT.1.symm) (Fg.tr (Fg.pj Fg.rf (Or.inl ⟨rfl, rfl⟩)) b4.1) (fun k hk => ?_)⟩
  · unfold F_X7_errorPosition; rw [a1, sbind]
  · unfold F_X8_errorPosition; rw [sbind, th_w, b2, sbind]
  · rw [b4.2 k (by omega), th_k (by omega)]
theorem p_load (hz : 50000 ≤ z) (h : Inv x) : Pr [sA] (F_X7_load z 0) (F_X8_load z 0) x := by
  have hT := h.2.2.2.2.1
  obtain ⟨e, X', V0, a1, _, a3, _, a5, a6⟩ := j_parse (z := z) hz (W := x) hT.c (hT.m rfl rfl)
  have x8 : X'.1 8 0 = x.1 8 0 := (fo_o a3 (by omega) (by omega) (by omega) (by omega)).1
  have x26 : X'.1 26 0 = x.1 26 0 := (fo_o a3 (by omega) (by omega) (by omega) (by omega)).1
  have k8 : ∀ k, k ≠ 0 → (th X' 0).1 8 0 k = x.1 8 0 k := fun k q => by rw [th_k q, x8]
  by_cases qe : e = -1
  · subst qe
    have hD0 : DR X' (V0.1 27 1) := by
      rcases a6 with w | w
      · exact w.2
      · omega
    obtain ⟨y, ey, _, hFy⟩ := k_copyS (z := z) hz (v0 := 0) (v1 := 10) (by omega) hD0.Rs
    have hFy' : Fo (fun o => o = 0 ∨ o = 102 ∨ o = 105 ∨ o = 107) X' (pj (pj (pj y 5 0 (up (y.1 5 0) 0 0)) 2 0 (up ((pj y 5 0 (up (y.1 5 0) 0 0)).1 2 0) 0 0)) 7 0 (up ((pj (pj y 5 0 (up (y.1 5 0) 0 0)) 2 0 (up ((pj y 5 0 (up (y.1 5 0) 0 0)).1 2 0) 0 0)).1 7 0) 2 0)) := by
      refine Fg.pj (Fg.pj (Fg.pj (hFy.mono (fun C j q => Or.inl q)) ?_) ?_) ?_
      · exact Or.inr (Or.inr (Or.inl (own_8 (by omega))))
      · exact Or.inr (Or.inl own_2)
      · exact Or.inr (Or.inr (Or.inr (own_8 (by omega))))
    have hq : ∀ C j, C ≠ 5 → C ≠ 2 → C ≠ 7 → (pj (pj (pj y 5 0 (up (y.1 5 0) 0 0)) 2 0 (up ((pj y 5 0 (up (y.1 5 0) 0 0)).1 2 0) 0 0)) 7 0 (up ((pj (pj y 5 0 (up (y.1 5 0) 0 0)) 2 0 (up ((pj y 5 0 (up (y.1 5 0) 0 0)).1 2 0) 0 0)).1 7 0) 2 0)).1 C j = y.1 C j := fun C j q1 q2 q3 => by rw [pj_C q3, pj_C q2, pj_C q1]
    have y5 : (pj (pj (pj y 5 0 (up (y.1 5 0) 0 0)) 2 0 (up ((pj y 5 0 (up (y.1 5 0) 0 0)).1 2 0) 0 0)) 7 0 (up ((pj (pj y 5 0 (up (y.1 5 0) 0 0)) 2 0 (up ((pj y 5 0 (up (y.1 5 0) 0 0)).1 2 0) 0 0)).1 7 0) 2 0)).1 5 0 0 = 0 := by rw [pj_C (by decide), pj_C (by decide), pj_s, up_s]
    have y2 : (pj (pj (pj y 5 0 (up (y.1 5 0) 0 0)) 2 0 (up ((pj y 5 0 (up (y.1 5 0) 0 0)).1 2 0) 0 0)) 7 0 (up ((pj (pj y 5 0 (up (y.1 5 0) 0 0)) 2 0 (up ((pj y 5 0 (up (y.1 5 0) 0 0)).1 2 0) 0 0)).1 7 0) 2 0)).1 2 0 = up (y.1 2 0) 0 0 := by rw [pj_C (by decide), pj_s, pj_C (by decide)]
    have y7 : (pj (pj (pj y 5 0 (up (y.1 5 0) 0 0)) 2 0 (up ((pj y 5 0 (up (y.1 5 0) 0 0)).1 2 0) 0 0)) 7 0 (up ((pj (pj y 5 0 (up (y.1 5 0) 0 0)) 2 0 (up ((pj y 5 0 (up (y.1 5 0) 0 0)).1 2 0) 0 0)).1 7 0) 2 0)).1 7 0 2 = 0 := by rw [pj_s, up_s]
    have e7 : F_X7_load z 0 x = some (.inl (y.1 4 0 0), (pj (pj (pj y 5 0 (up (y.1 5 0) 0 0)) 2 0 (up ((pj y 5 0 (up (y.1 5 0) 0 0)).1 2 0) 0 0)) 7 0 (up ((pj (pj y 5 0 (up (y.1 5 0) 0 0)) 2 0 (up ((pj y 5 0 (up (y.1 5 0) 0 0)).1 2 0) 0 0)).1 7 0) 2 0))) := by
      unfold F_X7_load F_X2_forget
      rw [a1, sbind, if_pos rfl, ey, sbind, sbind, sbind, sbind, sbind]
      simp only [wI_pj]
      rw [hq 4 0 (by decide) (by decide) (by decide)]
    have hyy : ∀ s, Rs y 0 s → Rs (pj (pj (pj y 5 0 (up (y.1 5 0) 0 0)) 2 0 (up ((pj y 5 0 (up (y.1 5 0) 0 0)).1 2 0) 0 0)) 7 0 (up ((pj (pj y 5 0 (up (y.1 5 0) 0 0)) 2 0 (up ((pj y 5 0 (up (y.1 5 0) 0 0)).1 2 0) 0 0)).1 7 0) 2 0)) 0 s := by
      intro s hs
      refine Rs_fr (p := fun o => o = 102 ∨ o = 105 ∨ o = 107) hs ?_ (by omega)
      refine Fg.pj (Fg.pj (Fg.pj Fg.rf ?_) ?_) ?_
      · exact Or.inr (Or.inl (own_8 (by omega)))
      · exact Or.inl own_2
      · exact Or.inr (Or.inr (own_8 (by omega)))
    generalize pj (pj (pj y 5 0 (up (y.1 5 0) 0 0)) 2 0 (up ((pj y 5 0 (up (y.1 5 0) 0 0)).1 2 0) 0 0)) 7 0 (up ((pj (pj y 5 0 (up (y.1 5 0) 0 0)) 2 0 (up ((pj y 5 0 (up (y.1 5 0) 0 0)).1 2 0) 0 0)).1 7 0) 2 0) = x1 at *
    have hFx : Fo (fun o => o = 0 ∨ o = 10 ∨ o = 102 ∨ o = 105 ∨ o = 107) x x1 := by
      refine Fg.tr (a3.mono (fun C j q => ?_)) (hFy'.mono (fun C j q => ?_))
      · rcases q with q | q
        · exact Or.inr (Or.inl q)
        · exact Or.inr (Or.inr (Or.inr (Or.inl q)))
      · rcases q with q | q | q | q
        · exact Or.inl q
        · exact Or.inr (Or.inr (Or.inl q))
        · exact Or.inr (Or.inr (Or.inr (Or.inl q)))
        · exact Or.inr (Or.inr (Or.inr (Or.inr q)))
    have z8 : ∀ C j, (C = 8 ∨ C = 26 ∨ C = 27 ∨ C = 28 ∨ C = 25) → x1.1 C j = x.1 C j := fun C j q => (fo_o hFx (by omega) (by omega) (by omega) (by omega)).1
    obtain ⟨e', X'', V, b1, b2, b3, b4, b5, b6⟩ := j_parse (z := z) hz (W := th x1 0) hT.c (hT.m (by rw [th_k (by decide), z8 8 0 (by omega)]) (by rw [th_C (by decide), z8 26 0 (by omega)]))
    rw [a1] at b1
    obtain ⟨rfl, rfl⟩ := Prod.mk.inj (Option.some.inj b1)
    have hD : DR X' (V.1 27 1) := by
      rcases b6 with w | w
      · exact w.2
      · omega
    have v27 : V.1 27 0 = x.1 27 0 := by rw [(b4.1 27 0 (by omega)).1, th_C (by decide), z8 27 0 (by omega)]
    have hD' : DR X' (cp5 (V.1 27 1) (x.1 27 0)) := hD.same (fun i i0 i1 => by unfold cp5; rw [if_pos (by omega)])
    have hZ' : Zr (cp5 (V.1 27 1) (x.1 27 0)) := fun k hk => by unfold cp5; rw [if_neg (by omega)]; exact h.2.1 k hk
    obtain ⟨y', ey', hRy, _⟩ := k_copyS (z := z) hz (v0 := 0) (v1 := 10) (by omega) hD'.Rs
    rw [ey] at ey'
    obtain rfl := Option.some.inj ey'
    have hR1 := hyy _ hRy
    have e4 : y.1 4 0 0 = qct (cp5 (V.1 27 1) (x.1 27 0)) := hRy.2.2.1.1
    rw [e4] at e7
    have V8 : V.1 8 0 = V.1 8 0 := rfl
    have e8 : F_X8_load z 0 x1 = some (qct (cp5 (V.1 27 1) (x.1 27 0)), pj (pj V 27 0 (cp5 (V.1 27 1) (x.1 27 0))) 8 0 (up (up (up (V.1 8 0) 12 0) 13 0) 2 0)) := by
      have ec := e_copy (z := z) (x := V) hz (show (1 : Nat) ≠ 0 by decide)
      rw [v27] at ec
      unfold F_X8_load F_X8_load_18 F_X8_takeRead
      rw [sbind, th_w, b2, sbind, if_neg (show ¬ (0 : Int) ≤ -1 by decide), e_fails1, sbind, it0]
      show (((F_X8_copy z 1 0 V).bind _).bind _) = _
      rw [ec, sbind, sbind, sbind, sbind, sbind, ckI_t (by omega) (by omega)]
      simp only [wI_pj, pj_s, pj_pj, pj_C (show (8 : Nat) ≠ 27 by decide), pj_C (show (27 : Nat) ≠ 8 by decide)]
      rfl
    have v8 : ∀ k, k ≠ 0 → k ≠ 2 → k ≠ 12 → k ≠ 13 → ¬ (3 ≤ k ∧ k ≤ 7) → (up (up (up (V.1 8 0) 12 0) 13 0) 2 0) k = x.1 8 0 k := fun k q0 q2 q12 q13 q => by
      rw [up_n q2, up_n q13, up_n q12, b4.2 k q, th_k q0, z8 8 0 (by omega)]
    have hFV : Fo (fun o => o = 108 ∨ o = 127) x1 (pj (pj V 27 0 (cp5 (V.1 27 1) (x.1 27 0))) 8 0 (up (up (up (V.1 8 0) 12 0) 13 0) 2 0)) := by
      refine Fg.pj (Fg.pj (Fg.tr (Fg.pj Fg.rf ?_) (b4.1.mono (fun C j q => ?_))) ?_) ?_
      · exact Or.inl (own_8 (by omega))
      · rcases q with q | q
        · show _ ∨ _; rw [q.1, q.2]; exact Or.inl (own_8 (by omega))
        · show _ ∨ _; rw [q.1, q.2]; exact Or.inr (own_8 (by omega))
      · exact Or.inr (own_8 (by omega))
      · exact Or.inl (own_8 (by omega))
    refine ⟨_, _, _, _, e7, e8, ⟨?_, ?_, ?_, ?_, ?_, ?_⟩, ?_⟩
    · rw [pj_C (by decide), pj_s]; exact Rs_fr hR1 hFV (by omega)
    · rw [pj_C (by decide), pj_s]; exact hZ'
    · have g7 := (fo_o (C := 7) (j := 0) hFV (by omega) (by omega) (by omega) (by omega)).1
      have g27 : (pj (pj V 27 0 (cp5 (V.1 27 1) (x.1 27 0))) 8 0 (up (up (up (V.1 8 0) 12 0) 13 0) 2 0)).1 27 2 = x.1 27 2 := by
        rw [pj_C (by decide), pj_j (by decide), (b4.1 27 2 (by omega)).1, th_C (by decide), z8 27 2 (by omega)]
      have g13 : (pj (pj V 27 0 (cp5 (V.1 27 1) (x.1 27 0))) 8 0 (up (up (up (V.1 8 0) 12 0) 13 0) 2 0)).1 8 0 13 = 0 := by rw [pj_s]; rfl
      unfold SV
      rw [g7, g13, g27, y7]
      exact ⟨rfl, Or.inl rfl, fun w => by omega, h.2.2.1.2.2.2⟩
    · have g2 := (fo_o (C := 2) (j := 0) hFV (by omega) (by omega) (by omega) (by omega)).1
      have gy2 : y.1 2 0 = x.1 2 0 := by
        rw [(fo_o (C := 2) (j := 0) hFy (by omega) (by omega) (by omega) (by omega)).1, (fo_o (C := 2) (j := 0) a3 (by omega) (by omega) (by omega) (by omega)).1]
      have g12 : (pj (pj V 27 0 (cp5 (V.1 27 1) (x.1 27 0))) 8 0 (up (up (up (V.1 8 0) 12 0) 13 0) 2 0)).1 8 0 12 = 0 := by rw [pj_s]; rfl
      rw [g12]
      unfold HI
      rw [g2, y2, gy2]
      exact ⟨up_s, by omega, by rw [up_n (by decide)]; exact h.2.2.2.1.2.2.1, fun i i0 i1 => by omega⟩
    · have g5 := (fo_o (C := 5) (j := 0) hFV (by omega) (by omega) (by omega) (by omega)).1
      have g2' : (pj (pj V 27 0 (cp5 (V.1 27 1) (x.1 27 0))) 8 0 (up (up (up (V.1 8 0) 12 0) 13 0) 2 0)).1 8 0 2 = 0 := by rw [pj_s]; rfl
      unfold TX
      rw [g2', g5, y5]
      exact ⟨rfl, by omega, fun k k0 k1 => by omega⟩
    · have e11 := hFV 1 11 (by show ¬ (own 1 11 = 108 ∨ _); rw [own_s (by omega)]; omega)
      have e11' := hFx 1 11 (by show ¬ (own 1 11 = 0 ∨ _); rw [own_s (by omega)]; omega)
      rw [e11.1, e11'.1]; exact h.2.2.2.2.2
    · have g0 : (pj (pj V 27 0 (cp5 (V.1 27 1) (x.1 27 0))) 8 0 (up (up (up (V.1 8 0) 12 0) 13 0) 2 0)).1 8 0 0 = 0 := by
        rw [pj_s, up_n (by decide), up_n (by decide), up_n (by decide), b4.2 0 (by omega), th_0]
      rw [g0]; exact Ok.v
  · obtain ⟨e', X'', V, b1, b2, b3, b4, b5, b6⟩ := j_parse (z := z) hz (W := th X' 0) hT.c (hT.m (by rw [th_k (by decide), x8]) (by rw [th_C (by decide), x26]))
    rw [a1] at b1
    obtain ⟨rfl, rfl⟩ := Prod.mk.inj (Option.some.inj b1)
    have he : 0 ≤ e := by
      rcases a6 with w | w
      · exact absurd w.1 qe
      · exact w
    refine ⟨.inr sA, X', 0, th V 1, ?_, ?_, Inv_th (Inv_ps h a3 (a5.1.trans hT.1.symm) (Fg.tr (Fg.pj Fg.rf (Or.inl ⟨rfl, rfl⟩)) b4.1) (fun k hk => ?_)), ?_⟩
    · unfold F_X7_load; rw [a1, sbind, if_neg qe]
    · unfold F_X8_load F_X8_load_18
      rw [sbind, th_w, b2, sbind, if_pos he, e_fails0, sbind, it1]
    · rw [b4.2 k (by omega), th_k (by omega)]
    · rw [th_0]; exact Ok.x rfl (by decide)
end
