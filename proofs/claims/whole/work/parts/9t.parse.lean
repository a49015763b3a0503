/-! The whole text. -/
section
variable {z : Nat} {x y X X' W W' : Mm} {n : Int} {f : Int → Int} {r r' : Nat → Int}
theorem pg_step' (hz : 50000 ≤ z) (h : PG n f X W) (hk : W.1 8 0 5 ≠ 0) : ∃ X' W', F_X5_nextToken z 0 X = some X' ∧ F_X8_step z 0 W = some W' ∧ PG n f X' W' ∧ FX X X' ∧ FW W W' ∧ W.1 8 0 3 ≤ W'.1 8 0 4 := by
  obtain ⟨⟨h1, h2, h3, h4⟩, hD, _⟩ := h
  have t := h4
  obtain ⟨t1, t2, t3, t4⟩ := t
  have e5 : X.1 5 0 5 = W.1 8 0 3 := by
    rcases t4 with w | w | w | w
    · exact absurd w.1 hk
    · exact w.2.2.1
    · exact w.2.2.1
    · exact w.2.2.1
  obtain ⟨kd, st, en, nu, a, b, c, d, g1, g2, g3, g4⟩ := tk_step (z := z) hz h1 h2 e5 rfl (by omega) (by omega)
  have e : (Sw W a b c d).1 27 1 = W.1 27 1 := Sw_C (by decide)
  exact ⟨_, _, g1, g2, ⟨⟨Tc_Sc h1, Tm_Sw h2, by rw [Sw_r.2.2.2.2.2]; exact h3, g3⟩, by rw [e]; exact hD.tok (fun C j w => Sc_C w) rfl, trivial⟩, FX.sc, FW.sw (by omega), by rw [Sw_r.2.1]; exact g4⟩
/-- how the reading ends -/
def PQ (n : Int) (f : Int → Int) (X' V : Mm) (e : Int) : Prop := (e = -1 ∧ PG n f X' V ∧ V.1 8 0 5 = 0) ∨ (0 ≤ e ∧ V.1 8 0 7 = e) ∨ (0 ≤ e ∧ V.1 8 0 7 = -1 ∧ V.1 8 0 5 ≠ 0 ∧ V.1 8 0 4 = e)
theorem j_loop (hz : 50000 ≤ z) : ∀ (m k k2 : Nat) (v : Int) (X W : Mm), PG n f X W → 0 ≤ v → v ≤ W.1 8 0 4 → n - W.1 8 0 4 ≤ (m : Int) → m < k → m < k2 → ∃ e X' V, F_X5_readAll_18 z 0 k v X = some (.inr (e, X')) ∧ ((F_X8_readStatement z 0 W).bind fun r8 => F_X8_parse_22 z 0 k2 r8) = some V ∧ (FX X X' ∧ FW W V ∧ Tc n f X') ∧ PQ n f X' V e := by
  intro m
  induction m with
  | zero =>
    intro k k2 v X W h v0 v1 h1 h2 h3
    obtain ⟨k, rfl⟩ : ∃ k', k = k' + 1 := ⟨k - 1, by omega⟩
    obtain ⟨k2, rfl⟩ : ∃ k', k2 = k' + 1 := ⟨k2 - 1, by omega⟩
    obtain ⟨b, X', W', e1, e2, ⟨e3, e4, e5⟩, e6⟩ := j_stmt (z := z) hz h
    have hn := h.1.1.2.1
    have hb := tp_b h.1
    have g1 : F_X5_readAll_18 z 0 (k + 1) v X = (if b = 0 then (some (.inr ((X'.1 5 0 4), X'))) else (if (X'.1 5 0 3) = 0 then (some (.inr ((-1 : Int), X'))) else ((F_X5_isSign z 0 ((59 : Int)) X').bind fun r9 => if r9 = 0 then (some (.inr ((X'.1 5 0 4), X'))) else ((F_X5_nextToken z 0 X').bind fun r11 => ckR ((v + 1)) <| F_X5_readAll_18 z 0 k ((v + 1)) r11)))) := by
      show (if (600 : Int) < v then _ else _) = _
      rw [if_neg (by omega), e1, sbind]
    have g2 : ((F_X8_readStatement z 0 W).bind fun r8 => F_X8_parse_22 z 0 (k2 + 1) r8) = ((F_X8_isSign z 0 ((59 : Int)) W').bind fun r10 => if r10 = 0 then (some W') else ((F_X8_step z 0 W').bind fun r12 => (F_X8_readStatement z 0 r12).bind fun r14 => F_X8_parse_22 z 0 k2 r14)) := by
      rw [e2, sbind]; rfl
    rw [g1, g2]
    rcases e6 with ⟨b1, hG⟩ | ⟨b0, hw, hs⟩
    · rw [b1, if_neg (by decide)]
      have hT := hG.1
      have tr := hT.2.2.2
      obtain ⟨t1, t2, t3, t4⟩ := tr
      have hfrom := e4.2.2
      have hn' : W'.1 8 0 4 = n := by have := tp_b hT; omega
      have h0 : W'.1 8 0 5 = 0 := by omega
      have hs0 : sq f 59 (W'.1 8 0) = false := by unfold sq; rw [h0]; rfl
      rw [t1, h0, if_pos rfl, m_isSign hT.2.1 hT.2.2.1 hT.2.2.2, sbind, ib, if_pos hs0]
      exact ⟨-1, X', W', rfl, rfl, ⟨e3, e4, e5⟩, Or.inl ⟨rfl, hG, h0⟩⟩
    · rw [if_pos b0, m_sign0 hw, sbind, if_pos rfl]
      exact ⟨_, X', W', rfl, rfl, ⟨e3, e4, e5⟩, Or.inr (Or.inl ⟨by omega, hs⟩)⟩
  | succ m ih =>
    intro k k2 v X W h v0 v1 h1 h2 h3
    obtain ⟨k, rfl⟩ : ∃ k', k = k' + 1 := ⟨k - 1, by omega⟩
    obtain ⟨k2, rfl⟩ : ∃ k', k2 = k' + 1 := ⟨k2 - 1, by omega⟩
    obtain ⟨b, X', W', e1, e2, ⟨e3, e4, e5⟩, e6⟩ := j_stmt (z := z) hz h
    have hn := h.1.1.2.1
    have hb := tp_b h.1
    have g1 : F_X5_readAll_18 z 0 (k + 1) v X = (if b = 0 then (some (.inr ((X'.1 5 0 4), X'))) else (if (X'.1 5 0 3) = 0 then (some (.inr ((-1 : Int), X'))) else ((F_X5_isSign z 0 ((59 : Int)) X').bind fun r9 => if r9 = 0 then (some (.inr ((X'.1 5 0 4), X'))) else ((F_X5_nextToken z 0 X').bind fun r11 => ckR ((v + 1)) <| F_X5_readAll_18 z 0 k ((v + 1)) r11)))) := by
      show (if (600 : Int) < v then _ else _) = _
      rw [if_neg (by omega), e1, sbind]
    have g2 : ((F_X8_readStatement z 0 W).bind fun r8 => F_X8_parse_22 z 0 (k2 + 1) r8) = ((F_X8_isSign z 0 ((59 : Int)) W').bind fun r10 => if r10 = 0 then (some W') else ((F_X8_step z 0 W').bind fun r12 => (F_X8_readStatement z 0 r12).bind fun r14 => F_X8_parse_22 z 0 k2 r14)) := by
      rw [e2, sbind]; rfl
    rw [g1, g2]
    rcases e6 with ⟨b1, hG⟩ | ⟨b0, hw, hs⟩
    · rw [b1, if_neg (by decide)]
      have hT := hG.1
      have tr := hT.2.2.2
      obtain ⟨t1, t2, t3, t4⟩ := tr
      have hfrom := e4.2.2
      rw [t1, m_isSign hT.2.1 hT.2.2.1 hT.2.2.2, sbind, ib]
      by_cases h0 : W'.1 8 0 5 = 0
      · have hs0 : sq f 59 (W'.1 8 0) = false := by unfold sq; rw [h0]; rfl
        rw [if_pos h0, if_pos hs0]
        exact ⟨-1, X', W', rfl, rfl, ⟨e3, e4, e5⟩, Or.inl ⟨rfl, hG, h0⟩⟩
      · rw [if_neg h0, k_isSign hT.1 hT.2.2.2, sbind, ib]
        cases hs0 : sq f 59 (W'.1 8 0)
        · rw [if_pos rfl, if_pos rfl]
          exact ⟨_, X', W', rfl, rfl, ⟨e3, e4, e5⟩, Or.inr (Or.inr ⟨by omega, hT.2.2.1, h0, by omega⟩)⟩
        · rw [if_neg (by decide), if_neg (by decide)]
          have h3' : W'.1 8 0 5 = 3 := by
            unfold sq at hs0
            simp only [Bool.and_eq_true, decide_eq_true_eq] at hs0
            exact hs0.1
          obtain ⟨X2, W2, i1, i2, i3, i4, i5, i6⟩ := pg_step' (z := z) hz hG h0
          have hb2 := tp_b i3.1
          rw [i1, sbind, i2, sbind, ckR_t (by omega) (by omega)]
          obtain ⟨e, X3, V, j1, j2, ⟨j3, j4, j5⟩, j6⟩ := ih k k2 (v + 1) X2 W2 i3 (by omega) (by omega) (by omega) (by omega) (by omega)
          exact ⟨e, X3, V, j1, j2, ⟨(e3.tr i4).tr j3, (e4.tr i5).tr j4, j5⟩, j6⟩
    · rw [if_pos b0, m_sign0 hw, sbind, if_pos rfl]
      exact ⟨_, X', W', rfl, rfl, ⟨e3, e4, e5⟩, Or.inr (Or.inl ⟨by omega, hs⟩)⟩
/-- class and model read the text -/
theorem j_parse (hz : 50000 ≤ z) (hX : Tc n f X) (hW : Tm n f W) : ∃ e X' V, F_X5_readAll z 0 X = some (e, X') ∧ F_X8_parse z 0 W = some (e, V) ∧ FX X X' ∧ (Fg (fun C j => (C = 8 ∧ j = 0) ∨ (C = 27 ∧ j = 1)) W V ∧ ∀ k, ¬ (3 ≤ k ∧ k ≤ 7) → V.1 8 0 k = W.1 8 0 k) ∧ Tc n f X' ∧ ((e = -1 ∧ DR X' (V.1 27 1)) ∨ 0 ≤ e) := by
  have hn := hX.2.1
  obtain ⟨y, ey, hE, hFy⟩ := k_reset (z := z) hz (j := 10) (X := X)
  have hq5 : ∀ C j, (C = 5 ∨ C = 25) → y.1 C j = X.1 C j := fun C j w => (hFy C j (by show ¬ own C j = 10; rw [own_8 (by omega)]; omega)).1
  have hX1 : Tc n f (pj y 5 0 (up (y.1 5 0) 5 0)) := by
    obtain ⟨a1, a2, a3⟩ := hX
    refine ⟨by rw [pj_s, up_n (by decide), hq5 5 0 (by omega)]; exact a1, a2, fun k k0 k1 => ?_⟩
    rw [pj_C (by decide), hq5 25 0 (by omega)]; exact a3 k k0 k1
  obtain ⟨V0, eV, g, rfl, hg⟩ := e_forgetRead (z := z) (W := pj W 8 0 (up (up (W.1 8 0) 3 0) 7 (-1))) hz
  generalize hV0 : pj (pj W 8 0 (up (up (W.1 8 0) 3 0) 7 (-1))) 27 1 g = V0 at *
  have w8 : V0.1 8 0 = up (up (W.1 8 0) 3 0) 7 (-1) := by rw [← hV0, pj_C (by decide), pj_s]
  have w26 : V0.1 26 0 = W.1 26 0 := by rw [← hV0, pj_C (by decide), pj_C (by decide)]
  have w27 : V0.1 27 1 = g := by rw [← hV0, pj_s]
  have hW1 : Tm n f V0 := by
    obtain ⟨a1, a2, a3⟩ := hW
    exact ⟨by rw [w8, up_n (by decide), up_n (by decide)]; exact a1, a2, by rw [w26]; exact a3⟩
  have fV : Fg (fun C j => (C = 8 ∧ j = 0) ∨ (C = 27 ∧ j = 1)) W V0 ∧ ∀ k, ¬ (3 ≤ k ∧ k ≤ 7) → V0.1 8 0 k = W.1 8 0 k := by
    refine ⟨?_, fun k q => by rw [w8, up_n (by omega), up_n (by omega)]⟩
    rw [← hV0]; exact (Fg.rf.pj (Or.inl ⟨rfl, rfl⟩)).pj (Or.inr ⟨rfl, rfl⟩)
  obtain ⟨kd, st, en, nu, a, b, c, d, g1, g2, g3, g4⟩ := tk_step (z := z) hz hX1 hW1 (e := 0) (by rw [pj_s, up_s]) (by rw [w8]; rfl) (by omega) (by omega)
  have hD0 : DR y g := hE.DR hg
  have hD1 : DR (Sc (pj y 5 0 (up (y.1 5 0) 5 0)) kd st en nu) g := hD0.tok (fun C j w => by rw [Sc_C w, pj_C w]) rfl
  have hG : PG n f (Sc (pj y 5 0 (up (y.1 5 0) 5 0)) kd st en nu) (Sw V0 a b c d) := ⟨⟨Tc_Sc hX1, Tm_Sw hW1, by rw [Sw_r.2.2.2.2.2, w8]; rfl, g3⟩, by rw [Sw_C (by decide), w27]; exact hD1, trivial⟩
  have hb := tp_b hG.1
  have fSw : Fg (fun C j => (C = 8 ∧ j = 0) ∨ (C = 27 ∧ j = 1)) V0 (Sw V0 a b c d) ∧ ∀ k, ¬ (3 ≤ k ∧ k ≤ 7) → (Sw V0 a b c d).1 8 0 k = V0.1 8 0 k := by
    refine ⟨?_, fun k q => ?_⟩
    · unfold Sw; exact Fg.pj Fg.rf (Or.inl ⟨rfl, rfl⟩)
    · unfold Sw; rw [pj_s, up_n (by omega), up_n (by omega), up_n (by omega), up_n (by omega)]
  have fSc : FX X (Sc (pj y 5 0 (up (y.1 5 0) 5 0)) kd st en nu) := by
    unfold FX
    refine Fg.tr (Fg.pj (hFy.mono (fun C j q => Or.inl q)) ?_) FX.sc
    exact Or.inr (own_8 (by omega))
  obtain ⟨e, X', V, j1, j2, ⟨j3, j4, j5⟩, j6⟩ := j_loop (n := n) (f := f) (z := z) hz 600 z z 0 _ _ hG (by omega) hb.1 (by omega) (by omega) (by omega)
  have eW : F_X8_parse z 0 W = ((F_X8_isGood z 0 V).bind fun r17 => if r17 = 0 then (some (((V.1 8 0 7), V))) else (if (V.1 8 0 5) = 0 then (some (((V.1 8 0 7), V))) else ((F_X8_fail z 0 V).bind fun r19 => some (((r19.1 8 0 7), r19))))) := by
    have ew : wI (wI W 8 0 3 0) 8 0 7 (-1) = pj W 8 0 (up (up (W.1 8 0) 3 0) 7 (-1)) := by rw [wI_pj, wI_pj, pj_s, pj_pj]
    unfold F_X8_parse
    rw [sbind, sbind, ew, eV, sbind, g2, sbind]
    have : ∀ K : Mm → Option (Int × Mm), ((F_X8_readStatement z 0 (Sw V0 a b c d)).bind fun r8 => (F_X8_parse_22 z 0 z r8).bind fun s15 => K s15) = K V := by
      intro K
      obtain ⟨u, eu, eu2⟩ := bnd_s' j2
      rw [eu, sbind, eu2, sbind]
    exact this _
  have eX : F_X5_readAll z 0 X = some (e, X') := by
    unfold F_X5_readAll
    rw [ey, sbind, sbind, wI_pj, g1, sbind, j1, bndEr]
  have fAll : Fg (fun C j => (C = 8 ∧ j = 0) ∨ (C = 27 ∧ j = 1)) W V ∧ ∀ k, ¬ (3 ≤ k ∧ k ≤ 7) → V.1 8 0 k = W.1 8 0 k :=
    ⟨(fV.1.tr fSw.1).tr j4.1, fun k q => ((j4.2.1 k q).trans (fSw.2 k q)).trans (fV.2 k q)⟩
  rcases j6 with ⟨q1, q2, q3⟩ | ⟨q1, q2⟩ | ⟨q1, q2, q3, q4⟩
  · refine ⟨e, X', V, eX, ?_, fSc.tr j3, fAll, j5, Or.inl ⟨q1, q2.2.1⟩⟩
    rw [eW, m_good q2.1.2.2.1, sbind, if_neg (by decide), if_pos q3, q2.1.2.2.1, q1]
  · refine ⟨e, X', V, eX, ?_, fSc.tr j3, fAll, j5, Or.inr q1⟩
    rw [eW, m_bad (by omega), sbind, if_pos rfl, q2]
  · refine ⟨e, X', Fw V (V.1 8 0 4), eX, ?_, fSc.tr j3, ⟨fAll.1.tr FW.fw.1, fun k q => (FW.fw.2.1 k q).trans (fAll.2 k q)⟩, j5, Or.inr q1⟩
    rw [eW, m_good q2, sbind, if_neg (by decide), if_neg q3, m_fail q2, sbind, Fw_r.1, q4]
end
