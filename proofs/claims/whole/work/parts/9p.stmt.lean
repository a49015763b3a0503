/-! The statements of the text. -/
section
variable {z : Nat} {x y X X' W W' : Mm} {n : Int} {f : Int → Int} {r r' : Nat → Int}
/-- both sides at one token, no fault yet -/
def TP (n : Int) (f : Int → Int) (X W : Mm) : Prop := Tc n f X ∧ Tm n f W ∧ W.1 8 0 7 = -1 ∧ TR n (X.1 5 0) (W.1 8 0)
theorem Sc_C {kd st en nu : Int} {C j : Nat} (h : C ≠ 5) : (Sc X kd st en nu).1 C j = X.1 C j := pj_C h
theorem Sw_C {a b c d : Int} {C j : Nat} (h : C ≠ 8) : (Sw W a b c d).1 C j = W.1 C j := pj_C h
theorem Fw_r {v : Int} : (Fw W v).1 8 0 7 = v ∧ ∀ k, k ≠ 7 → (Fw W v).1 8 0 k = W.1 8 0 k := by
  unfold Fw; rw [pj_s]; exact ⟨up_s, fun k h => up_n h⟩
theorem Fw_C {v : Int} {C j : Nat} (h : C ≠ 8) : (Fw W v).1 C j = W.1 C j := pj_C h
/-- what a statement may change -/
def FX (X X' : Mm) : Prop := Fo (fun o => o = 10 ∨ o = 105) X X'
def FW (W W' : Mm) : Prop := Fg (fun C j => (C = 8 ∧ j = 0) ∨ (C = 27 ∧ j = 1)) W W' ∧ (∀ k, ¬ (3 ≤ k ∧ k ≤ 7) → W'.1 8 0 k = W.1 8 0 k) ∧ W.1 8 0 4 ≤ W'.1 8 0 4
theorem FX.rf : FX X X := Fg.rf
theorem FX.tr {Y : Mm} (h : FX X X') (g : FX X' Y) : FX X Y := Fg.tr h g
theorem FX.sc {kd st en nu : Int} : FX X (Sc X kd st en nu) := by
  unfold FX Sc; refine Fg.pj Fg.rf ?_
  exact Or.inr (own_8 (by omega))
theorem FW.rf : FW W W := ⟨Fg.rf, fun _ _ => rfl, Int.le_refl _⟩
theorem FW.tr {Y : Mm} (h : FW W W') (g : FW W' Y) : FW W Y := ⟨Fg.tr h.1 g.1, fun k q => (g.2.1 k q).trans (h.2.1 k q), Int.le_trans h.2.2 g.2.2⟩
theorem FW.sw {a b c d : Int} (hb : W.1 8 0 4 ≤ b) : FW W (Sw W a b c d) := by
  refine ⟨?_, fun k q => ?_, by rw [Sw_r.2.1]; exact hb⟩
  · unfold Sw; exact Fg.pj Fg.rf (Or.inl ⟨rfl, rfl⟩)
  · unfold Sw; rw [pj_s, up_n (by omega), up_n (by omega), up_n (by omega), up_n (by omega)]
theorem FW.fw {v : Int} : FW W (Fw W v) := ⟨by unfold Fw; exact Fg.pj Fg.rf (Or.inl ⟨rfl, rfl⟩), fun k q => Fw_r.2 k (by omega), by rw [Fw_r.2 4 (by decide)]; exact Int.le_refl _⟩
theorem FW.row {g : Nat → Int} : FW W (pj W 27 1 g) := ⟨Fg.pj Fg.rf (Or.inr ⟨rfl, rfl⟩), fun k q => by rw [pj_C (by decide)], by rw [pj_C (by decide)]; exact Int.le_refl _⟩
theorem tp_step (hz : 50000 ≤ z) (h : TP n f X W) (hk : W.1 8 0 5 ≠ 0) : ∃ kd st en nu a b c d, F_X5_nextToken z 0 X = some (Sc X kd st en nu) ∧ F_X8_step z 0 W = some (Sw W a b c d) ∧ TP n f (Sc X kd st en nu) (Sw W a b c d) ∧ FW W (Sw W a b c d) := by
  obtain ⟨h1, h2, h3, h4⟩ := h
  have t := h4
  obtain ⟨t1, t2, t3, t4⟩ := t
  have e5 : X.1 5 0 5 = W.1 8 0 3 := by
    rcases t4 with w | w | w | w
    · exact absurd w.1 hk
    · exact w.2.2.1
    · exact w.2.2.1
    · exact w.2.2.1
  obtain ⟨kd, st, en, nu, a, b, c, d, g1, g2, g3, g4⟩ := tk_step (z := z) hz h1 h2 e5 rfl (by omega) (by omega)
  exact ⟨kd, st, en, nu, a, b, c, d, g1, g2, ⟨Tc_Sc h1, Tm_Sw h2, by rw [Sw_r.2.2.2.2.2]; exact h3, g3⟩, FW.sw (by omega)⟩
/-- both sides in a text, no fault yet -/
def PG (n : Int) (f : Int → Int) (X W : Mm) : Prop := TP n f X W ∧ DR X (W.1 27 1) ∧ True
/-- both sides after a statement -/
def PE (n : Int) (f : Int → Int) (X W X' W' : Mm) (b : Int) : Prop := (FX X X' ∧ FW W W' ∧ Tc n f X') ∧ ((b = 1 ∧ PG n f X' W') ∨ (b = 0 ∧ 0 ≤ W'.1 8 0 7 ∧ W'.1 8 0 7 = X'.1 5 0 4))
theorem PE.fail {Y V : Mm} (hX : FX X Y) (hW : FW W V) (h : TP n f Y V) : PE n f X W Y (Fw V (V.1 8 0 4)) 0 := by
  obtain ⟨h1, h2, h3, t1, t2, t3, t4⟩ := h
  exact ⟨⟨hX, hW.tr FW.fw, h1⟩, Or.inr ⟨rfl, by rw [Fw_r.1]; omega, by rw [Fw_r.1, t2]⟩⟩
theorem m_take (h : TP n f X W) {a b : Int} (a0 : 0 ≤ a) : F_X8_takeNumber z 0 a b W = if a ≤ X.1 5 0 6 ∧ X.1 5 0 6 ≤ b then (F_X8_step z 0 W).bind fun r13 => some (X.1 5 0 6, r13) else some (a, Fw W (W.1 8 0 4)) := by
  obtain ⟨h1, h2, h3, t1, t2, t3, t4⟩ := h
  have hn := h1.2.1
  unfold F_X8_takeNumber
  rw [m_good h3, sbind, if_neg (by decide)]
  by_cases q : W.1 8 0 5 = 2
  · rw [if_pos q, ckR_t (by omega) (by omega)]
    by_cases q2 : 7 < W.1 8 0 3 - W.1 8 0 4
    · rw [if_pos q2, m_fail h3, sbind, if_neg (by omega)]
    · have e : X.1 5 0 6 = W.1 8 0 6 := by omega
      rw [if_neg q2, e_in, sbind, ib, e]
      by_cases q3 : a ≤ W.1 8 0 6 ∧ W.1 8 0 6 ≤ b
      · rw [decide_eq_true q3, if_neg (by decide), if_pos q3]
      · rw [decide_eq_false q3, if_pos rfl, m_fail h3, sbind, if_neg q3]
  · rw [if_neg q, m_fail h3, sbind, if_neg (by omega)]
theorem tp_num (h : TP n f X W) (h0 : 0 ≤ X.1 5 0 6) : W.1 8 0 5 = 2 ∧ W.1 8 0 6 = X.1 5 0 6 := by
  obtain ⟨h1, h2, h3, t1, t2, t3, t4⟩ := h
  omega
theorem begins_0 : F_X8_begins z 0 0 W = (F_X8_step z 0 W).bind fun r2 => some (((1 : Int), r2)) := rfl
theorem begins_1 : F_X8_begins z 0 1 W = (F_X8_fail z 0 W).bind fun r4 => some (((0 : Int), r4)) := rfl
theorem TP.fr {Y V : Mm} (h : TP n f X W) (e1 : ∀ C j, C = 5 ∨ C = 25 → Y.1 C j = X.1 C j) (e2 : ∀ C j, C = 8 ∨ C = 26 → V.1 C j = W.1 C j) : TP n f Y V := by
  obtain ⟨⟨a1, a2, a3⟩, ⟨b1, b2, b3⟩, h3, h4⟩ := h
  refine ⟨⟨by rw [e1 5 0 (by omega)]; exact a1, a2, by rw [e1 25 0 (by omega)]; exact a3⟩, ⟨by rw [e2 8 0 (by omega)]; exact b1, b2, by rw [e2 26 0 (by omega)]; exact b3⟩, by rw [e2 8 0 (by omega)]; exact h3, by rw [e1 5 0 (by omega), e2 8 0 (by omega)]; exact h4⟩
theorem j_client (hz : 50000 ≤ z) (h : PG n f X W) (hk : W.1 8 0 5 ≠ 0) : ∃ b X' W', F_X5_readClient z 0 X = some (b, X') ∧ (ckI (2 : Int) 5366 <| if (W.1 27 1 ((2 : Int)).toNat) = (5 : Int) then (F_X8_readStatement_41 z 0 ((1 : Int)) 0 W) else (F_X8_readStatement_41 z 0 ((0 : Int)) 0 W)) = some W' ∧ PE n f X W X' W' b := by
  obtain ⟨hT, hD, hZ⟩ := h
  have hb := hD.1.1
  have hcc := hb.2.2.1
  have e2 : X.1 6 10 2 = qcc (W.1 27 1) := hD.2.2.2.1.1.2.2.1
  by_cases q : qcc (W.1 27 1) < 5
  · obtain ⟨kd, st, en, nu, a, b, c, d, g1, g2, g3, gFq⟩ := tp_step (z := z) hz (X := pj X 6 10 (up (X.1 6 10) 2 (qcc (W.1 27 1) + 1))) (hT.fr (V := W) (fun C j w => pj_C (by omega)) (fun C j w => rfl)) hk
    refine ⟨1, _, pj (Sw W a b c d) 27 1 (rC (W.1 27 1)), ?_, ?_, ⟨?_, ?_, g3.1⟩, Or.inl ⟨rfl, g3.fr (fun C j w => rfl) (fun C j w => pj_C (by omega)), ?_, ?_⟩⟩
    · unfold F_X5_readClient
      rw [e2, if_pos q, ckR_t (by omega) (by omega), sbind, wI_pj, g1, sbind]
    · rw [ckI_t (by omega) (by omega), if_neg (show ¬ W.1 27 1 (2 : Int).toNat = 5 from by show ¬ qcc (W.1 27 1) = 5; omega)]
      unfold F_X8_readStatement_41
      rw [begins_0, g2, sbind, sbind, it1, Sw_C (by decide), ckI_t (by omega) (by omega), ckR_t (by show -2147483648 ≤ qcc (W.1 27 1) + 1; omega) (by show qcc (W.1 27 1) + 1 ≤ 2147483647; omega), ckI_t (by omega) (by omega), sbind, wI_pj, Sw_C (by decide)]; rfl
    · unfold FX; refine Fg.tr (Fg.pj Fg.rf ?_) FX.sc
      exact Or.inl (own_s (by omega))
    · exact gFq.tr FW.row
    · rw [pj_s]
      exact (hD.client q).tok (fun C j w => Sc_C w) rfl
    · trivial
  · refine ⟨0, X, Fw W (W.1 8 0 4), ?_, ?_, PE.fail FX.rf FW.rf hT⟩
    · unfold F_X5_readClient; rw [e2, if_neg q]
    · rw [ckI_t (by omega) (by omega), if_pos (show W.1 27 1 (2 : Int).toNat = 5 from by show qcc (W.1 27 1) = 5; omega)]
      unfold F_X8_readStatement_41
      rw [begins_1, m_fail hT.2.2.1, sbind, sbind, it0]
/-- the rule that a word names -/
def wr (f : Int → Int) (m : Nat → Int) : Int := if wq f 1 m = false then (if wq f 2 m = false then (if wq f 3 m = false then (if wq f 4 m = false then (if wq f 5 m = false then (if wq f 6 m = false then -1 else 5) else 4) else 3) else 2) else 1) else 0
theorem wr_b {m : Nat → Int} : (wr f m = -1 ∨ (0 ≤ wr f m ∧ wr f m ≤ 5)) := by unfold wr; (repeat' split) <;> omega
theorem wr_k {m : Nat → Int} (h : wr f m ≠ -1) : m 5 ≠ 0 := by
  intro w
  apply h
  have e : ∀ k, wq f k m = false := fun k => by unfold wq; rw [decide_eq_false (by omega)]; rfl
  unfold wr; simp [e]
theorem k_rule (hz : 50000 ≤ z) (h : TP n f X W) : F_X5_ruleOfWord z 0 X = some (wr f (W.1 8 0)) := by
  unfold F_X5_ruleOfWord wr
  simp only [k_isWord hz h.1 h.2.2.2 (show 1 < 22 by decide), k_isWord hz h.1 h.2.2.2 (show 2 < 22 by decide), k_isWord hz h.1 h.2.2.2 (show 3 < 22 by decide), k_isWord hz h.1 h.2.2.2 (show 4 < 22 by decide), k_isWord hz h.1 h.2.2.2 (show 5 < 22 by decide), k_isWord hz h.1 h.2.2.2 (show 6 < 22 by decide), sbind, ib]
  (repeat' split) <;> rfl
theorem tp_b (h : TP n f X W) : 0 ≤ W.1 8 0 4 ∧ W.1 8 0 4 ≤ W.1 8 0 3 ∧ W.1 8 0 3 ≤ n := h.2.2.2.2.2.1
theorem m_rule (hz : 50000 ≤ z) (h : TP n f X W) {V : Mm} (hV : F_X8_step z 0 V = some W) : F_X8_readField_17 z 0 0 0 V = F_X8_readField_102 z 0 (wr f (W.1 8 0)) W := by
  unfold F_X8_readField_17 wr
  rw [begins_0, hV, sbind, sbind, it1]
  simp only [m_isWord hz h.2.1 h.2.2.1 (tp_b h) (show 1 < 11 by decide), m_isWord hz h.2.1 h.2.2.1 (tp_b h) (show 2 < 11 by decide), m_isWord hz h.2.1 h.2.2.1 (tp_b h) (show 3 < 11 by decide), m_isWord hz h.2.1 h.2.2.1 (tp_b h) (show 4 < 11 by decide), m_isWord hz h.2.1 h.2.2.1 (tp_b h) (show 5 < 11 by decide), m_isWord hz h.2.1 h.2.2.1 (tp_b h) (show 6 < 11 by decide), sbind, ib]
  (repeat' split) <;> rfl
theorem j_field (hz : 50000 ≤ z) (h : PG n f X W) (hk : W.1 8 0 5 ≠ 0) : ∃ b X' W', F_X5_readField z 0 X = some (b, X') ∧ F_X8_readField z 0 W = some W' ∧ PE n f X W X' W' b := by
  obtain ⟨hT, hD, hZ⟩ := h
  have hb := hD.1.1
  have hfc := hb.2.1
  have e2 : X.1 6 10 1 = qfc (W.1 27 1) := hD.2.2.2.1.1.2.1
  by_cases q : qfc (W.1 27 1) < 6
  · obtain ⟨kd, st, en, nu, a, b, c, d, g1, g2, g3, gFq⟩ := tp_step (z := z) hz hT hk
    have e8 : F_X8_readField z 0 W = F_X8_readField_102 z 0 (wr f ((Sw W a b c d).1 8 0)) (Sw W a b c d) := by
      unfold F_X8_readField
      rw [ckI_t (by omega) (by omega), if_neg (show ¬ W.1 27 1 (1 : Int).toNat = 6 from by show ¬ qfc (W.1 27 1) = 6; omega), m_rule hz g3 g2]
    have e7 : F_X5_readField z 0 X = (if wr f ((Sw W a b c d).1 8 0) = (-1 : Int) then (some (((0 : Int), Sc X kd st en nu))) else (F_X5_nextToken z 0 (pj (pj (Sc X kd st en nu) 20 10 (up ((Sc X kd st en nu).1 20 10) (qfc (W.1 27 1)).toNat (wr f ((Sw W a b c d).1 8 0)))) 6 10 (up ((Sc X kd st en nu).1 6 10) 1 (qfc (W.1 27 1) + 1)))).bind fun r10 => some (((1 : Int), r10))) := by
      unfold F_X5_readField
      have e3 : (Sc X kd st en nu).1 6 10 1 = qfc (W.1 27 1) := by rw [Sc_C (by decide)]; exact e2
      rw [e2, if_pos q, g1, sbind, k_rule hz g3, sbind]
      simp only [e3, wI_pj, pj_C (show (6 : Nat) ≠ 20 by decide), sbind]
      rw [ckI_t (by omega) (by omega), ckR_t (by omega) (by omega)]
    generalize hu : wr f ((Sw W a b c d).1 8 0) = u at *
    have hub := wr_b (f := f) (m := (Sw W a b c d).1 8 0)
    rw [hu] at hub
    by_cases qu : u = -1
    · refine ⟨0, _, Fw (Sw W a b c d) ((Sw W a b c d).1 8 0 4), by rw [e7, if_pos qu], ?_, PE.fail FX.sc gFq g3⟩
      rw [e8]; unfold F_X8_readField_102
      rw [if_pos qu, m_fail g3.2.2.1, sbind]
    · have hk2 := wr_k (f := f) (m := (Sw W a b c d).1 8 0) (by rw [hu]; exact qu)
      have hD2 : DR (Sc X kd st en nu) (W.1 27 1) := hD.tok (fun C j w => Sc_C w) rfl
      obtain ⟨kd', st', en', nu', a', b', c', d', i1, i2, i3, iF⟩ := tp_step (z := z) hz (X := pj (pj (Sc X kd st en nu) 20 10 (up ((Sc X kd st en nu).1 20 10) (qfc (W.1 27 1)).toNat u)) 6 10 (up ((Sc X kd st en nu).1 6 10) 1 (qfc (W.1 27 1) + 1))) (g3.fr (V := Sw W a b c d) (fun C j w => by rw [pj_C (by omega), pj_C (by omega)]) (fun C j w => rfl)) hk2
      refine ⟨1, _, pj (Sw (Sw W a b c d) a' b' c' d') 27 1 (rF (W.1 27 1) u), ?_, ?_, ⟨?_, ?_, i3.1⟩, Or.inl ⟨rfl, i3.fr (fun C j w => rfl) (fun C j w => pj_C (by omega)), ?_, ?_⟩⟩
      · rw [e7, if_neg qu, i1, sbind]
      · rw [e8]; unfold F_X8_readField_102
        have e27 : (Sw (Sw W a b c d) a' b' c' d').1 27 1 = W.1 27 1 := by rw [Sw_C (by decide), Sw_C (by decide)]
        rw [if_neg qu, i2, sbind, e27]
        have e1' : W.1 27 1 (1 : Int).toNat = qfc (W.1 27 1) := rfl
        rw [e1', ckI_t (by omega) (by omega), ckR_t (by omega) (by omega), ckI_t (by omega) (by omega), sbind, wI_pj, e27, pj_s]
        have e1'' : up (W.1 27 1) (5 + qfc (W.1 27 1)).toNat u (1 : Int).toNat = qfc (W.1 27 1) := up_i (by omega) (by omega) (by omega)
        rw [e1'', ckI_t (by omega) (by omega), ckR_t (by omega) (by omega), ckI_t (by omega) (by omega), sbind, wI_pj, pj_s, pj_pj]; rfl
      · unfold FX; refine Fg.tr (Fg.pj (Fg.pj FX.sc ?_) ?_) FX.sc
        · exact Or.inl (own_s (by omega))
        · exact Or.inl (own_s (by omega))
      · exact (gFq.tr iF).tr FW.row
      · rw [pj_s]
        exact (hD2.field q).tok (fun C j w => Sc_C w) rfl
      · trivial
  · refine ⟨0, X, Fw W (W.1 8 0 4), ?_, ?_, PE.fail FX.rf FW.rf hT⟩
    · unfold F_X5_readField; rw [e2, if_neg q]
    · unfold F_X8_readField
      rw [ckI_t (by omega) (by omega), if_pos (show W.1 27 1 (1 : Int).toNat = 6 from by show qfc (W.1 27 1) = 6; omega)]
      unfold F_X8_readField_17
      rw [begins_1, m_fail hT.2.2.1, sbind, sbind, it0]
end
