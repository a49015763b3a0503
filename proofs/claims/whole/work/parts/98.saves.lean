/-! undo, save, restore, truncate. -/
def cp5 (s d : Nat → Int) : Nat → Int := fun k => if k < 5366 then s k else d k
theorem cp5_Z {s d : Nat → Int} (hs : Zr s) (hd : Zr d) : cp5 s d = s := by
  funext k; unfold cp5
  by_cases q : k < 5366
  · rw [if_pos q]
  · rw [if_neg q, hs k (by omega), hd k (by omega)]
def cpi (s d : Nat → Int) (i : Int) : Nat → Int := fun k => if (k : Int) < i then s k else d k
theorem cpi_s {s d : Nat → Int} {i : Int} (i0 : 0 ≤ i) : up (cpi s d i) i.toNat (s i.toNat) = cpi s d (i + 1) := by
  funext k; unfold up cpi
  by_cases q : k = i.toNat
  · rw [if_pos q, if_pos (by omega), q]
  · rw [if_neg q]
    by_cases w : (k : Int) < i
    · rw [if_pos w, if_pos (by omega)]
    · rw [if_neg w, if_neg (by omega)]
section
variable {z : Nat} {x y : Mm} {r : Nat → Int}
theorem e_copy (hz : 50000 ≤ z) {p q : Nat} (hpq : p ≠ q) : F_X8_copy z p q x = some (pj x 27 q (cp5 (x.1 27 p) (x.1 27 q))) := by
  unfold F_X8_copy
  refine Tt.eq ?_
  refine Tt.bind (P := fun v => v = pj x 27 q (cp5 (x.1 27 p) (x.1 27 q))) ?_ (fun a e => Tt.ret e)
  refine loopU (fun k i (w : Mm) => F_X8_copy_2 z p q k i w) 5366 (fun i w => 0 ≤ i ∧ i ≤ 5366 ∧ w = pj x 27 q (cpi (x.1 27 p) (x.1 27 q) i)) _ ?_ ?_ z 0 x (by omega) (by omega) ⟨by omega, by omega, ?_⟩
  · rintro k w i hN ⟨i0, i1, rfl⟩
    refine Tt.of (v := pj x 27 q (cpi (x.1 27 p) (x.1 27 q) i)) (if_pos hN) ?_
    have : cpi (x.1 27 p) (x.1 27 q) i = cp5 (x.1 27 p) (x.1 27 q) := by
      funext k; unfold cpi cp5
      by_cases w : k < 5366
      · rw [if_pos w, if_pos (by omega)]
      · rw [if_neg w, if_neg (by omega)]
    rw [this]
  · rintro k w i hN ⟨i0, i1, rfl⟩
    refine Or.inl ⟨pj x 27 q (cpi (x.1 27 p) (x.1 27 q) (i + 1)), ?_, by omega, by omega, rfl⟩
    show (if (5366 : Int) ≤ i then _ else _) = _
    rw [if_neg (by omega), ckI_t i0 (by omega), ckI_t i0 (by omega), sbind, wI_pj, pj_s, pj_pj, pj_j hpq, cpi_s i0, ckR_t (by omega) (by omega)]
  · have : cpi (x.1 27 p) (x.1 27 q) 0 = x.1 27 q := by
      funext k; unfold cpi; rw [if_neg (by omega)]
    rw [this, pj_id]
theorem e_undo39 (hz : 50000 ≤ z) {e : Int} (he : y.1 8 0 12 = e) (e0 : 0 ≤ e) (e1 : e < 8) (hZ : Zr (y.1 27 0)) : F_X8_undo_39 z 0 z 0 y = some (pj y 27 0 (entq (y.1 28 0) e)) := by
  have hent : ∀ i : Int, 0 ≤ i → i < 5366 → entq (y.1 28 0) e i.toNat = y.1 28 0 (5366 * e + i).toNat := fun i i0 i1 => by
    unfold entq; rw [if_pos (by omega), show 5366 * e.toNat + i.toNat = (5366 * e + i).toNat by omega]
  refine Tt.eq ?_
  refine loopU (fun k i (w : Mm) => F_X8_undo_39 z 0 k i w) 5366 (fun i w => 0 ≤ i ∧ i ≤ 5366 ∧ w = pj y 27 0 (cpi (entq (y.1 28 0) e) (y.1 27 0) i)) _ ?_ ?_ z 0 y (by omega) (by omega) ⟨by omega, by omega, ?_⟩
  · rintro k w i hN ⟨i0, i1, rfl⟩
    refine Tt.of (v := pj y 27 0 (cpi (entq (y.1 28 0) e) (y.1 27 0) i)) (if_pos hN) ?_
    have : cpi (entq (y.1 28 0) e) (y.1 27 0) i = entq (y.1 28 0) e := by
      funext k; unfold cpi
      by_cases w : (k : Int) < i
      · rw [if_pos w]
      · rw [if_neg w, hZ k (by omega)]; unfold entq; rw [if_neg (by omega)]
    rw [this]
  · rintro k w i hN ⟨i0, i1, rfl⟩
    refine Or.inl ⟨pj y 27 0 (cpi (entq (y.1 28 0) e) (y.1 27 0) (i + 1)), ?_, by omega, by omega, rfl⟩
    show (if (5366 : Int) ≤ i then _ else _) = _
    rw [if_neg (by omega), pj_C (show (8 : Nat) ≠ 27 by decide), he, ckR_t (by omega) (by omega), ckR_t (by omega) (by omega), ckI_t (by omega) (by omega), ckI_t i0 (by omega), sbind, wI_pj, pj_s, pj_pj, pj_C (show (28 : Nat) ≠ 27 by decide), ← hent i i0 (by omega), cpi_s i0, ckR_t (by omega) (by omega)]
  · have : cpi (entq (y.1 28 0) e) (y.1 27 0) 0 = y.1 27 0 := by
      funext k; unfold cpi; rw [if_neg (by omega)]
    rw [this, pj_id]
theorem zr_ent {h : Nat → Int} {i : Int} : Zr (entq h i) := fun k hk => by
  unfold entq; rw [if_neg (by omega)]
theorem p_undo (hz : 50000 ≤ z) (h : Inv x) : Pr [sS] (F_X7_undo z 0) (F_X8_undo z 0) x := by
  have hH := h.2.2.2.1
  have he := hH.2.1
  by_cases q0 : x.1 8 0 12 ≤ 0
  · refine Pr.get h (y := .inr sS) ?_ (b := 0) (t := 1) ?_ (Ok.x rfl (by decide))
    · unfold F_X7_undo
      rw [hH.1, if_pos (by omega)]
    · unfold F_X8_undo F_X8_undo_18
      rw [sbind, th_w, th_k (by decide), if_pos q0, e_fails0, sbind, it1, th_th]
  · obtain ⟨y, e, hHI, hRy, hF⟩ := k_pop (z := z) hz hH (by omega)
    have hFm : Fo (fun o => (o ≤ 12 ∧ o ≠ 1) ∨ o = 102) x y := hF.mono (fun C j w => by show (_ ∧ _) ∨ _; omega)
    have hq : ∀ C j, (C = 8 ∨ C = 26 ∨ C = 27 ∨ C = 28) → y.1 C j = x.1 C j := fun C j w => (fo_o hF (by omega) (by omega) (by omega) (by omega)).1
    have e8 : F_X8_undo z 0 y = some (x.1 8 0 12 - 1, pj (pj (th y 0) 8 0 (up ((th y 0).1 8 0) 12 (x.1 8 0 12 - 1))) 27 0 (entq (x.1 28 0) (x.1 8 0 12 - 1))) := by
      unfold F_X8_undo F_X8_undo_18
      rw [sbind, th_w, th_k (by decide), hq 8 0 (by omega), if_neg q0, e_fails1, sbind, it0, th_k (by decide), hq 8 0 (by omega), ckR_t (by omega) (by omega), sbind, wI_pj]
      have e2 := e_undo39 (z := z) hz (y := pj (th y 0) 8 0 (up ((th y 0).1 8 0) 12 (x.1 8 0 12 - 1))) (e := x.1 8 0 12 - 1) (by rw [pj_s, up_s]) (by omega) (by omega) (by rw [pj_C (by decide), th_C (by decide), hq 27 0 (by omega)]; exact h.2.1)
      rw [pj_C (show (28 : Nat) ≠ 8 by decide), th_C (C := 28) (by decide), hq 28 0 (by omega)] at e2
      rw [e2, sbind, pj_C (show (8 : Nat) ≠ 27 by decide), pj_s, up_s]
    have e7 : F_X7_undo z 0 x = some (.inl (x.1 8 0 12 - 1), y) := by
      unfold F_X7_undo
      rw [hH.1, if_neg (by omega), e, sbind, hHI.1]
    refine ⟨_, _, _, _, e7, e8, ?_, ?_⟩
    · refine Inv_ch h hFm ?_ ?_ ?_ ?_ ?_ ?_ ?_ ?_
      · rw [pj_s]; exact hRy
      · rw [pj_s]; exact zr_ent
      · rw [pj_C (show (28 : Nat) ≠ 27 by decide), pj_C (show (28 : Nat) ≠ 8 by decide), th_C (by decide), hq 28 0 (by omega), pj_C (show (8 : Nat) ≠ 27 by decide), pj_s, up_s]; exact hHI
      · have e11 := hF 1 11 (by show ¬ (own 1 11 = 0 ∨ own 1 11 = 102); rw [own_s (by omega)]; omega)
        rw [e11.1]; exact h.2.2.2.2.2
      · exact ((Fg.rf.pj (Or.inl (own_8 (by omega)))).pj (Or.inl (own_8 (by omega)))).pj (Or.inr (Or.inl (own_8 (by omega))))
      · rw [pj_j (by decide), pj_C (by decide), th_C (by decide)]
      · rw [pj_C (by decide), pj_s, up_n (by decide), th_k (by decide)]
      · rw [pj_C (by decide), pj_s, up_n (by decide), th_k (by decide)]
    · rw [pj_C (by decide), pj_s, up_n (by decide), th_0]; exact Ok.v
theorem p_save (hz : 50000 ≤ z) (h : Inv x) : ∃ v x1 x2, F_X7_save z 0 x = some (v, x1) ∧ F_X8_save z 0 x1 = some (v, x2) ∧ Inv x2 := by
  obtain ⟨a1, a2, a3, a4, a5, a6⟩ := h
  obtain ⟨y, e, hRy, hF⟩ := k_copyS (z := z) hz (v0 := 1) (by omega) a1
  have hq : ∀ C j, (C = 2 ∨ C = 5 ∨ C = 7 ∨ C = 8 ∨ C = 25 ∨ C = 26 ∨ C = 27 ∨ C = 28) → y.1 C j = x.1 C j := fun C j w => (fo_o hF (by omega) (by omega) (by omega) (by omega)).1
  have hR0 := Rs_fr a1 hF (by omega)
  have e7 : F_X7_save z 0 x = some (qtk (x.1 27 0), pj y 7 0 (up (y.1 7 0) 2 1)) := by
    unfold F_X7_save
    rw [e, sbind, sbind, wI_pj, pj_C (by decide), hR0.2.1.1]
  generalize hy1 : pj y 7 0 (up (y.1 7 0) 2 1) = y1 at *
  have hq1 : ∀ C j, (C = 2 ∨ C = 5 ∨ C = 8 ∨ C = 25 ∨ C = 26 ∨ C = 27 ∨ C = 28) → y1.1 C j = x.1 C j := fun C j w => by rw [← hy1, pj_C (by omega)]; exact hq C j (by omega)
  have h72 : y1.1 7 0 2 = 1 := by rw [← hy1, pj_s, up_s]
  have hF1 : Fo (fun o => o = 107) y y1 := by rw [← hy1]; exact fo_pj (own_8 (by omega))
  have e8 : F_X8_save z 0 y1 = some (qtk (x.1 27 0), pj (pj (th y1 0) 27 2 (x.1 27 0)) 8 0 (up ((th y1 0).1 8 0) 13 1)) := by
    unfold F_X8_save
    have e2 := e_copy (z := z) (x := th y1 0) hz (show (0 : Nat) ≠ 2 by decide)
    rw [th_C (by decide), th_C (by decide), hq1 27 0 (by omega), hq1 27 2 (by omega), cp5_Z a2 a3.2.2.2] at e2
    rw [sbind, th_w, e2, sbind, sbind, wI_pj, pj_C (show (8 : Nat) ≠ 27 by decide), ckI_t (by omega) (by omega), pj_C (show (27 : Nat) ≠ 8 by decide), pj_j (by decide), th_C (by decide), hq1 27 0 (by omega)]; rfl
  refine ⟨_, _, _, e7, e8, ?_⟩
  have hw : Fo (fun o => o = 108 ∨ o = 127) y1 (pj (pj (th y1 0) 27 2 (x.1 27 0)) 8 0 (up ((th y1 0).1 8 0) 13 1)) := ((Fg.rf.pj (Or.inl (own_8 (by omega)))).pj (Or.inr (own_8 (by omega)))).pj (Or.inl (own_8 (by omega)))
  have w27 : ∀ j, j ≠ 2 → (pj (pj (th y1 0) 27 2 (x.1 27 0)) 8 0 (up ((th y1 0).1 8 0) 13 1)).1 27 j = x.1 27 j := fun j hj => by rw [pj_C (by decide), pj_j hj, th_C (by decide), hq1 27 j (by omega)]
  have w272 : (pj (pj (th y1 0) 27 2 (x.1 27 0)) 8 0 (up ((th y1 0).1 8 0) 13 1)).1 27 2 = x.1 27 0 := by rw [pj_C (by decide), pj_s]
  have w28 : (pj (pj (th y1 0) 27 2 (x.1 27 0)) 8 0 (up ((th y1 0).1 8 0) 13 1)).1 28 0 = x.1 28 0 := by rw [pj_C (by decide), pj_C (by decide), th_C (by decide), hq1 28 0 (by omega)]
  have w8 : ∀ k, k ≠ 0 → k ≠ 13 → (pj (pj (th y1 0) 27 2 (x.1 27 0)) 8 0 (up ((th y1 0).1 8 0) 13 1)).1 8 0 k = x.1 8 0 k := fun k h0 h13 => by rw [pj_s, up_n h13, th_k h0, hq1 8 0 (by omega)]
  have w813 : (pj (pj (th y1 0) 27 2 (x.1 27 0)) 8 0 (up ((th y1 0).1 8 0) 13 1)).1 8 0 13 = 1 := by rw [pj_s, up_s]
  have wo : ∀ C j, (C = 5 ∨ C = 7 ∨ C = 25 ∨ C = 26) → (pj (pj (th y1 0) 27 2 (x.1 27 0)) 8 0 (up ((th y1 0).1 8 0) 13 1)).1 C j = y1.1 C j := fun C j q => (fo_o hw (by omega) (by omega) (by omega) (by omega)).1
  generalize pj (pj (th y1 0) 27 2 (x.1 27 0)) 8 0 (up ((th y1 0).1 8 0) 13 1) = w at *
  refine ⟨?_, ?_, ⟨?_, ?_, ?_, ?_⟩, ?_, ?_, ?_⟩
  · rw [w27 0 (by decide)]; exact Rs_fr (Rs_fr hR0 hF1 (by omega)) hw (by omega)
  · rw [w27 0 (by decide)]; exact a2
  · rw [w813, wo 7 0 (by omega), h72]
  · rw [w813]; exact Or.inr rfl
  · intro _; rw [w272]; exact Rs_fr (Rs_fr hRy hF1 (by omega)) hw (by omega)
  · rw [w272]; exact a2
  · rw [w28, w8 12 (by decide) (by decide)]
    exact HI_fr (HI_fr (HI_fr a4 hF (fun o _ _ => by omega) (by omega)) hF1 (fun o _ _ => by omega) (by omega)) hw (fun o _ _ => by omega) (by omega)
  · unfold TX
    rw [w8 2 (by decide) (by decide), wo 5 0 (by omega), wo 25 0 (by omega), wo 26 0 (by omega), hq1 5 0 (by omega), hq1 25 0 (by omega), hq1 26 0 (by omega)]; exact a5
  · have e1 := hw 1 11 (by show ¬ (own 1 11 = 108 ∨ own 1 11 = 127); rw [own_s (by omega)]; omega)
    have e2 := hF1 1 11 (by show ¬ own 1 11 = 107; rw [own_s (by omega)]; omega)
    have e3 := hF 1 11 (by show ¬ own 1 11 = 1; rw [own_s (by omega)]; omega)
    rw [e1.1, e2.1, e3.1]; exact a6
theorem p_restore (hz : 50000 ≤ z) (h : Inv x) : Pr [sS] (F_X7_restore z 0) (F_X8_restore z 0) x := by
  have hI := h
  obtain ⟨a1, a2, a3, a4, a5, a6⟩ := h
  rcases a3.2.1 with q0 | q1
  · refine Pr.get hI (y := .inr sS) ?_ (b := 0) (t := 1) ?_ (Ok.x rfl (by decide))
    · unfold F_X7_restore
      rw [a3.1, if_pos q0]
    · unfold F_X8_restore
      rw [sbind, th_w, th_k (by decide), q0, e_fails0, sbind, it1, th_th]
  · obtain ⟨y, e, hRy, hF⟩ := k_copyS (z := z) hz (v0 := 0) (by omega) (a3.2.2.1 q1)
    have hq : ∀ C j, (C = 2 ∨ C = 5 ∨ C = 7 ∨ C = 8 ∨ C = 25 ∨ C = 26 ∨ C = 27 ∨ C = 28) → y.1 C j = x.1 C j := fun C j w => (fo_o hF (by omega) (by omega) (by omega) (by omega)).1
    have e7 : F_X7_restore z 0 x = some (.inl (qtk (x.1 27 2)), pj y 2 0 (up (y.1 2 0) 0 0)) := by
      unfold F_X7_restore F_X2_forget
      rw [a3.1, if_neg (by omega), e, sbind, sbind, sbind, wI_pj, pj_C (by decide), hRy.2.1.1]
    have hRy1 := Rs_2 (k := 0) (f := up (y.1 2 0) 0 0) hRy (by omega)
    have hFm : Fo (fun o => (o ≤ 12 ∧ o ≠ 1) ∨ o = 102) x (pj y 2 0 (up (y.1 2 0) 0 0)) := (hF.mono (fun C j w => by show (_ ∧ _) ∨ _; omega)).pj (Or.inr own_2)
    have hq1 : ∀ C j, (C = 5 ∨ C = 7 ∨ C = 8 ∨ C = 25 ∨ C = 26 ∨ C = 27 ∨ C = 28) → (pj y 2 0 (up (y.1 2 0) 0 0)).1 C j = x.1 C j := fun C j w => by rw [pj_C (by omega)]; exact hq C j (by omega)
    have h2 : (pj y 2 0 (up (y.1 2 0) 0 0)).1 2 0 = up (x.1 2 0) 0 0 := by rw [pj_s, hq 2 0 (by omega)]
    have h11 : (pj y 2 0 (up (y.1 2 0) 0 0)).1 1 11 0 = x.1 1 11 0 := by
      have e3 := hF 1 11 (by show ¬ own 1 11 = 0; rw [own_s (by omega)]; omega)
      rw [pj_C (by decide), e3.1]
    generalize pj y 2 0 (up (y.1 2 0) 0 0) = y1 at *
    have e8 : F_X8_restore z 0 y1 = some (qtk (x.1 27 2), pj (pj (th y1 0) 27 0 (x.1 27 2)) 8 0 (up ((th y1 0).1 8 0) 12 0)) := by
      unfold F_X8_restore
      have e2 := e_copy (z := z) (x := th y1 0) hz (show (2 : Nat) ≠ 0 by decide)
      rw [th_C (by decide), th_C (by decide), hq1 27 0 (by omega), hq1 27 2 (by omega), cp5_Z a3.2.2.2 a2] at e2
      rw [sbind, th_w, th_k (by decide), hq1 8 0 (by omega), q1, e_fails1, sbind, it0, e2, sbind, sbind, wI_pj, pj_C (show (8 : Nat) ≠ 27 by decide), ckI_t (by omega) (by omega), pj_C (show (27 : Nat) ≠ 8 by decide), pj_s]; rfl
    refine ⟨_, _, _, _, e7, e8, ?_, ?_⟩
    · refine Inv_ch hI hFm ?_ ?_ ?_ ?_ ?_ ?_ ?_ ?_
      · rw [pj_C (by decide), pj_s]; exact hRy1
      · rw [pj_C (by decide), pj_s]; exact a3.2.2.2
      · rw [pj_s, up_s]
        exact ⟨by rw [h2, up_s], by omega, by rw [h2, up_n (by decide)]; exact a4.2.2.1, fun i i0 i1 => by omega⟩
      · rw [h11]; exact a6
      · exact ((Fg.rf.pj (Or.inl (own_8 (by omega)))).pj (Or.inr (Or.inl (own_8 (by omega))))).pj (Or.inl (own_8 (by omega)))
      · rw [pj_C (by decide), pj_j (by decide), th_C (by decide)]
      · rw [pj_s, up_n (by decide), th_k (by decide)]
      · rw [pj_s, up_n (by decide), th_k (by decide)]
    · rw [pj_s, up_n (by decide), th_0]; exact Ok.v
/-- a call that changes the text alone -/
theorem Inv_tx {w : Mm} (h : Inv x) (hF : Fo (fun o => o = 105 ∨ o = 125 ∨ o = 108 ∨ o = 126) x w) (h12 : w.1 8 0 12 = x.1 8 0 12) (h13 : w.1 8 0 13 = x.1 8 0 13) (hT : TX w) : Inv w := by
  obtain ⟨a1, a2, a3, a4, a5, a6⟩ := h
  have f : ∀ C j, (C = 2 ∨ C = 7 ∨ C = 27 ∨ C = 28) → w.1 C j = x.1 C j := fun C j q => (fo_o hF (by omega) (by omega) (by omega) (by omega)).1
  refine ⟨?_, ?_, ?_, ?_, hT, ?_⟩
  · rw [f 27 0 (by omega)]; exact Rs_fr a1 hF (by omega)
  · rw [f 27 0 (by omega)]; exact a2
  · unfold SV
    rw [f 7 0 (by omega), h13, f 27 2 (by omega)]
    exact ⟨a3.1, a3.2.1, fun q => Rs_fr (a3.2.2.1 q) hF (by omega), a3.2.2.2⟩
  · rw [f 28 0 (by omega), h12]; exact HI_fr a4 hF (fun o _ _ => by omega) (by omega)
  · have e := hF 1 11 (by show ¬ (own 1 11 = 105 ∨ _); rw [own_s (by omega)]; omega)
    rw [e.1]; exact a6
theorem p_truncate (h : Inv x) (v : Int) : Pr [sA] (F_X7_truncate z 0 v) (F_X8_truncate z 0 v) x := by
  have hT := h.2.2.2.2.1
  by_cases q : 0 ≤ v ∧ v ≤ x.1 8 0 2
  · have e7 : F_X7_truncate z 0 v x = some (.inl v, pj x 5 0 (up (x.1 5 0) 0 v)) := by
      unfold F_X7_truncate
      rw [if_neg (by omega), hT.1, if_pos q.2, sbind, wI_pj]
    have hq1 : ∀ C j, C ≠ 5 → (pj x 5 0 (up (x.1 5 0) 0 v)).1 C j = x.1 C j := fun C j w => pj_C w
    have h5 : (pj x 5 0 (up (x.1 5 0) 0 v)).1 5 0 0 = v := by rw [pj_s, up_s]
    have hF5 : Fo (fun o => o = 105 ∨ o = 125 ∨ o = 108 ∨ o = 126) x (pj x 5 0 (up (x.1 5 0) 0 v)) := fo_pj (Or.inl (own_8 (by omega)))
    generalize pj x 5 0 (up (x.1 5 0) 0 v) = y at *
    have e8 : F_X8_truncate z 0 v y = some (v, pj (th y 0) 8 0 (up ((th y 0).1 8 0) 2 v)) := by
      unfold F_X8_truncate
      rw [sbind, th_w, th_k (by decide), hq1 8 0 (by decide), e_in, sbind, e_failsT q, sbind, it0, sbind, wI_pj]
    refine ⟨_, _, _, _, e7, e8, Inv_tx h ((hF5.pj (Or.inr (Or.inr (Or.inl (own_8 (by omega)))))).pj (Or.inr (Or.inr (Or.inl (own_8 (by omega)))))) ?_ ?_ ?_, ?_⟩
    · rw [pj_s, up_n (by decide), th_k (by decide), hq1 8 0 (by decide)]
    · rw [pj_s, up_n (by decide), th_k (by decide), hq1 8 0 (by decide)]
    · unfold TX
      rw [pj_s, up_s, pj_C (by decide), pj_C (by decide), pj_C (by decide), th_C (by decide), th_C (by decide), th_C (by decide), h5, hq1 25 0 (by decide), hq1 26 0 (by decide)]
      exact ⟨rfl, by have := hT.2.1; omega, fun k k0 k1 => hT.2.2 k k0 (by omega)⟩
    · rw [pj_s, up_n (by decide), th_0]; exact Ok.v
  · refine Pr.get h (y := .inr sA) ?_ (b := 0) (t := 1) ?_ (Ok.x rfl (by decide))
    · unfold F_X7_truncate
      by_cases w : v < 0
      · rw [if_pos w]
      · rw [if_neg w, hT.1, if_neg (by omega)]
    · unfold F_X8_truncate
      rw [sbind, th_w, th_k (by decide), e_in, sbind, e_failsF q, sbind, it1, th_th]
end
