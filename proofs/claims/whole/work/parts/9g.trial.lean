/-! preview, wouldBe, isFree. -/
/-- the class's State but for its trunk: as the row r says, for the clients that have a lease there -/
def Rv (x : Mm) (r : Nat → Int) : Prop := Wq r ∧ RH x 0 r ∧ RN x 0 r ∧ ∀ c : Int, 0 ≤ c → c < 5 → qhl r c = true → RLs x (5 * 0 + c.toNat) c r
section
variable {z : Nat} {x y : Mm} {r : Nat → Int} {c : Int}
theorem Rv_of (h : Rs x 0 r) : Rv x r := ⟨h.1, h.2.1, h.2.2.1, fun c c0 c1 _ => h.2.2.2.2.1 c c0 c1⟩
theorem Rv_fr {b : Nat} (hb : b % 3 = 0) (h : Rv x r) (hF : Fg (fun C j => ((C = 0 ∨ C = 23) ∧ j = b) ∨ ((C = 1 ∨ C = 24) ∧ j = 11)) x y) : Rv y r := by
  obtain ⟨hW, hH, hN, hL⟩ := h
  have f : ∀ C j, ¬ (((C = 0 ∨ C = 23) ∧ j = b) ∨ ((C = 1 ∨ C = 24) ∧ j = 11)) → y.1 C j = x.1 C j ∧ y.2 C j = x.2 C j := hF
  exact ⟨hW, RH_fr hH (f 6 0 (by omega)).1 (f 20 0 (by omega)).1, RN_fr hN (f 4 0 (by omega)).1 (f 4 0 (by omega)).2 (f 21 0 (by omega)).1 (f 22 0 (by omega)).1 (f 30 0 (by omega)).2, fun c c0 c1 w => RL_fr (hL c c0 c1 w) (f 3 _ (by omega)).1 (f 3 _ (by omega)).2 (f 0 _ (by omega)).2 (f 0 _ (by omega)).2 (f 23 _ (by omega)).1 (f 23 _ (by omega)).1⟩
theorem RB_qen {al : Nat → BitVec 64} {vs : Nat → Int} (h : RB al vs r) (c0 : 0 ≤ c) (c1 : c < 5) (h60 : qct r ≤ 60) : RB al vs (qen r c) := by
  have hS := Slc_qen (r := r) c0 c1
  refine ⟨fun n n0 n1 => ?_, fun n f n0 n1 f0 f1 => ?_⟩
  · rw [h.1 n n0 n1, hS.ct c0 c1]
    by_cases q : n < qct r
    · unfold qal; rw [hS.sm c0 (by omega) (by omega) c1]
    · rw [decide_eq_false q]; rfl
  · rw [h.2 n f n0 n1 f0 f1]; exact (hS.sm c0 (by omega) (by omega) c1).symm
theorem Rv_merge {b l : Nat} {real : Prop} {B : Int} {s : Sp} {p : Mm} (hb3 : b % 3 = 0) (hl0 : l = 11) (hR : Rv x r) (hS : CS x b l real r B s p) (hMW : MW s) (c0 : 0 ≤ c) (c1 : c < 5) : Rv p (qen s.1 c) ∧ Wq s.1 := by
  obtain ⟨al, vs, a, ps, rfl, hRB, hK, hM, hV⟩ := hS
  obtain ⟨hW, hH, hN, hLs⟩ := hR
  have hb := hW.1
  have ht := hW.2.1
  have h60 := hb.2.2.2.1
  have hf := hb.2.1
  have hWs : Wq s.1 := by
    refine ⟨hM.wb hb, hM.wt hb ht, hMW.1, ?_, hV, fun d d0 d1 => WL_Sm hM.1 d0 d1 hf.1 (hW.2.2.2.2.2.1 d d0 d1), hMW.2⟩
    intro n n0 n1
    rw [hM.1 (131 + n) (by omega) (by omega) (by omega) (by omega)]; exact hW.2.2.2.1 n n0 n1
  have hQ := Slc_qen (r := s.1) c0 c1
  have hWq : Wq (qen s.1 c) := hQ.W c0 c1 hWs (fun w => by rw [qhl_qen c0 c1] at w; cases w)
  have E : ∀ i : Int, 0 ≤ i → i ≠ 4 → ¬ (191 ≤ i ∧ i < 611) → ¬ (626 ≤ i ∧ i < 866) → ¬ (611 + 3 * c ≤ i ∧ i < 614 + 3 * c) → ¬ (866 + 900 * c ≤ i ∧ i < 866 + 900 * c + 900) → qen s.1 c i.toNat = r i.toNat := fun i i0 i1 i2 i3 i4 i5 => (hQ i i0 i4 i5).trans (hM.1 i i0 i1 i2 i3)
  have ect : qct (qen s.1 c) = qct r := E 3 (by omega) (by omega) (by omega) (by omega) (by omega) (by omega)
  have efc : qfc (qen s.1 c) = qfc r := E 1 (by omega) (by omega) (by omega) (by omega) (by omega) (by omega)
  refine ⟨⟨hWq, ?_, ?_, ?_⟩, hWs⟩
  · unfold RH
    rw [mk_1C (by decide) (by decide) (by decide), mk_1C (by decide) (by decide) (by decide), efc]
    refine ⟨hH.1.trans (E 0 (by omega) (by omega) (by omega) (by omega) (by omega) (by omega)).symm, hH.2.1, hH.2.2.1.trans (E 2 (by omega) (by omega) (by omega) (by omega) (by omega) (by omega)).symm, fun f f0 f1 => ?_⟩
    exact (hH.2.2.2 f f0 f1).trans (E (5 + f) (by omega) (by omega) (by omega) (by omega) (by omega) (by omega)).symm
  · have := RN_mk (b := b) (l := l) (al := al) (vs := vs) (a := a) (ps := ps) hN
    refine ⟨by rw [ect]; exact this.1, fun n n0 n1 => ?_, fun n n0 n1 => ?_⟩
    · rw [ect] at n1
      obtain ⟨g1, g2, g3⟩ := this.2.1 n n0 n1
      refine ⟨g1.trans (E (11 + n) (by omega) (by omega) (by omega) (by omega) (by omega) (by omega)).symm, g2.trans (E (71 + n) (by omega) (by omega) (by omega) (by omega) (by omega) (by omega)).symm, fun m m0 m1 => ?_⟩
      rw [g3 m m0 m1, hQ.wi c0 c1 hWs.1 hWs.2.1 m0 (by rw [hM.1.ct]; exact n1), hM.1.wi m0 hb ht n1]
    · rw [this.2.2 n n0 n1, ect]
      by_cases q : n < qct r
      · unfold qrc; rw [E (131 + n) (by omega) (by omega) (by omega) (by omega) (by omega) (by omega)]
      · rw [decide_eq_false q]; rfl
  · intro d d0 d1 w
    have hdc : d ≠ c := fun q => by rw [q, qhl_qen c0 c1] at w; cases w
    have E' : ∀ i : Int, (611 + 3 * d ≤ i ∧ i < 614 + 3 * d) ∨ (866 + 900 * d ≤ i ∧ i < 866 + 900 * d + 900) → qen s.1 c i.toNat = r i.toNat := fun i hi => E i (by omega) (by omega) (by omega) (by omega) (by omega) (by omega)
    have eln : qln (qen s.1 c) d = qln r d := E' _ (by omega)
    have ehl : qhl (qen s.1 c) d = qhl r d := by unfold qhl; rw [eln]
    rw [ehl] at w
    have hL := hLs d d0 d1 w
    have ecp : ∀ p n : Int, 0 ≤ p → 0 ≤ n → p + n < 900 → qcp (qen s.1 c) d p n = qcp r d p n := fun p n p0 n0 n1 => by unfold qcp; rw [E' _ (by omega)]
    have eov : ∀ n f : Int, 0 ≤ n → n < 60 → 0 ≤ f → f < 6 → qov (qen s.1 c) d n f = qov r d n f := fun n f n0 n1 f0 f1 => E' _ (by omega)
    have env : ∀ n f : Int, 0 ≤ n → n < 60 → 0 ≤ f → f < 6 → qnv (qen s.1 c) d n f = qnv r d n f := fun n f n0 n1 f0 f1 => E' _ (by omega)
    unfold RLs
    rw [mk_1C (C := 3) (by decide) (by decide) (by decide), mk_2C (C := 3) (by decide), mk_2j (C := 0) (j := 3 * (5 * 0 + d.toNat) + 1) (by omega), mk_2j (C := 0) (j := 3 * (5 * 0 + d.toNat) + 2) (by omega), mk_1v (j := 3 * (5 * 0 + d.toNat) + 1) (by omega), mk_1v (j := 3 * (5 * 0 + d.toNat) + 2) (by omega), ehl, eln, show qle (qen s.1 c) d = qle r d from E' _ (by omega), show qlx (qen s.1 c) d = qlx r d from E' _ (by omega), ect]
    refine ⟨hL.1, fun w => ?_⟩
    obtain ⟨l1, lr, lv⟩ := hL.2 w
    refine ⟨l1, fun n n0 n1 => ?_, fun n f n0 n1 f0 f1 => ?_⟩
    · rw [ecp _ _ (by omega) n0 (by omega), ecp _ _ (by omega) n0 (by omega), ecp _ _ (by omega) n0 (by omega)]; exact lr n n0 n1
    · rw [ecp _ _ (by omega) n0 (by omega), ecp _ _ (by omega) n0 (by omega), eov n f n0 n1 f0 f1, env n f n0 n1 f0 f1]; exact lv n f n0 n1 f0 f1
theorem k_trial (hz : 50000 ≤ z) {b : Nat} (hb3 : b % 3 = 0) (hR : Rv x r) (hB : RB (x.2 0 b) (x.1 23 b) r) (hT : 0 ≤ x.1 1 11 0 ∧ x.1 1 11 0 ≤ 40) (c0 : 0 ≤ c) (c1 : c < 5) (ql : qhl r c = true) : Tt (F_X6_merge z 0 c b 11 x) (fun p => p.1 = (qm3 c (r, 0)).2 ∧ (0 ≤ p.1 ∧ p.1 ≤ 1000) ∧ Rv p.2 (qen (qm3 c (r, 0)).1 c) ∧ RB (p.2.2 0 b) (p.2.1 23 b) (qen (qm3 c (r, 0)).1 c) ∧ (0 ≤ p.2.1 1 11 0 ∧ p.2.1 1 11 0 ≤ 40) ∧ Fg (fun C j => ((C = 0 ∨ C = 23) ∧ j = b) ∨ ((C = 1 ∨ C = 24) ∧ j = 11)) x p.2) := by
  obtain ⟨hW, hH, hN, hL⟩ := hR
  have hX : CX x b c r := ⟨hb3, c0, c1, hW.1, hW.2.1, (hW.2.2.2.2.2.1 c c0 c1 ql).2.2.2.1, ql, hN, hH, hL c c0 c1 ql⟩
  refine (k_merge (real := False) (l := 11) hz hX hB ⟨hT.1, hT.2, fun w => w.elim⟩ hW.2.2.2.2.1).mono ?_
  rintro ⟨v, p⟩ ⟨e, hS⟩
  have hMW := MW.m3 (c := c) hW.2.2.1 hW.2.2.2.2.2.2 hW.1 hW.2.1 c0 hX.2.2.2.2.2.1.1
  obtain ⟨h1, h2⟩ := Rv_merge hb3 rfl ⟨hW, hH, hN, hL⟩ hS hMW.2 c0 c1
  obtain ⟨al, vs, a, ps, rfl, hRB, hK, hM, hV⟩ := hS
  simp only at e
  refine ⟨e, by rw [e]; exact hM.2.2, h1, ?_, ?_, ?_⟩
  · show RB ((mk x b 11 al vs a ps).2 0 b) ((mk x b 11 al vs a ps).1 23 b) _
    rw [mk_al, mk_vs]; exact RB_qen hRB c0 c1 h2.1.2.2.2.1.2
  · show 0 ≤ (mk x b 11 al vs a ps).1 1 11 0 ∧ _
    rw [mk_a]; exact ⟨hK.1, hK.2.1⟩
  · exact Fg.mk (Or.inl ⟨Or.inl rfl, rfl⟩) (Or.inl ⟨Or.inr rfl, rfl⟩) (Or.inr ⟨Or.inl rfl, rfl⟩) (Or.inr ⟨Or.inr rfl, rfl⟩)
/-- the model's memory in a trial -/
def Mq (x w : Mm) (r a o : Nat → Int) : Prop := w.1 27 0 = r ∧ w.1 27 3 = a ∧ w.1 27 4 = o ∧ (∀ k, k ≠ 0 → k ≠ 14 → w.1 8 0 k = x.1 8 0 k) ∧ w.1 8 0 0 = 0 ∧ (∀ C j, ¬ (C = 8 ∧ j = 0) → ¬ (C = 27 ∧ (j = 0 ∨ j = 3 ∨ j = 4)) → w.1 C j = x.1 C j) ∧ w.2 = x.2
theorem Mq_0 : Mq x (th x 0) (x.1 27 0) (x.1 27 3) (x.1 27 4) := ⟨th_C (by decide), th_C (by decide), th_C (by decide), fun k h0 _ => th_k h0, th_0, fun C j h _ => by
  by_cases q : C = 8
  · unfold th; rw [pj_j (fun w => h ⟨q, w⟩)]
  · exact th_C q, rfl⟩
theorem Mq_copy (hz : 50000 ≤ z) {w : Mm} {a o : Nat → Int} (h : Mq x w r a o) : (∃ w', F_X8_copy z 0 3 w = some w' ∧ Mq x w' r (cp5 r a) o) ∧ (∃ w', F_X8_copy z 3 0 w = some w' ∧ Mq x w' (cp5 a r) a o) ∧ (∃ w', F_X8_copy z 0 4 w = some w' ∧ Mq x w' r a (cp5 r o)) := by
  obtain ⟨h1, h2, h3, h4, h5, h6, h7⟩ := h
  refine ⟨⟨_, e_copy hz (by decide), ?_⟩, ⟨_, e_copy hz (by decide), ?_⟩, ⟨_, e_copy hz (by decide), ?_⟩⟩
  · refine ⟨by rw [pj_j (by decide)]; exact h1, by rw [pj_s, h1, h2], by rw [pj_j (by decide)]; exact h3, fun k k0 k1 => by rw [pj_C (by decide)]; exact h4 k k0 k1, by rw [pj_C (by decide)]; exact h5, fun C j q1 q2 => ?_, h7⟩
    rw [← h6 C j q1 q2]
    exact if_neg (fun w => q2 ⟨w.1, by omega⟩)
  · refine ⟨by rw [pj_s, h1, h2], by rw [pj_j (by decide)]; exact h2, by rw [pj_j (by decide)]; exact h3, fun k k0 k1 => by rw [pj_C (by decide)]; exact h4 k k0 k1, by rw [pj_C (by decide)]; exact h5, fun C j q1 q2 => ?_, h7⟩
    rw [← h6 C j q1 q2]
    exact if_neg (fun w => q2 ⟨w.1, by omega⟩)
  · refine ⟨by rw [pj_j (by decide)]; exact h1, by rw [pj_j (by decide)]; exact h2, by rw [pj_s, h1, h3], fun k k0 k1 => by rw [pj_C (by decide)]; exact h4 k k0 k1, by rw [pj_C (by decide)]; exact h5, fun C j q1 q2 => ?_, h7⟩
    rw [← h6 C j q1 q2]
    exact if_neg (fun w => q2 ⟨w.1, by omega⟩)
theorem Mq_merge (hz : 50000 ≤ z) {w : Mm} {a o : Nat → Int} (h : Mq x w r a o) (hW : Wq r) (c0 : 0 ≤ c) (c1 : c < 5) (ql : qhl r c = true) : ∃ w', F_X8_merge z 0 c w = some ((qm3 c (r, 0)).2, w') ∧ Mq x w' (qen (qm3 c (r, 0)).1 c) a o := by
  obtain ⟨h1, h2, h3, h4, h5, h6, h7⟩ := h
  have em := e_merge z hz c w (by rw [h1]; exact hW.1) (by rw [h1]; exact hW.2.1) c0 c1 (by rw [h1]; exact (hW.2.2.2.2.2.1 c c0 c1 ql).2.2.2.1.1)
  rw [h1] at em
  refine ⟨_, em, mS_r, ?_, ?_, fun k k0 k1 => ?_, ?_, fun C j q1 q2 => ?_, h7⟩
  · unfold mS; rw [pj_C (by decide), pj_j (by decide)]; exact h2
  · unfold mS; rw [pj_C (by decide), pj_j (by decide)]; exact h3
  · rw [mS_m, up_n k1]; exact h4 k k0 k1
  · rw [mS_m, up_n (by decide)]; exact h5
  · rw [← h6 C j q1 q2]
    unfold mS
    rw [show (pj (pj w 27 0 (qen (qm3 c (r, 0)).1 c, (qm3 c (r, 0)).2).1) 8 0 (up (w.1 8 0) 14 (qen (qm3 c (r, 0)).1 c, (qm3 c (r, 0)).2).2)).1 C j = (pj w 27 0 (qen (qm3 c (r, 0)).1 c)).1 C j from if_neg (fun u => q1 u)]
    exact if_neg (fun u => q2 ⟨u.1, Or.inl u.2⟩)
theorem bnd_s' {α β : Type} {o : Option α} {f : α → Option β} {y : β} (h : o.bind f = some y) : ∃ v, o = some v ∧ f v = some y := by
  cases o with
  | none => cases h
  | some v => exact ⟨v, rfl, h⟩
theorem cp5_b {s a d : Nat → Int} (hs : Zr s) (hd : Zr d) : cp5 (cp5 s a) d = s := by
  funext k; unfold cp5
  by_cases q : k < 5366
  · rw [if_pos q, if_pos q]
  · rw [if_neg q, hs k (by omega), hd k (by omega)]
theorem Inv_trial {w : Mm} {a o : Nat → Int} (h : Inv x) (hF : Fo (fun o => o = 11 ∨ o = 12) x y) (hT : 0 ≤ y.1 1 11 0 ∧ y.1 1 11 0 ≤ 40) (hM : Mq y w (x.1 27 0) a o) : Inv w := by
  obtain ⟨h1, h2, h3, h4, h5, h6, h7⟩ := hM
  have f : ∀ C j, (C = 8 ∨ C = 27 ∨ C = 28) → y.1 C j = x.1 C j := fun C j q => (fo_o hF (by omega) (by omega) (by omega) (by omega)).1
  refine Inv_ch h (hF.mono (fun C j q => by show (_ ∧ _) ∨ _; omega)) (by rw [h1]; exact Rs_fr h.1 hF (by omega)) (by rw [h1]; exact h.2.1) ?_ hT ?_ ?_ ?_ ?_
  · rw [h6 28 0 (by omega) (by omega), h4 12 (by decide) (by decide), f 28 0 (by omega), f 8 0 (by omega)]
    exact HI_fr h.2.2.2.1 hF (fun o _ _ => by omega) (by omega)
  · intro C j q
    have q8 : ¬ (C = 8 ∧ j = 0) := fun u => q (by rw [u.1, u.2]; exact Or.inl (own_8 (by omega)))
    have q27 : ¬ (C = 27 ∧ (j = 0 ∨ j = 3 ∨ j = 4)) := fun u => q (by rw [u.1]; exact Or.inr (Or.inl (own_8 (by omega))))
    exact ⟨h6 C j q8 q27, by rw [h7]⟩
  · exact h6 27 2 (by omega) (by omega)
  · exact h4 13 (by decide) (by decide)
  · exact h4 2 (by decide) (by decide)
theorem fo_tr {b : Nat} (hb : b = 33 ∨ b = 36) (hF : Fg (fun C j => ((C = 0 ∨ C = 23) ∧ j = b) ∨ ((C = 1 ∨ C = 24) ∧ j = 11)) x y) : Fo (fun o => o = 11 ∨ o = 12) x y := hF.mono (fun C j q => by
  rcases q with ⟨h1, h2⟩ | ⟨h1, h2⟩
  · rw [h2]
    rcases hb with h | h
    · rw [h]; exact Or.inl (own_t (j := 11) h1)
    · rw [h]; exact Or.inr (own_t (j := 12) h1)
  · rw [h2]; exact Or.inl (own_s (by omega)))
/-- the copy of the trunk and one merge -/
theorem k_tr1 (hz : 50000 ≤ z) (h : Inv x) (c0 : 0 ≤ c) (c1 : c < 5) (ql : qhl (x.1 27 0) c = true) : Tt ((F_X0_copyFrom z 33 (3 * 0) x).bind fun r8 => F_X6_merge z 0 c 33 11 r8) (fun p => p.1 = (qm3 c (x.1 27 0, 0)).2 ∧ RB (p.2.2 0 33) (p.2.1 23 33) (qen (qm3 c (x.1 27 0, 0)).1 c) ∧ (0 ≤ p.2.1 1 11 0 ∧ p.2.1 1 11 0 ≤ 40) ∧ Fo (fun o => o = 11 ∨ o = 12) x p.2) := by
  refine (k_copyB' (z := z) (b := 33) (b2 := 3 * 0) (by decide) h.1.2.2.2.1).bind ?_
  rintro y ⟨hB, hF⟩
  have hF' : Fg (fun C j => ((C = 0 ∨ C = 23) ∧ j = 33) ∨ ((C = 1 ∨ C = 24) ∧ j = 11)) x y := hF.mono (fun C j q => Or.inl q)
  have e1 : y.1 1 11 = x.1 1 11 := (hF 1 11 (by omega)).1
  refine (k_trial (z := z) hz (b := 33) rfl (Rv_fr (b := 33) rfl (Rv_of h.1) hF') hB (by rw [e1]; exact h.2.2.2.2.2) c0 c1 ql).mono ?_
  rintro p ⟨g1, g2, g3, g4, g5, g6⟩
  exact ⟨g1, g4, g5, fo_tr (Or.inl rfl) (hF'.tr g6)⟩
theorem p_preview (hz : 50000 ≤ z) (h : Inv x) (c : Int) : Pr [sI, sS] (F_X7_preview z 0 c) (F_X8_preview z 0 c) x := by
  have hb := h.1.1.1
  have hcc := hb.2.2.1
  by_cases qc : 0 ≤ c ∧ c < qcc (x.1 27 0)
  · by_cases ql : qhl (x.1 27 0) c = true
    · obtain ⟨⟨v, y⟩, e, hv, hB, hT, hF⟩ := k_tr1 (z := z) hz h qc.1 (by omega) ql
      simp only at hv hB hT hF
      have q27 : y.1 27 0 = x.1 27 0 := (fo_o hF (by omega) (by omega) (by omega) (by omega)).1
      obtain ⟨⟨w1, f1, m1⟩, _, _⟩ := Mq_copy (z := z) hz (Mq_0 (x := y))
      rw [q27] at m1
      obtain ⟨w2, f2, m2⟩ := Mq_merge (z := z) hz m1 h.1.1 qc.1 (by omega) ql
      obtain ⟨_, ⟨w3, f3, m3⟩, _⟩ := Mq_copy (z := z) hz m2
      rw [cp5_b h.2.1 (zr_qen (zr_m3 h.2.1 hb) qc.1 (by omega))] at m3
      refine ⟨.inl v, y, v, w3, ?_, ?_, Inv_trial h hF hT m3, by rw [m3.2.2.2.2.1]; exact Ok.v⟩
      · unfold F_X7_preview
        rw [rc_t h qc, bndXl, rl_t h qc.1 (by omega) ql, bndXl]
        obtain ⟨u, eu, eu2⟩ := bnd_s' e
        rw [eu, sbind, eu2, sbind]
      · unfold F_X8_preview
        rw [sbind, th_w, nC q27 hb, sbind, e_failsT qc, sbind, it0, nH q27 qc.1 (by omega), sbind, e_failst ql, sbind, it0, f1, sbind, f2, sbind, f3, sbind, hv]
    · refine Pr.get h (y := .inr sS) ?_ (b := 0) (t := 2) ?_ (Ok.x rfl (by decide))
      · unfold F_X7_preview
        rw [rc_t h qc, bndXl, rl_f h qc.1 (by omega) (by simpa using ql), bndXr]
      · unfold F_X8_preview
        rw [sbind, th_w, mC h, sbind, e_failsT qc, sbind, it0, mH qc.1 (by omega), sbind, e_failsf (by simpa using ql), sbind, it1, th_th]
  · refine Pr.get h (y := .inr sI) ?_ (b := 0) (t := 1) ?_ (Ok.x rfl (by decide))
    · unfold F_X7_preview
      rw [rc_f h qc, bndXr]
    · unfold F_X8_preview
      rw [sbind, th_w, mC h, sbind, e_failsF qc, sbind, it1, th_th]
end
