/-! The class's merge: changed fields. -/
theorem cn_part {p q : Int → Bool} {N M : Int} (h0 : 0 ≤ N) (h1 : N ≤ M) (h2 : ∀ i : Int, 0 ≤ i → i < N → p i = q i) (h3 : ∀ i : Int, N ≤ i → i < M → p i = false) : cn p M.toNat = cn q N.toNat := by
  rw [cn_ext (p := p) (k := N.toNat) (m := M.toNat) (by omega) (fun i i0 i1 => h3 i (by omega) (by omega))]
  exact cn_congrI h2
theorem k_changedFields (z : Nat) (hz : 50000 ≤ z) {x y : Mm} {c n : Int} {r : Nat → Int} (hb : Wb r) (c0 : 0 ≤ c) (c1 : c < 5) (hw : Wc r c) (hl : qhl r c = true) (hL : RLs x (5 * 0 + c.toNat) c r) (e1 : ∀ j, j % 3 ≠ 0 → y.2 0 j = x.2 0 j) (e2 : ∀ j, j % 3 ≠ 0 → y.1 23 j = x.1 23 j) (n0 : 0 ≤ n) (n1 : n < qct r) : F_X3_changedFields z (5 * 0 + c.toNat) n y = some (qco r c n) := by
  have h60 := hb.2.2.2.1
  have hf := hb.2.1
  obtain ⟨_, hlr, hlv⟩ := hL.2 hl
  obtain ⟨_, hbb, hcc⟩ := hlr n (by omega) (by omega)
  unfold F_X3_changedFields
  rw [k_has z _ (by omega) (by omega), sbind, ib, k_has z _ (by omega) (by omega), sbind, ib, k_countDifferent z _ hz (by omega) (by omega), sbind, e1 _ (by omega), e1 _ (by omega), e2 _ (by omega), e2 _ (by omega), hbb, hcc, decide_eq_true n1, Bool.true_and, Bool.true_and]
  cases q0 : qcp r c 0 n
  · rw [if_pos rfl]
    unfold qco
    rw [cn_none (fun i i0 i1 => by unfold qch; rw [q0]; rfl)]
  · rw [if_neg (by decide)]
    cases q1 : qcp r c 60 n
    · rw [if_pos rfl]
      unfold qco
      rw [cn_none (fun i i0 i1 => by unfold qch; rw [q0, q1]; rfl)]
    · rw [if_neg (by decide)]
      congr 1
      refine cn_part hf.1 hf.2 (fun i i0 i1 => ?_) (fun i i0 i1 => ?_)
      · rw [(hlv n i n0 (by omega) i0 (by omega)).1 q0, (hlv n i n0 (by omega) i0 (by omega)).2 (Or.inl q0)]
        unfold qch
        rw [q0, q1, Bool.true_and, Bool.true_and]
        by_cases e : qov r c n i = qnv r c n i
        · rw [decide_eq_true e, decide_eq_true e.symm]
        · rw [decide_eq_false e, decide_eq_false (fun w => e w.symm)]
      · rw [(hlv n i n0 (by omega) (by omega) i1).1 q0, (hlv n i n0 (by omega) (by omega) i1).2 (Or.inl q0)]
        obtain ⟨w1, w2⟩ := hw.2.1 n i n0 (by omega) i0 i1
        rw [w1, w2]; rfl
section
variable {z : Nat} {x : Mm} {b l : Nat} {c : Int} {r : Nat → Int} {real : Prop} {B : Int} {s : Sp} {y : Mm}
theorem CS.e1 (h : CS x b l real r B s y) (hb3 : b % 3 = 0) : ∀ j, j % 3 ≠ 0 → y.2 0 j = x.2 0 j := by
  obtain ⟨al, vs, a, ps, rfl, _⟩ := h
  intro j hj; exact mk_2j (by omega)
theorem CS.e2 (h : CS x b l real r B s y) (hb3 : b % 3 = 0) : ∀ j, j % 3 ≠ 0 → y.1 23 j = x.1 23 j := by
  obtain ⟨al, vs, a, ps, rfl, _⟩ := h
  intro j hj; exact mk_1v (by omega)
theorem CS.ok (h : CS x b l real r B s y) : MI r B s ∧ Wv s.1 := by
  obtain ⟨al, vs, a, ps, rfl, _, _, h1, h2⟩ := h
  exact ⟨h1, h2⟩
theorem k_joinFields (hz : 50000 ≤ z) (hX : CX x b c r) (h0 : CS x b l real r B s y) (hB : B ≤ 1000) {n : Int} (n0 : 0 ≤ n) (n1 : n < qct r) (q0 : qcp r c 0 n = true) (q1 : qcp r c 60 n = true) : Tt (F_X6_joinFields z 0 c n b l y) (fun p => p.1 = (fo (gFq c n) (qfc r).toNat s).2 - s.2 ∧ CS x b l real r (B + 6) (fo (gFq c n) (qfc r).toNat s) p.2) := by
  obtain ⟨hb3, c0, c1, hb, ht, hw, hl, hN, hH, hL⟩ := hX
  have h60 := hb.2.2.2.1
  have hf := hb.2.1
  have hs2 := h0.ok.1.2.2
  unfold F_X6_joinFields
  refine Tt.bind (P := fun p => p.1 = (fo (gFq c n) (qfc r).toNat s).2 - s.2 ∧ CS x b l real r (B + 6) (fo (gFq c n) (qfc r).toNat s) p.2) ?_ (fun p e => Tt.ret e)
  refine loopU (fun k i (w : Int × Mm) => F_X6_joinFields_6 z 0 c n b l k w.1 i w.2) (qfc r) (fun i w => 0 ≤ i ∧ i ≤ qfc r ∧ w.1 = (fo (gFq c n) i.toNat s).2 - s.2 ∧ CS x b l real r (B + i) (fo (gFq c n) i.toNat s) w.2) _ ?_ ?_ z 0 (0, y) (by omega) (by omega) ⟨by omega, by omega, by show (0 : Int) = s.2 - s.2; omega, h0.w (by omega)⟩
  · rintro k ⟨v, y⟩ i hN' ⟨i0, i1, hv, hS⟩
    refine Tt.of (v := (v, y)) ?_ ?_
    · show (if y.1 6 0 1 ≤ i then _ else _) = _
      obtain ⟨al, vs, a, ps, rfl, _⟩ := hS
      rw [mk_1C (by decide) (by decide) (by decide), hH.2.1, if_pos hN']
    · rw [show i = qfc r by omega] at hv hS
      exact ⟨hv, hS.w (by omega)⟩
  · rintro k ⟨v, y⟩ i hN' ⟨i0, i1, hv, hS⟩
    refine Or.inl ?_
    rw [fo_s i0]
    generalize hs : fo (gFq c n) i.toNat s = t at hv hS
    have hS0 := hS
    obtain ⟨al, vs, a, ps, rfl, hRB, hK, hM, hV⟩ := hS
    simp only at hv
    have hb' := hM.wb hb
    have hM2 := hM.2.2
    obtain ⟨_, hlr, hlv⟩ := hL.2 hl
    have hvb := (hlv n i n0 (by omega) i0 (by omega)).1 q0
    have hvc := (hlv n i n0 (by omega) i0 (by omega)).2 (Or.inl q0)
    show ∃ s', (if (mk x b l al vs a ps).1 6 0 1 ≤ i then _ else _) = _ ∧ _
    rw [mk_1C (by decide) (by decide) (by decide), hH.2.1, if_neg (by omega), ckI_t c0 (by omega), k_valueOf z _ n0 (by omega) i0 (by omega), sbind, ckI_t c0 (by omega), k_valueOf z _ n0 (by omega) i0 (by omega), sbind, k_valueOf z _ n0 (by omega) i0 (by omega), sbind, mk_1v (by omega), mk_1v (by omega), mk_vs, hvb, hvc, hRB.2 n i n0 (by omega) i0 (by omega)]
    unfold gFq
    have hch : qch t.1 c n i = !decide (qov r c n i = qnv r c n i) := by
      rw [hM.1.ch c0 n0 i0]; unfold qch; rw [q0, q1, Bool.true_and, Bool.true_and]
    rw [hch]
    by_cases q : qnv r c n i = qov r c n i
    · rw [if_pos q, decide_eq_true q.symm, if_neg (by decide), ckR_t (by omega) (by omega)]
      exact ⟨(v, _), rfl, by omega, by omega, hv, hS0.w (by omega)⟩
    · rw [if_neg q, decide_eq_false (fun w => q w.symm), if_pos (by decide), ckI_t (by omega) (by omega), mk_1C (by decide) (by decide) (by decide), hH.2.2.2 i i0 hN', k_mergedValue, sbind, k_put z _ n0 (by omega) i0 (by omega), sbind, mk_vs, mk_pvs, ckI_t (by omega) (by omega), mk_1C (by decide) (by decide) (by decide), hH.2.2.2 i i0 hN']
      have cI : ∀ {α : Type} {A : Option α}, ckR (i + 1) A = A := fun {α} {A} => ckR_t (by omega) (by omega)
      unfold oF
      rw [hM.1.ov c0 n0 i0, hM.1.nv c0 n0 i0, hM.1.ru i0 (by omega)]
      have hput : CS x b l real r (B + (i + 1)) (up t.1 (251 + 6 * n + i).toNat (qmv (qru r i) (qov r c n i) (qnv r c n i) (qtv t.1 n i)), t.2) (mk x b l al (up vs (n * 6 + i).toNat (qmv (qru r i) (qov r c n i) (qnv r c n i) (qtv t.1 n i))) a ps) := by
        refine ⟨al, _, a, ps, rfl, hRB.put n0 (by omega) i0 (by omega) hb'.2.2.2.1.2, hK.same hb'.2.2.2.2.2 (fun j hj => up_i (by omega) (by omega) (by omega)), (hM.set (Sm_up (by omega) (by omega)) (qkc_up (by omega) (by omega))).w (by omega), ?_⟩
        intro m g m0 m1 g0 g1
        have e : qfc (up t.1 (251 + 6 * n + i).toNat (qmv (qru r i) (qov r c n i) (qnv r c n i) (qtv t.1 n i))) = qfc t.1 := up_i (by omega) (by omega) (by omega)
        rw [e] at g0
        have hf' := hM.1.fc
        rw [qtv_upv n0 m0 i0 (by omega) (by omega) g1, if_neg (by omega)]
        exact hV m g m0 m1 g0 g1
      by_cases q4 : qru r i = 4
      · rw [if_pos q4]
        by_cases t1 : qtv t.1 n i = qov r c n i
        · rw [if_pos t1, if_neg (fun w => w.2.1 t1), cI]
          exact ⟨(v, _), rfl, by omega, by omega, hv, hput⟩
        · rw [if_neg t1]
          by_cases t2 : qtv t.1 n i = qnv r c n i
          · rw [if_pos t2, if_neg (fun w => w.2.2 t2), cI]
            exact ⟨(v, _), rfl, by omega, by omega, hv, hput⟩
          · rw [if_neg t2, if_pos ⟨q4, t1, t2⟩]
            have e4 : qmv (qru r i) (qov r c n i) (qnv r c n i) (qtv t.1 n i) = qtv t.1 n i := by
              rw [q4]; unfold qmv
              rw [if_neg (by decide), if_neg (by decide), if_neg (by decide), if_neg (by decide), if_pos rfl, if_neg t1]
            rw [e4]
            have hS1 : CS x b l real r (B + i) t (mk x b l al (up vs (n * 6 + i).toNat (qtv t.1 n i)) a ps) := ⟨al, _, a, ps, rfl, hRB.putS n0 (by omega) i0 (by omega), hK, hM, hV⟩
            obtain ⟨y', e, hy'⟩ := hS1.ob (z := z) hb (e := 0) (f := n) (g := i) (h' := qnv r c n i) (i := c) (j := qtk r) rfl
            rw [mk_1C (by decide) (by decide) (by decide), hH.1, e, sbind, ckR_t (by omega) (by omega), cI]
            exact ⟨(v + 1, y'), rfl, by omega, by omega, by show v + 1 = t.2 + 1 - s.2; omega, hy'.w (by omega)⟩
      · rw [if_neg q4, if_neg (fun w => q4 w.1), cI]
        exact ⟨(v, _), rfl, by omega, by omega, hv, hput⟩
theorem k_joinChanged (hz : 50000 ≤ z) (hX : CX x b c r) (h0 : CS x b l real r B s y) (hB : B ≤ 500) : Tt (F_X6_joinChanged z 0 c b l y) (fun p => p.1 = (fo (oC c) (qct r).toNat s).2 - s.2 ∧ CS x b l real r (B + 6 * 60) (fo (oC c) (qct r).toNat s) p.2) := by
  have hX' := hX
  obtain ⟨hb3, c0, c1, hb, ht, hw, hl, hN, hH, hL⟩ := hX
  have h60 := hb.2.2.2.1
  have hf := hb.2.1
  have hs2 := h0.ok.1.2.2
  unfold F_X6_joinChanged
  refine Tt.bind (P := fun p => p.1 = (fo (oC c) (qct r).toNat s).2 - s.2 ∧ CS x b l real r (B + 6 * 60) (fo (oC c) (qct r).toNat s) p.2) ?_ (fun p e => Tt.ret e)
  refine loopU (fun k i (w : Int × Mm) => F_X6_joinChanged_6 z 0 c b l k w.1 i w.2) (qct r) (fun i w => 0 ≤ i ∧ i ≤ qct r ∧ w.1 = (fo (oC c) i.toNat s).2 - s.2 ∧ CS x b l real r (B + 6 * i) (fo (oC c) i.toNat s) w.2) _ ?_ ?_ z 0 (0, y) (by omega) (by omega) ⟨by omega, by omega, by show (0 : Int) = s.2 - s.2; omega, h0.w (by omega)⟩
  · rintro k ⟨v, y⟩ i hN' ⟨i0, i1, hv, hS⟩
    refine Tt.of (v := (v, y)) ?_ ?_
    · show (if y.1 4 0 0 ≤ i then _ else _) = _
      obtain ⟨al, vs, a, ps, rfl, _⟩ := hS
      rw [(RN_mk hN).1, if_pos hN']
    · rw [show i = qct r by omega] at hv hS
      exact ⟨hv, hS.w (by omega)⟩
  · rintro k ⟨v, y⟩ i hN' ⟨i0, i1, hv, hS⟩
    refine Or.inl ?_
    rw [fo_s i0]
    generalize hs : fo (oC c) i.toNat s = t at hv hS
    have hS0 := hS
    have E1 := hS.e1 hb3
    have E2 := hS.e2 hb3
    obtain ⟨al, vs, a, ps, rfl, hRB, hK, hM, hV⟩ := hS
    simp only at hv
    have hb' := hM.wb hb
    have hM2 := hM.2.2
    show ∃ s', (if (mk x b l al vs a ps).1 4 0 0 ≤ i then _ else _) = _ ∧ _
    rw [(RN_mk hN).1, if_neg (by omega), ckI_t c0 (by omega), k_changedFields z hz hb c0 c1 hw hl hL E1 E2 i0 (by omega), sbind]
    unfold oC
    rw [hM.1.co c0 i0]
    by_cases q : qco r c i = 0
    · rw [if_pos q, if_pos q, ckR_t (by omega) (by omega)]
      exact ⟨(v, _), rfl, by omega, by omega, hv, hS0.w (by omega)⟩
    · rw [if_neg q, if_neg q, k_has z _ i0 (by omega), sbind, ib, mk_al, hRB.1 i i0 (by omega), decide_eq_true (show i < qct t.1 by rw [hM.1.ct]; omega), Bool.true_and]
      by_cases h1 : qal t.1 i = false
      · rw [if_pos h1, if_pos h1]
        obtain ⟨y', e, hy'⟩ := hS0.ob (z := z) hb (e := 1) (f := i) (g := -1) (h' := 0) (i := c) (j := qtk r) rfl
        rw [mk_1C (by decide) (by decide) (by decide), hH.1, e, sbind, ckR_t (by omega) (by omega), ckR_t (by omega) (by omega)]
        exact ⟨(v + 1, y'), rfl, by omega, by omega, by show v + 1 = t.2 + 1 - s.2; omega, hy'.w (by omega)⟩
      · rw [if_neg h1, if_neg h1, hM.1.fc]
        have hq : qcp r c 0 i = true ∧ qcp r c 60 i = true := by
          cases q0 : qcp r c 0 i
          · exact absurd (by unfold qco; exact cn_none (fun j j0 j1 => by unfold qch; rw [q0]; rfl)) q
          · cases q1 : qcp r c 60 i
            · exact absurd (by unfold qco; exact cn_none (fun j j0 j1 => by unfold qch; rw [q0, q1]; rfl)) q
            · exact ⟨rfl, rfl⟩
        obtain ⟨⟨v', y'⟩, e, hv', hy'⟩ := k_joinFields (z := z) hz hX' hS0 (by omega) i0 (by omega) hq.1 hq.2
        have hy2 := hy'.ok.1.2.2
        simp only at hv'
        rw [e, sbind, ckR_t (by omega) (by omega), ckR_t (by omega) (by omega)]
        refine ⟨(v + v', y'), rfl, by omega, by omega, ?_, hy'.w (by omega)⟩
        show v + v' = _
        omega
end
