/-! The class's merge: what was removed. -/
section
variable {z : Nat} {x : Mm} {b l : Nat} {c : Int} {r : Nat → Int} {real : Prop} {B : Int} {s : Sp} {y : Mm}
theorem k_below (z : Nat) (hz : 50000 ≤ z) {x : Mm} {j : Nat} {r : Nat → Int} {t : Int} (hN : RN x j r) (hb : Wb r) (t0 : 0 ≤ t) (t1 : t < 60) : Tt (F_X4_atOrBelow z j t x) (fun v => ∀ n : Int, 0 ≤ n → n < 64 → has v n = (decide (n < qct r) && win r n t)) := by
  have h60 := hb.2.2.2.1
  refine (k_atOrBelow z x hz (j := j) t0 (by omega) (by rw [hN.1]; omega) (by rw [hN.1]; omega)).mono (fun v hv n n0 n1 => ?_)
  rw [hv n n0 n1, hN.1]
  by_cases q : n < qct r
  · rw [(hN.2.1 n n0 q).2.2 t t0 (by omega)]
  · rw [decide_eq_false q]; rfl
theorem k_isAsInBase (hz : 50000 ≤ z) (hX : CX x b c r) (h0 : CS x b l real r B s y) {n : Int} (n0 : 0 ≤ n) (n1 : n < qct r) : F_X6_isAsInBase z 0 (3 * (5 * 0 + c.toNat) + 1) n b y = some (b2i (qrm s.1 c n)) := by
  obtain ⟨hb3, c0, c1, hb, ht, hw, hl, hN, hH, hL⟩ := hX
  have h60 := hb.2.2.2.1
  have hf := hb.2.1
  have E1 := h0.e1 hb3
  have E2 := h0.e2 hb3
  obtain ⟨al, vs, a, ps, rfl, hRB, hK, hM, hV⟩ := h0
  have hNy := RN_mk (b := b) (l := l) (al := al) (vs := vs) (a := a) (ps := ps) hN
  obtain ⟨_, hlr, hlv⟩ := hL.2 hl
  have hb' := hM.wb hb
  unfold F_X6_isAsInBase
  obtain ⟨v, e, hv⟩ := k_below z hz hNy hb n0 (by omega)
  rw [e, sbind, mk_al]
  have ect := hM.1.ct
  -- the loop, with its early end
  have hpr : ∀ j : Int, 0 ≤ j → j < 64 → has (al 0 &&& v) j = (decide (j < qct r) && (qal s.1 j && win s.1 j n)) := by
    intro j j0 j1
    rw [has_and, hRB.1 j j0 j1, hv j j0 j1, ect]
    by_cases q : j < qct r
    · rw [decide_eq_true q, hM.1.wi n0 hb ht q, Bool.true_and, Bool.true_and, Bool.true_and]
    · rw [decide_eq_false q]; rfl
  have key : ∀ (t : Nat) (k : Nat) (i : Int), 0 ≤ i → i + (t : Int) = qct r → (t : Int) < (k : Int) → qall (fun j => !(qal s.1 j && win s.1 j n) || qab s.1 c j) i.toNat = true → bndE (fun r => r) (F_X6_isAsInBase_18 z 0 (3 * (5 * 0 + c.toNat) + 1) n b (al 0 &&& v) (mk x b l al vs a ps) k i) (fun _ => some (1 : Int)) = some (b2i (qrm s.1 c n)) := by
    intro t
    induction t with
    | zero =>
      intro k i i0 h1 h2 hq
      obtain ⟨k, rfl⟩ : ∃ q, k = q + 1 := ⟨k - 1, by omega⟩
      have e : F_X6_isAsInBase_18 z 0 (3 * (5 * 0 + c.toNat) + 1) n b (al 0 &&& v) (mk x b l al vs a ps) (k + 1) i = some (.inl ()) := by
        show (if (mk x b l al vs a ps).1 4 0 0 ≤ i then _ else _) = _
        rw [hNy.1, if_pos (by omega)]
      rw [e]
      unfold qrm
      rw [ect, show qct r = i by omega, hq]; rfl
    | succ t ih =>
      intro k i i0 h1 h2 hq
      obtain ⟨k, rfl⟩ : ∃ q, k = q + 1 := ⟨k - 1, by omega⟩
      have ih' := ih k (i + 1) (by omega) (by omega) (by omega)
      rw [qall_s i0, hq, Bool.true_and] at ih'
      show bndE (fun r => r) (if (mk x b l al vs a ps).1 4 0 0 ≤ i then _ else _) _ = _
      have cI : ∀ {α : Type} {A : Option α}, ckR (i + 1) A = A := fun {α} {A} => ckR_t (by omega) (by omega)
      rw [hNy.1, if_neg (by omega), k_contains z _ i0 (by omega), sbind, ib, hpr i i0 (by omega), decide_eq_true (show i < qct r by omega), Bool.true_and, k_has z _ i0 (by omega), sbind, ib, E1 _ (by omega), (hlr i i0 (by omega)).2.1, decide_eq_true (show i < qct r by omega), Bool.true_and, k_countDifferent z _ hz i0 (by omega), sbind, mk_vs, E2 _ (by omega), cI]
      have hbad : ∀ (hx : (!(qal s.1 i && win s.1 i n) || qab s.1 c i) = false), qrm s.1 c n = false := by
        intro hx
        cases hh : qrm s.1 c n
        · rfl
        · unfold qrm at hh
          rw [qall_iffI (by omega)] at hh
          have := hh i i0 (by omega)
          rw [hx] at this; cases this
      cases hp : (qal s.1 i && win s.1 i n)
      · rw [if_pos rfl]
        exact ih' (by rw [hp]; rfl)
      · rw [if_neg (by decide)]
        cases q0 : qcp r c 0 i
        · rw [if_pos rfl, hbad (by rw [hp]; unfold qab; rw [hM.1.cp c0 (by omega) i0, q0]; rfl)]; rfl
        · rw [if_neg (by decide)]
          have hcd : (cn (fun f => !decide (vs (i * 6 + f).toNat = x.1 23 (3 * (5 * 0 + c.toNat) + 1) (i * 6 + f).toNat)) (6 : Int).toNat ≤ 0) ↔ qab s.1 c i = true := by
            have hle := cn_le (fun f => !decide (vs (i * 6 + f).toNat = x.1 23 (3 * (5 * 0 + c.toNat) + 1) (i * 6 + f).toNat)) (6 : Int).toNat
            unfold qab
            rw [hM.1.cp c0 (by omega) i0, q0, Bool.true_and, hM.1.fc, qall_iffI hf.1]
            constructor
            · intro h f f0 f1
              by_cases hx : vs (i * 6 + f).toNat = x.1 23 (3 * (5 * 0 + c.toNat) + 1) (i * 6 + f).toNat
              · rw [hRB.2 i f i0 (by omega) f0 (by omega), (hlv i f i0 (by omega) f0 (by omega)).1 q0] at hx
                rw [hM.1.ov c0 i0 f0]
                exact decide_eq_true hx
              · have := cn_one (p := fun f => !decide (vs (i * 6 + f).toNat = x.1 23 (3 * (5 * 0 + c.toNat) + 1) (i * 6 + f).toNat)) (k := (6 : Int).toNat) f0 (by omega) (by show (!decide (_ = _)) = true; rw [decide_eq_false hx]; rfl)
                omega
            · intro h
              rw [cn_none]
              · omega
              · intro f f0 f1
                rw [hRB.2 i f i0 (by omega) f0 (by omega), (hlv i f i0 (by omega) f0 (by omega)).1 q0]
                by_cases hx : f < qfc r
                · have := h f f0 hx
                  rw [hM.1.ov c0 i0 f0] at this
                  rw [this]; rfl
                · rw [hV i f i0 (by omega) (by rw [hM.1.fc]; omega) f1, (hw.2.1 i f i0 (by omega) (by omega) f1).1]; rfl
          cases qa : qab s.1 c i
          · rw [if_neg (fun w => by rw [hcd, qa] at w; cases w), hbad (by rw [hp, qa]; rfl)]; rfl
          · rw [if_pos (hcd.mpr qa)]
            exact ih' (by rw [hp, qa]; rfl)
  exact key (qct r).toNat z 0 (by omega) (by omega) (by omega) rfl
theorem k_joinRemoved (hz : 50000 ≤ z) (hX : CX x b c r) (h0 : CS x b l real r B s y) (hB : B ≤ 1000) : Tt (F_X6_joinRemoved z 0 c b l y) (fun p => p.1 = (fo (gR c) (qct r).toNat s).2 - s.2 ∧ CS x b l real r (B + 60) (fo (gR c) (qct r).toNat s) p.2) := by
  have hX' := hX
  obtain ⟨hb3, c0, c1, hb, ht, hw, hl, hN, hH, hL⟩ := hX
  have h60 := hb.2.2.2.1
  have hf := hb.2.1
  have hs2 := h0.ok.1.2.2
  obtain ⟨_, hlr, hlv⟩ := hL.2 hl
  have e0 : fo (gR c) (1 : Int).toNat s = s := by
    show gR c 0 s = s
    unfold gR
    rw [decide_eq_false (by omega), Bool.false_and, if_neg (by decide)]
  unfold F_X6_joinRemoved
  rw [ckI_t c0 (by omega)]
  refine Tt.bind (P := fun p => p.1 = (fo (gR c) (qct r).toNat s).2 - s.2 ∧ CS x b l real r (B + 60) (fo (gR c) (qct r).toNat s) p.2) ?_ (fun p e => Tt.ret e)
  have hmask : ∀ n : Int, 0 ≤ n → n < 64 → has ((y.2 0 (3 * (5 * 0 + c.toNat) + 1) 0) &&& ((y.2 0 (3 * (5 * 0 + c.toNat) + 2) 0) ^^^ (BitVec.ofInt 64 (-1)))) n = (decide (n < qct r) && (qcp r c 0 n && !qcp r c 60 n)) := by
    intro n n0 n1
    rw [has_and, has_not n0 n1, h0.e1 hb3 _ (by omega), h0.e1 hb3 _ (by omega), (hlr n n0 n1).2.1, (hlr n n0 n1).2.2]
    by_cases q : n < qct r
    · rw [decide_eq_true q, Bool.true_and, Bool.true_and, Bool.true_and]
    · rw [decide_eq_false q]; rfl
  generalize (y.2 0 (3 * (5 * 0 + c.toNat) + 1) 0) &&& ((y.2 0 (3 * (5 * 0 + c.toNat) + 2) 0) ^^^ (BitVec.ofInt 64 (-1))) = mask at hmask
  refine loopU (fun k i (w : Int × Mm) => F_X6_joinRemoved_37 z 0 c b l (5 * 0 + c.toNat) mask k w.1 i w.2) (qct r) (fun i w => 1 ≤ i ∧ i ≤ qct r ∧ w.1 = (fo (gR c) i.toNat s).2 - s.2 ∧ CS x b l real r (B + i) (fo (gR c) i.toNat s) w.2) _ ?_ ?_ z 1 (0, y) (by omega) (by omega) ⟨by omega, by omega, by rw [e0]; show (0 : Int) = s.2 - s.2; omega, by rw [e0]; exact h0.w (by omega)⟩
  · rintro k ⟨v, y⟩ i hN' ⟨i0, i1, hv, hS⟩
    refine Tt.of (v := (v, y)) ?_ ?_
    · show (if y.1 4 0 0 ≤ i then _ else _) = _
      obtain ⟨al, vs, a, ps, rfl, _⟩ := hS
      rw [(RN_mk hN).1, if_pos hN']
    · rw [show i = qct r by omega] at hv hS
      exact ⟨hv, hS.w (by omega)⟩
  · rintro k ⟨v, y⟩ i hN' ⟨i0, i1, hv, hS⟩
    refine Or.inl ?_
    rw [fo_s (by omega)]
    generalize hs : fo (gR c) i.toNat s = t at hv hS
    have hS0 := hS
    have hAB := k_isAsInBase (z := z) hz hX' hS (n := i) (by omega) hN'
    have E1 := hS.e1 hb3
    obtain ⟨al, vs, a, ps, rfl, hRB, hK, hM, hV⟩ := hS
    simp only at hv
    have hb' := hM.wb hb
    have hM2 := hM.2.2
    have hNy := RN_mk (b := b) (l := l) (al := al) (vs := vs) (a := a) (ps := ps) hN
    obtain ⟨hp, hlb, _⟩ := hN.2.1 i (by omega) hN'
    have hpp := ht.2.2 i i0 hN'
    have cI : ∀ {α : Type} {A : Option α}, ckR (i + 1) A = A := fun {α} {A} => ckR_t (by omega) (by omega)
    show ∃ s', (if (mk x b l al vs a ps).1 4 0 0 ≤ i then _ else _) = _ ∧ _
    rw [hNy.1, if_neg (by omega), k_contains z _ (by omega) (by omega), sbind, ib, hmask i (by omega) (by omega), decide_eq_true hN', Bool.true_and, ckI_t (by omega) (by omega), mk_1C (by decide) (by decide) (by decide), hp, k_has z _ (by omega) (by omega), sbind, ib, E1 _ (by omega), (hlr (qpa r i) (by omega) (by omega)).2.2, decide_eq_true (show qpa r i < qct r by omega), Bool.true_and, cI]
    unfold gR
    have htp : (decide (1 ≤ i) && qtp t.1 c i) = ((qcp r c 0 i && !qcp r c 60 i) && qcp r c 60 (qpa r i)) := by
      rw [decide_eq_true i0, Bool.true_and]
      unfold qtp
      rw [hM.1.pa (by omega) (by omega), hM.1.cp c0 (by omega) (by omega), hM.1.cp c0 (by omega) (by omega), hM.1.cp c0 (by omega) (by omega)]
    rw [htp]
    cases q1 : (qcp r c 0 i && !qcp r c 60 i)
    · rw [if_pos rfl, Bool.false_and, if_neg (by decide)]
      exact ⟨(v, _), rfl, by omega, by omega, hv, hS0.w (by omega)⟩
    · rw [if_neg (by decide), Bool.true_and]
      cases q2 : qcp r c 60 (qpa r i)
      · rw [if_pos rfl, if_neg (by decide)]
        exact ⟨(v, _), rfl, by omega, by omega, hv, hS0.w (by omega)⟩
      · rw [if_neg (by decide), if_pos rfl, k_has z _ (by omega) (by omega), sbind, ib, mk_al, hRB.1 i (by omega) (by omega), decide_eq_true (show i < qct t.1 by rw [hM.1.ct]; omega), Bool.true_and, hAB, sbind, ib]
        unfold oR
        cases q3 : qal t.1 i
        · rw [if_pos rfl, if_pos rfl]
          exact ⟨(v, _), rfl, by omega, by omega, hv, hS0.w (by omega)⟩
        · rw [if_neg (show ¬ (true = false) by decide), if_neg (show ¬ (true = false) by decide)]
          cases q4 : qrm t.1 c i
          · rw [if_pos rfl, if_neg (by decide)]
            obtain ⟨y', e, hy'⟩ := hS0.ob (z := z) hb (e := 4) (f := i) (g := -1) (h' := 0) (i := c) (j := qtk r) rfl
            rw [mk_1C (by decide) (by decide) (by decide), hH.1, e, sbind, ckR_t (by omega) (by omega), cI]
            exact ⟨(v + 1, y'), rfl, by omega, by omega, by show v + 1 = t.2 + 1 - s.2; omega, hy'.w (by omega)⟩
          · rw [if_neg (by decide), if_pos rfl]
            obtain ⟨w, e, hwv⟩ := k_below z hz hNy hb (t := i) (by omega) (by omega)
            rw [e, sbind, sbind, wL_pl, mk_al, mk_pal, cI]
            refine ⟨(v, mk x b l (up al 0 (al 0 &&& (w ^^^ BitVec.ofInt 64 (-1)))) vs a ps), rfl, by omega, by omega, hv, _, _, a, ps, rfl, ?_, ?_, ?_, ?_⟩
            · refine hRB.kill (by omega) hb'.2.2.2.1.2 (fun m m0 m1 => ?_)
              rw [hwv m m0 m1, hM.1.ct]
              by_cases q : m < qct r
              · rw [hM.1.wi (by omega) hb ht q]
              · rw [decide_eq_false q]; rfl
            · exact hK.same hb'.2.2.2.2.2 (fun j hj => qkl_k (by omega) hb'.2.2.2.1.2 hj)
            · exact (hM.set (Sm_qki (by omega) hb'.2.2.2.1.2) (qkc_qki (by omega))).w (by omega)
            · intro m f m0 m1 f0 f1
              rw [show qfc (qkl t.1 i) = qfc t.1 from (Sm_qki (by omega) hb'.2.2.2.1.2).fc] at f0
              have hf' := hb'.2.1
              rw [qtv_qkl hb'.2.2.2.1.2 (by omega) m0 (by omega)]
              exact hV m f m0 m1 f0 f1
/-- the class's merge is the model's -/
theorem k_merge (hz : 50000 ≤ z) (hX : CX x b c r) (hRB : RB (x.2 0 b) (x.1 23 b) r) (hK : KC real (x.1 1 l) (x.1 24 l) r) (hV : Wv r) : Tt (F_X6_merge z 0 c b l x) (fun p => p.1 = (qm3 c (r, 0)).2 ∧ CS x b l real r 1000 (qm3 c (r, 0)) p.2) := by
  have h0 : CS x b l real r 0 (r, 0) x := ⟨_, _, _, _, mk_id, hRB, hK, ⟨Sm.rf, hX.2.2.2.1.2.2.2.2, by omega, by omega⟩, hV⟩
  have hbb := hX.2.2.2.1.2.2.2.1
  unfold F_X6_merge
  refine (k_joinAdded hz hX h0 (by omega)).bind ?_
  rintro ⟨v1, x1⟩ ⟨e1, h1⟩
  simp only at e1
  refine (k_joinChanged hz hX h1 (by omega)).bind ?_
  rintro ⟨v2, x2⟩ ⟨e2, h2⟩
  simp only at e2
  have m1 := h1.ok.1.2.2
  have m2 := h2.ok.1.2.2
  show Tt (ckR (v1 + v2) _) _
  rw [ckR_t (by omega) (by omega)]
  refine (k_joinRemoved hz hX h2 (by omega)).bind ?_
  rintro ⟨v3, x3⟩ ⟨e3, h3⟩
  simp only at e3
  have m3 := h3.ok.1.2.2
  show Tt (ckR (v1 + v2 + v3) _) _
  rw [ckR_t (by omega) (by omega)]
  refine Tt.ret ⟨?_, ?_⟩
  · show v1 + v2 + v3 = (fo (gR c) (qct r).toNat (fo (oC c) (qct r).toNat (fo (gAq c) (qct r).toNat (r, 0)))).2
    omega
  · exact h3.w (by omega)
end
