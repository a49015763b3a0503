/-! The class's merge. -/
theorem RN_mk {x : Mm} {b l : Nat} {al : Nat → BitVec 64} {vs a ps : Nat → Int} {j : Nat} {r : Nat → Int} (h : RN x j r) : RN (mk x b l al vs a ps) j r := by
  unfold RN
  rw [mk_1C (by decide) (by decide) (by decide), mk_1C (by decide) (by decide) (by decide), mk_1C (by decide) (by decide) (by decide), mk_2C (by decide), mk_2C (by decide)]
  exact h
theorem k_mergedValue (z : Nat) (x : Mm) (rule b c t : Int) : F_X7_mergedValue z rule b c t x = some (qmv rule b c t) := by
  unfold F_X7_mergedValue qmv
  by_cases q0 : rule = 0
  · rw [if_pos q0, if_pos q0]
  · rw [if_neg q0, if_neg q0]
    by_cases q1 : rule = 1
    · rw [if_pos q1, if_pos q1]
    · rw [if_neg q1, if_neg q1]
      by_cases q2 : rule = 2
      · rw [if_pos q2, if_pos q2]
      · rw [if_neg q2, if_neg q2]
        by_cases q3 : rule = 3
        · rw [if_pos q3, if_pos q3]
        · rw [if_neg q3, if_neg q3]
          by_cases q4 : rule = 4
          · rw [if_pos q4, if_pos q4]; by_cases h : t = b
            · rw [if_pos h, if_pos h]
            · rw [if_neg h, if_neg h]
          · rw [if_neg q4, if_neg q4]
/-- where a merge of client c goes on: the class's memory x, the model's row r -/
def CX (x : Mm) (b : Nat) (c : Int) (r : Nat → Int) : Prop := b % 3 = 0 ∧ 0 ≤ c ∧ c < 5 ∧ Wb r ∧ Wt r ∧ Wc r c ∧ qhl r c = true ∧ RN x 0 r ∧ RH x 0 r ∧ RLs x (5 * 0 + c.toNat) c r
/-- the merge's state in class and model -/
def CS (x : Mm) (b l : Nat) (real : Prop) (r : Nat → Int) (B : Int) (s : Sp) (y : Mm) : Prop := ∃ al vs a ps, y = mk x b l al vs a ps ∧ RB al vs s.1 ∧ KC real a ps s.1 ∧ MI r B s ∧ Wv s.1
section
variable {z : Nat} {x : Mm} {b l : Nat} {c : Int} {r : Nat → Int} {real : Prop} {B : Int} {s : Sp} {y : Mm}
theorem CS.ob (hb : Wb r) (h : CS x b l real r B s y) {e f g h' i j : Int} (hi : j = qtk r) : Tt (F_X1_add z l e f g h' i j y) (fun y' => CS x b l real r (B + 1) (qob s.1 e f g h' i, s.2 + 1) y') := by
  obtain ⟨al, vs, a, ps, rfl, hB, hK, hM, hV⟩ := h
  have hb' := hM.wb hb
  refine (k_add z hb' hK (by rw [hi, hM.1.tk])).mono ?_
  rintro y' ⟨a', ps', rfl, hK'⟩
  exact ⟨al, vs, a', ps', rfl, hB.obs (So_qob hb') hb'.2.2.2.1.2, hK', hM.ob hb, hV.So hb' (So_qob hb')⟩
theorem CS.w {C : Int} (h : CS x b l real r B s y) (q : B ≤ C) : CS x b l real r C s y := by
  obtain ⟨al, vs, a, ps, rfl, hB, hK, hM, hV⟩ := h
  exact ⟨al, vs, a, ps, rfl, hB, hK, hM.w q, hV⟩
theorem k_joinAdded (hz : 50000 ≤ z) (hX : CX x b c r) (h0 : CS x b l real r B s y) (hB : B ≤ 1000) : Tt (F_X6_joinAdded z 0 c b l y) (fun p => p.1 = (fo (gAq c) (qct r).toNat s).2 - s.2 ∧ CS x b l real r (B + 60) (fo (gAq c) (qct r).toNat s) p.2) := by
  obtain ⟨hb3, c0, c1, hb, ht, hw, hl, hN, hH, hL⟩ := hX
  have h60 := hb.2.2.2.1
  unfold F_X6_joinAdded
  rw [ckI_t c0 (by omega)]
  refine Tt.bind (P := fun p => p.1 = (fo (gAq c) (qct r).toNat s).2 - s.2 ∧ CS x b l real r (B + 60) (fo (gAq c) (qct r).toNat s) p.2) ?_ (fun p e => Tt.ret e)
  refine loopU (fun k i (w : Int × Mm) => F_X6_joinAdded_14 z 0 c b l (5 * 0 + c.toNat) k w.1 i w.2) (qct r) (fun i w => 1 ≤ i ∧ i ≤ qct r ∧ w.1 = (fo (gAq c) i.toNat s).2 - s.2 ∧ CS x b l real r (B + i) (fo (gAq c) i.toNat s) w.2) _ ?_ ?_ z 1 (0, y) (by omega) (by omega) ⟨by omega, by omega, ?_, ?_⟩
  · rintro k ⟨v, y⟩ i hN' ⟨i0, i1, hv, hS⟩
    refine Tt.of (v := (v, y)) ?_ ?_
    · show (if y.1 4 0 0 ≤ i then _ else _) = _
      obtain ⟨al, vs, a, ps, rfl, _⟩ := hS
      rw [(RN_mk hN).1, if_pos hN']
    · rw [show i = qct r by omega] at hv hS
      exact ⟨hv, hS.w (by omega)⟩
  · rintro k ⟨v, y⟩ i hN' ⟨i0, i1, hv, hS⟩
    refine Or.inl ?_
    rw [fo_s (by omega)]
    generalize hs : fo (gAq c) i.toNat s = t at hv hS
    have hS0 := hS
    obtain ⟨al, vs, a, ps, rfl, hRB, hK, hM, hV⟩ := hS
    simp only at hv
    have hb' := hM.wb hb
    obtain ⟨hp, hlb, _⟩ := hN.2.1 i (by omega) hN'
    have hpp := ht.2.2 i i0 hN'
    show ∃ s', (if (mk x b l al vs a ps).1 4 0 0 ≤ i then _ else _) = _ ∧ _
    have hNy := RN_mk (b := b) (l := l) (al := al) (vs := vs) (a := a) (ps := ps) hN
    obtain ⟨_, hlr, hlv⟩ := hL.2 hl
    obtain ⟨ha, _, hcc⟩ := hlr i (by omega) (by omega)
    rw [hNy.1, if_neg (by omega), k_contains z _ (by omega) (by omega), sbind, ib, has_and, mk_2C (by decide), mk_2j (by omega), ha, hcc, decide_eq_true hN', Bool.true_and, Bool.true_and, ← hM.1.cp c0 (by omega) (by omega), ← hM.1.cp c0 (by omega) (by omega)]
    unfold gAq
    by_cases q : (qcp t.1 c 120 i && qcp t.1 c 60 i) = true
    · have q1 : qcp t.1 c 120 i = true := by
        cases h : qcp t.1 c 120 i
        · rw [h] at q; cases q
        · rfl
      rw [q, if_neg (by decide), if_pos rfl, ckI_t (by omega) (by omega), mk_1C (by decide) (by decide) (by decide), hp, k_has z _ (by omega) (by omega), sbind, ib, mk_al, hRB.1 _ (by omega) (by omega), decide_eq_true (show qpa r i < qct t.1 by rw [hM.1.ct]; omega), Bool.true_and]
      unfold oA
      rw [hM.1.pa (by omega) (by omega), hM.1.lb (by omega) (by omega)]
      by_cases h1 : qal t.1 (qpa r i) = false
      · rw [if_pos h1, if_pos h1]
        obtain ⟨y', e, hy'⟩ := hS0.ob (z := z) hb (e := 2) (f := i) (g := -1) (h' := 0) (i := c) (j := qtk r) rfl
        rw [mk_1C (by decide) (by decide) (by decide), hH.1, e, sbind, ckR_t (by have := hM.2.2; have := h0; obtain ⟨_, _, _, _, _, _, _, q', _⟩ := h0; have := q'.2.2; omega) (by have := hM.2.2; obtain ⟨_, _, _, _, _, _, _, q', _⟩ := h0; have := q'.2.2; omega), ckR_t (by omega) (by omega)]
        exact ⟨(v + 1, y'), rfl, by omega, by omega, by show v + 1 = t.2 + 1 - s.2; omega, hy'.w (by omega)⟩
      · rw [if_neg h1, if_neg h1, ckI_t (by omega) (by omega), ckI_t (by omega) (by omega), mk_1C (by decide) (by decide) (by decide), hlb, k_childWithR z hz _ hNy hb hM.1 (by intro n n0 n1; rw [hRB.1 n n0 n1, hM.1.ct]), sbind]
        by_cases h2 : qcw t.1 (qpa r i) (qlb r i) = -1
        · rw [if_pos h2, if_pos h2, k_bit z _ (by omega) (by omega), sbind, sbind, wL_pl, mk_al, mk_pal, k_takeFields z _ (by omega) (by omega), sbind, mk_1v (by omega), mk_vs, mk_pvs, ckR_t (by omega) (by omega)]
          refine ⟨(v, mk x b l (up al 0 (al 0 ||| bt i)) (cpy (x.1 23 (3 * (5 * 0 + c.toNat) + 2)) (i * 6).toNat vs (i * 6).toNat (6 : Int).toNat) a ps), rfl, by omega, by omega, hv, _, _, a, ps, rfl, ?_, ?_, ?_, ?_⟩
          · refine hRB.add (by omega) (by rw [hM.1.ct]; omega) (by rw [hM.1.ct]; omega) (fun f f0 f1 => ?_)
            rw [(hlv i f (by omega) (by omega) f0 f1).2 (Or.inr (by rw [← hM.1.cp c0 (by omega) (by omega)]; exact q1)), hM.1.nv c0 (by omega) f0]
          · exact hK.same hb'.2.2.2.2.2 (fun j hj => qaa_k (by omega) (by omega) hj)
          · exact (hM.set (Sm_qaa (by omega) (by omega)) (qkc_qaa (by omega) (by omega))).w (by omega)
          · intro m f m0 m1 f0 f1
            rw [show qfc (qaa t.1 c i) = qfc t.1 from (Sm_qaa (by omega) (by omega)).fc] at f0
            have hf := hb'.2.1
            rw [qtv_qaa (by omega) m0 m1 (by omega) (by omega) f1]
            by_cases e : m = i
            · rw [if_pos e, hM.1.nv c0 (by omega) (by omega)]
              rw [hM.1.fc] at f0
              exact (hw.2.1 i f (by omega) (by omega) f0 f1).2
            · rw [if_neg e]; exact hV m f m0 m1 f0 f1
        · rw [if_neg h2, if_neg h2]
          obtain ⟨y', e, hy'⟩ := hS0.ob (z := z) hb (e := 3) (f := i) (g := -1) (h' := 0) (i := c) (j := qtk r) rfl
          rw [mk_1C (by decide) (by decide) (by decide), hH.1, e, sbind, ckR_t (by have := hM.2.2; obtain ⟨_, _, _, _, _, _, _, q', _⟩ := h0; have := q'.2.2; omega) (by have := hM.2.2; obtain ⟨_, _, _, _, _, _, _, q', _⟩ := h0; have := q'.2.2; omega), ckR_t (by omega) (by omega)]
          exact ⟨(v + 1, y'), rfl, by omega, by omega, by show v + 1 = t.2 + 1 - s.2; omega, hy'.w (by omega)⟩
    · rw [show (qcp t.1 c 120 i && qcp t.1 c 60 i) = false by simpa using q, if_pos rfl, if_neg (by decide), ckR_t (by omega) (by omega)]
      exact ⟨(v, _), rfl, by omega, by omega, hv, hS0.w (by omega)⟩
  · show (0 : Int) = (fo (gAq c) (1 : Int).toNat s).2 - s.2
    have e : fo (gAq c) (1 : Int).toNat s = s := by
      show gAq c 0 s = s
      obtain ⟨_, _, _, _, _, _, _, hM, _⟩ := h0
      unfold gAq
      rw [hM.1.cp c0 (by omega) (by omega), hw.1, if_neg (by simp)]
    rw [e]; omega
  · have e : fo (gAq c) (1 : Int).toNat s = s := by
      show gAq c 0 s = s
      obtain ⟨_, _, _, _, _, _, _, hM, _⟩ := h0
      unfold gAq
      rw [hM.1.cp c0 (by omega) (by omega), hw.1, if_neg (by simp)]
    rw [e]; exact h0.w (by omega)
end
