def qei (r : Nat → Int) (c i : Int) : Nat → Int := fun k => if 866 + 900 * c ≤ (k : Int) ∧ (k : Int) < 866 + 900 * c + i then 0 else up (up (up r (611 + 3 * c).toNat (-1)) (611 + 3 * c + 1).toNat 0) (611 + 3 * c + 2).toNat 0 k
theorem qei_s {r : Nat → Int} {c i : Int} (h0 : 0 ≤ i) (c0 : 0 ≤ c) : up (qei r c i) (866 + 900 * c + 0 + i).toNat 0 = qei r c (i + 1) := by
  funext k
  unfold qei
  by_cases h : k = (866 + 900 * c + 0 + i).toNat
  · rw [h, up_s, if_pos (by omega)]
  · rw [up_n h]
    by_cases h5 : 866 + 900 * c ≤ (k : Int) ∧ (k : Int) < 866 + 900 * c + i
    · rw [if_pos h5, if_pos (by omega)]
    · rw [if_neg h5, if_neg (by omega)]
theorem e_endLease (z : Nat) (hz : 50000 ≤ z) (c : Int) (x : Mm) (c0 : 0 ≤ c) (c1 : c < 5) : F_X8_endLease z 0 c x = some (pj x 27 0 (qen (x.1 27 0) c)) := by
  unfold F_X8_endLease
  have e0 : up (up (up (x.1 27 0) (611 + 3 * c).toNat (-1)) (611 + 3 * c + 1).toNat 0) (611 + 3 * c + 2).toNat 0 = qei (x.1 27 0) c 0 := by
    funext k; unfold qei; rw [if_neg (by omega)]
  rw [ckR_t (by omega) (by omega), ckR_t (by omega) (by omega), ckI_t (by omega) (by omega), sbind, ckR_t (by omega) (by omega), ckR_t (by omega) (by omega), ckR_t (by omega) (by omega), ckI_t (by omega) (by omega), sbind, ckR_t (by omega) (by omega), ckR_t (by omega) (by omega), ckR_t (by omega) (by omega), ckI_t (by omega) (by omega), sbind, wI_pj, wI_pj, wI_pj, pj_s, pj_pj, pj_s, pj_pj, e0]
  refine Tt.eq ?_
  refine Tt.bind (P := fun v => v = pj x 27 0 (qen (x.1 27 0) c)) ?_ (fun a e => Tt.ret e)
  refine loopU (fun k i (w : Mm) => F_X8_endLease_45 z 0 c k i w) 900 (fun i w => 0 ≤ i ∧ i ≤ 900 ∧ w = pj x 27 0 (qei (x.1 27 0) c i)) _ ?_ ?_ z _ _ (by omega) (by omega) ⟨by omega, by omega, rfl⟩
  · rintro k w i hN ⟨i0, i1, rfl⟩
    refine Tt.of (v := pj x 27 0 (qei (x.1 27 0) c i)) (if_pos hN) ?_
    rw [show i = 900 by omega]; rfl
  · rintro k w i hN ⟨i0, i1, rfl⟩
    refine Or.inl ⟨pj x 27 0 (qei (x.1 27 0) c (i + 1)), ?_, by omega, by omega, rfl⟩
    show (if (900 : Int) ≤ i then _ else _) = _
    rw [if_neg (by omega), e_partOf z c 0 i _ c0 c1 (by omega) i0 (by omega), sbind, ckI_t (by omega) (by omega), sbind, wI_pj, pj_s, pj_pj, ckR_t (by omega) (by omega), qei_s i0 c0]
section
variable {z : Nat} {x : Mm} {m : Nat → Int} {r0 : Nat → Int} {B c n : Int} {s : Sp}
theorem e_kill (hz : 50000 ≤ z) (hb : Wb s.1) (ht : Wt s.1) (n0 : 0 ≤ n) (n1 : n < qct s.1) : F_X8_kill z 0 n (mS x m s) = some (mS x m (qkl s.1 n, s.2)) := by
  have hf := hb.2.2.2.1
  unfold F_X8_kill
  refine Tt.eq ?_
  refine Tt.bind (P := fun v => v = mS x m (qkl s.1 n, s.2)) ?_ (fun a e => Tt.ret e)
  refine loopU (fun k i (w : Mm) => F_X8_kill_2 z 0 n k i w) (qct s.1) (fun i w => n ≤ i ∧ i ≤ qct s.1 ∧ w = mS x m (qki s.1 n i, s.2)) _ ?_ ?_ z _ _ (by omega) (by omega) ⟨by omega, by omega, by rw [qki_0]⟩
  all_goals
    rintro k w i hN ⟨i0, i1, rfl⟩
    have hS : Sm s.1 (qki s.1 n i) := Sm_qki n0 (by omega)
    have e3 : (mS x m (qki s.1 n i, s.2)).1 27 0 (3 : Int).toNat = qct s.1 := by rw [mS_r]; exact hS.ct
  · refine Tt.of (v := mS x m (qki s.1 n i, s.2)) ?_ ?_
    · show ckI 3 5366 _ = _
      rw [ckI_t (by omega) (by omega), e3, if_pos hN]
    · rw [show i = qct s.1 by omega]; rfl
  · refine Or.inl ⟨mS x m (qki s.1 n (i + 1), s.2), ?_, by omega, by omega, rfl⟩
    show ckI 3 5366 _ = _
    have hb' : Wb (qki s.1 n i) := hS.bb hb (by rw [qkc_qki n0]; exact hb.2.2.2.2)
    rw [ckI_t (by omega) (by omega), e3, if_neg (by omega), e_isWithin z hz i n _ (by rw [mS_r]; exact hS.tt hb ht) (by rw [mS_r]; exact hb') n0 (by rw [mS_r, hS.ct]; omega), sbind, ib, mS_r, hS.wi n0 hb ht (by omega), qki_s n0 i0]
    by_cases hw : win s.1 i n = false
    · rw [if_pos hw, ckR_t (by omega) (by omega), if_neg (by rw [hw]; decide)]
    · rw [if_neg hw, if_pos (by simpa using hw), ckR_t (by omega) (by omega), ckI_t (by omega) (by omega), sbind, wI_pj, mS_r, mS_pr, ckR_t (by omega) (by omega)]
theorem e_mergeRemoved (hz : 50000 ≤ z) (hb : Wb r0) (ht : Wt r0) (h : MI r0 B s) (hB : B < 90000) (c0 : 0 ≤ c) (c1 : c < 5) (n0 : 0 ≤ n) (n1 : n < qct r0) : F_X8_mergeRemoved z 0 c n (mS x m s) = some (mS x m (oR c n s)) := by
  have hb' := h.wb hb
  have ht' := h.wt hb ht
  have hd := h.2.2
  have hf := hb'.2.2.2.1
  have ec := h.1.ct
  unfold F_X8_mergeRemoved oR
  rw [e_isAlive z n _ n0 (by omega), sbind, ib, mS_r]
  by_cases hal : qal s.1 n = false
  · rw [if_pos hal, if_pos hal]
  · rw [if_neg hal, if_neg hal]
    have key : F_X8_mergeRemoved_14 z 0 c n (mS x m s) z 1 n = some (b2i (qrm s.1 c n)) := by
      have hall : qall (fun j => decide (j < n) || (!(qal s.1 j && win s.1 j n) || qab s.1 c j)) (qct s.1).toNat = qrm s.1 c n := by
        unfold qrm
        rw [Bool.eq_iff_iff, qall_iffI (by omega), qall_iffI (by omega)]
        constructor
        · intro w i i0 i1
          have := w i i0 i1
          by_cases q : i < n
          · rw [win_lt q]; simp
          · simpa [q] using this
        · intro w i i0 i1
          have := w i i0 i1
          show (decide (i < n) || (!(qal s.1 i && win s.1 i n) || qab s.1 c i)) = true
          rw [this, Bool.or_true]
      rw [← hall]
      refine Tt.eq ?_
      refine loopU (fun k i (w : Int) => F_X8_mergeRemoved_14 z 0 c n (mS x m s) k w i) (qct s.1) (fun i w => n ≤ i ∧ i ≤ qct s.1 ∧ w = b2i (qall (fun j => decide (j < n) || (!(qal s.1 j && win s.1 j n) || qab s.1 c j)) i.toNat)) _ ?_ ?_ z _ _ (by omega) (by omega) ⟨by omega, by omega, ?_⟩
      · rintro k w i hN ⟨i0, i1, rfl⟩
        refine Tt.of (v := b2i (qall (fun j => decide (j < n) || (!(qal s.1 j && win s.1 j n) || qab s.1 c j)) i.toNat)) ?_ ?_
        · show ckI 3 5366 _ = _
          rw [ckI_t (by omega) (by omega), mS_r]; exact if_pos hN
        · rw [show i = qct s.1 by omega]
      · rintro k w i hN ⟨i0, i1, rfl⟩
        refine Or.inl ⟨b2i (qall (fun j => decide (j < n) || (!(qal s.1 j && win s.1 j n) || qab s.1 c j)) (i + 1).toNat), ?_, by omega, by omega, rfl⟩
        show ckI 3 5366 _ = _
        have cI : ∀ {α : Type} {A : Option α}, ckR (i + 1) A = A := fun {α} {A} => ckR_t (by omega) (by omega)
        rw [ckI_t (by omega) (by omega), mS_r, if_neg (show ¬ (s.1 (3 : Int).toNat ≤ i) from by show ¬ (qct s.1 ≤ i); omega), ib, e_isAlive z i _ (by omega) (by omega), sbind, ib, e_isWithin z hz i n _ (by rw [mS_r]; exact ht') (by rw [mS_r]; exact hb') n0 (by rw [mS_r]; omega), sbind, ib, e_isAsInBase z hz c i _ (by rw [mS_r]; exact hb') c0 c1 (by omega) (by omega), sbind, ib, mS_r, cI, cI, qall_s (by omega), decide_eq_false (show ¬ i < n by omega), Bool.false_or]
        cases qall (fun j => decide (j < n) || (!(qal s.1 j && win s.1 j n) || qab s.1 c j)) i.toNat
        · rfl
        · cases qal s.1 i
          · rfl
          · cases win s.1 i n
            · rfl
            · cases qab s.1 c i <;> rfl
      · have e : qall (fun j => decide (j < n) || (!(qal s.1 j && win s.1 j n) || qab s.1 c j)) n.toNat = true := by
          rw [qall_iffI n0]; intro i i0 i1; simp [i1]
        rw [e]; rfl
    rw [key, sbind, ib]
    by_cases hq : qrm s.1 c n = true
    · rw [if_neg (by rw [hq]; decide), if_pos hq, e_kill hz hb' ht' n0 (by omega)]; rfl
    · rw [if_pos (by simpa using hq), if_neg hq, e_object z hz _ _ _ _ _ x m s hb' hd.1 (by omega)]; rfl
end
theorem e_merge (z : Nat) (hz : 50000 ≤ z) (c : Int) (x : Mm) (hb : Wb (x.1 27 0)) (ht : Wt (x.1 27 0)) (c0 : 0 ≤ c) (c1 : c < 5) (ha : qcp (x.1 27 0) c 120 0 = false) : F_X8_merge z 0 c x = some ((qm3 c (x.1 27 0, 0)).2, mS x (x.1 8 0) (qen (qm3 c (x.1 27 0, 0)).1 c, (qm3 c (x.1 27 0, 0)).2)) := by
  have hf := hb.2.2.2.1
  have e0 : wI x 8 0 14 0 = mS x (x.1 8 0) (x.1 27 0, 0) := by
    rw [wI_pj]; unfold mS; rw [pj_id]
  unfold F_X8_merge
  rw [sbind, e0]
  generalize hr0 : x.1 27 0 = r0 at *
  generalize x.1 8 0 = m at *
  have hM0 : MI r0 0 (r0, 0) := ⟨Sm.rf, hb.2.2.2.2, by omega, by omega⟩
  have hA : F_X8_merge_7 z 0 c z 0 (mS x m (r0, 0)) = some (mS x m (fo (gAq c) (qct r0).toNat (r0, 0))) := by
    refine Tt.eq ?_
    refine loopU (fun k i (w : Mm) => F_X8_merge_7 z 0 c k i w) (qct r0) (fun i w => 0 ≤ i ∧ i ≤ qct r0 ∧ w = mS x m (fo (gAq c) i.toNat (r0, 0))) _ ?_ ?_ z _ _ (by omega) (by omega) ⟨by omega, by omega, rfl⟩
    all_goals
      rintro k w i hN ⟨i0, i1, rfl⟩
      have hM := hM0.kfA (c := c) hb i.toNat (by omega)
      generalize hs : fo (gAq c) i.toNat (r0, 0) = s at hM
      have e3 : (mS x m s).1 27 0 (3 : Int).toNat = qct r0 := by rw [mS_r]; exact hM.1.ct
    · refine Tt.of (v := mS x m s) ?_ ?_
      · show ckI 3 5366 _ = _
        rw [ckI_t (by omega) (by omega), e3, if_pos hN]
      · rw [← hs, show i = qct r0 by omega]
    · refine Or.inl ⟨mS x m (fo (gAq c) (i + 1).toNat (r0, 0)), ?_, by omega, by omega, rfl⟩
      show ckI 3 5366 _ = _
      rw [fo_s i0, hs, ckI_t (by omega) (by omega), e3, if_neg (by omega), e_is z c 120 i _ c0 c1 (by omega) i0 (by omega), sbind, ib, e_is z c 60 i _ c0 c1 (by omega) i0 (by omega), sbind, ib, mS_r]
      unfold gAq
      by_cases q1 : qcp s.1 c 120 i = true
      · have n0 : 1 ≤ i := by
          by_cases q : i = 0
          · subst q; rw [hM.1.cp c0 (by omega) (by omega), ha] at q1; cases q1
          · omega
        rw [if_neg (by rw [q1]; decide), q1]
        by_cases q2 : qcp s.1 c 60 i = true
        · rw [if_neg (by rw [q2]; decide), q2, e_mergeAdded hz hb ht hM (by omega) c0 c1 n0 (by omega), sbind, ckR_t (by omega) (by omega)]; rfl
        · rw [if_pos (by simpa using q2), show qcp s.1 c 60 i = false by simpa using q2, ckR_t (by omega) (by omega)]; rfl
      · rw [if_pos (by simpa using q1), show qcp s.1 c 120 i = false by simpa using q1, ckR_t (by omega) (by omega)]; rfl
  rw [hA, sbind]
  have hM1 := hM0.kfA (c := c) hb (qct r0).toNat (by omega)
  generalize hs1 : fo (gAq c) (qct r0).toNat (r0, 0) = s1 at hM1
  have hC : F_X8_merge_53 z 0 c z 0 (mS x m s1) = some (mS x m (fo (oC c) (qct r0).toNat s1)) := by
    refine Tt.eq ?_
    refine loopU (fun k i (w : Mm) => F_X8_merge_53 z 0 c k i w) (qct r0) (fun i w => 0 ≤ i ∧ i ≤ qct r0 ∧ w = mS x m (fo (oC c) i.toNat s1)) _ ?_ ?_ z _ _ (by omega) (by omega) ⟨by omega, by omega, rfl⟩
    all_goals
      rintro k w i hN ⟨i0, i1, rfl⟩
      have hM := hM1.kfC (c := c) hb i.toNat (by omega)
      generalize hs : fo (oC c) i.toNat s1 = s at hM
      have e3 : (mS x m s).1 27 0 (3 : Int).toNat = qct r0 := by rw [mS_r]; exact hM.1.ct
    · refine Tt.of (v := mS x m s) ?_ ?_
      · show ckI 3 5366 _ = _
        rw [ckI_t (by omega) (by omega), e3, if_pos hN]
      · rw [← hs, show i = qct r0 by omega]
    · refine Or.inl ⟨mS x m (fo (oC c) (i + 1).toNat s1), ?_, by omega, by omega, rfl⟩
      show ckI 3 5366 _ = _
      rw [fo_s i0, hs, ckI_t (by omega) (by omega), e3, if_neg (by omega), e_mergeChanged hz hb hM (by omega) c0 c1 i0 (by omega), sbind, ckR_t (by omega) (by omega)]
  rw [hC, sbind]
  have hM2 := hM1.kfC (c := c) hb (qct r0).toNat (by omega)
  generalize hs2 : fo (oC c) (qct r0).toNat s1 = s2 at hM2
  have hR : F_X8_merge_77 z 0 c z 1 (mS x m s2) = some (mS x m (fo (gR c) (qct r0).toNat s2)) := by
    refine Tt.eq ?_
    refine loopU (fun k i (w : Mm) => F_X8_merge_77 z 0 c k i w) (qct r0) (fun i w => 1 ≤ i ∧ i ≤ qct r0 ∧ w = mS x m (fo (gR c) i.toNat s2)) _ ?_ ?_ z _ _ (by omega) (by omega) ⟨by omega, by omega, rfl⟩
    all_goals
      rintro k w i hN ⟨i0, i1, rfl⟩
      have hM := hM2.kfR (c := c) hb i.toNat (by omega)
      generalize hs : fo (gR c) i.toNat s2 = s at hM
      have e3 : (mS x m s).1 27 0 (3 : Int).toNat = qct r0 := by rw [mS_r]; exact hM.1.ct
    · refine Tt.of (v := mS x m s) ?_ ?_
      · show ckI 3 5366 _ = _
        rw [ckI_t (by omega) (by omega), e3, if_pos hN]
      · rw [← hs, show i = qct r0 by omega]
    · refine Or.inl ⟨mS x m (fo (gR c) (i + 1).toNat s2), ?_, by omega, by omega, rfl⟩
      show ckI 3 5366 _ = _
      rw [fo_s (by omega), hs, ckI_t (by omega) (by omega), e3, if_neg (by omega), e_isTop z c i _ (by rw [mS_r]; exact hM.wb hb) (by rw [mS_r]; exact hM.wt hb ht) c0 c1 i0 (by rw [mS_r, hM.1.ct]; omega), sbind, ib, mS_r]
      unfold gR
      rw [decide_eq_true i0, Bool.true_and]
      by_cases q2 : qtp s.1 c i = true
      · rw [if_neg (by rw [q2]; decide), if_pos q2, e_mergeRemoved hz hb ht hM (by omega) c0 c1 (by omega) (by omega), sbind, ckR_t (by omega) (by omega)]
      · rw [if_pos (by simpa using q2), if_neg q2, ckR_t (by omega) (by omega)]
  rw [hR, sbind, e_endLease z hz c _ c0 c1, sbind, mS_r, mS_pr]
  have e4 : qm3 c (r0, 0) = fo (gR c) (qct r0).toNat s2 := by
    unfold qm3; rw [hs1, hs2]
  rw [e4, mS_14]
