theorem qai_s {r : Nat → Int} {c n i : Int} (h0 : 0 ≤ i) (h1 : 0 ≤ n) (v : Int) (hv : v = r (866 + 900 * c + 540 + (6 * n + i)).toNat) : up (qai r c n i) (251 + 6 * n + i).toNat v = qai r c n (i + 1) := by
  funext k
  unfold qai
  by_cases h : k = (251 + 6 * n + i).toNat
  · rw [h, up_s, if_pos (by omega), hv]
    congr 1; omega
  · rw [up_n h]
    by_cases h5 : 251 + 6 * n ≤ (k : Int) ∧ (k : Int) < 251 + 6 * n + i
    · rw [if_pos h5, if_pos (by omega)]
    · rw [if_neg h5, if_neg (by omega)]
theorem qai_0 {r : Nat → Int} {c n : Int} : up r (191 + n).toNat 1 = qai r c n 0 := by
  funext k
  unfold qai
  rw [if_neg (by omega)]
theorem qki_0 {r : Nat → Int} {n : Int} : qki r n n = r := by
  funext k
  unfold qki
  rw [if_neg (by omega)]
theorem qki_s {r : Nat → Int} {n i : Int} (h0 : 0 ≤ n) (h1 : n ≤ i) : qki r n (i + 1) = if win r i n = true then up (qki r n i) (191 + i).toNat 0 else qki r n i := by
  funext k
  by_cases hw : win r i n = true
  · rw [if_pos hw]
    by_cases h : k = (191 + i).toNat
    · rw [h, up_s]; unfold qki
      have e : (((191 + i).toNat : Nat) : Int) - 191 = i := by omega
      rw [if_pos ⟨by omega, by omega, by rw [e]; exact hw⟩]
    · rw [up_n h]; unfold qki
      by_cases q : 191 + n ≤ (k : Int) ∧ (k : Int) < 191 + i ∧ win r ((k : Int) - 191) n = true
      · rw [if_pos q, if_pos ⟨by omega, by omega, q.2.2⟩]
      · rw [if_neg q, if_neg (fun w => q ⟨w.1, by omega, w.2.2⟩)]
  · rw [if_neg hw]; unfold qki
    by_cases q : 191 + n ≤ (k : Int) ∧ (k : Int) < 191 + i ∧ win r ((k : Int) - 191) n = true
    · rw [if_pos q, if_pos ⟨by omega, by omega, q.2.2⟩]
    · rw [if_neg q, if_neg ?_]
      rintro ⟨w1, w2, w3⟩
      have : (k : Int) - 191 = i := by
        by_cases e : (k : Int) < 191 + i
        · exact absurd ⟨w1, e, w3⟩ q
        · omega
      rw [this] at w3; exact hw w3
section
variable {z : Nat} {x : Mm} {m : Nat → Int} {r0 : Nat → Int} {B c n : Int} {s : Sp}
theorem e_mergeAdded (hz : 50000 ≤ z) (hb : Wb r0) (ht : Wt r0) (h : MI r0 B s) (hB : B < 100000) (c0 : 0 ≤ c) (c1 : c < 5) (n0 : 1 ≤ n) (n1 : n < qct r0) : F_X8_mergeAdded z 0 c n (mS x m s) = some (mS x m (oA c n s)) := by
  have hb' := h.wb hb
  have ht' := h.wt hb ht
  have h60 := hb.2.2.2.1
  have e1 := h.1.ct
  have hp := ht'.2.2 n n0 (by omega)
  have hd := h.2.2
  have hc := h.1.ct
  unfold F_X8_mergeAdded oA
  rw [ckR_t (by omega) (by omega), ckI_t (by omega) (by omega), mS_r]
  have e2 := e_isAlive z (qpa s.1 n) (mS x m s) (by omega) (by omega)
  rw [mS_r] at e2
  rw [show F_X8_isAlive z 0 (s.1 (11 + n).toNat) (mS x m s) = _ from e2, sbind, ib]
  by_cases hal : qal s.1 (qpa s.1 n) = false
  · rw [if_pos hal, if_pos hal, e_object z hz _ _ _ _ _ x m s hb' hd.1 (by omega)]; rfl
  · rw [if_neg hal, if_neg hal, ckR_t (by omega) (by omega), ckI_t (by omega) (by omega), ckR_t (by omega) (by omega), ckI_t (by omega) (by omega)]
    have e3 := e_childWith z hz (qpa s.1 n) (qlb s.1 n) (mS x m s) (by rw [mS_r]; exact hb')
    rw [mS_r] at e3
    rw [show F_X8_childWith z 0 (s.1 (11 + n).toNat) (s.1 (71 + n).toNat) (mS x m s) = _ from e3, sbind]
    by_cases hcw : qcw s.1 (qpa s.1 n) (qlb s.1 n) = -1
    · rw [if_pos hcw, if_pos hcw, ckR_t (by omega) (by omega), ckI_t (by omega) (by omega), sbind, wI_pj, mS_r, mS_pr, qai_0 (c := c)]
      refine Tt.eq ?_
      refine Tt.bind (P := fun v => v = mS x m (qaa s.1 c n, s.2)) ?_ (fun a e => Tt.ret e)
      refine loopU (fun k i (w : Mm) => F_X8_mergeAdded_79 z 0 c n k i w) 6 (fun i w => 0 ≤ i ∧ i ≤ 6 ∧ w = mS x m (qai s.1 c n i, s.2)) _ ?_ ?_ z _ _ (by omega) (by omega) ⟨by omega, by omega, rfl⟩
      · rintro k w i hN ⟨i0, i1, rfl⟩
        refine Tt.of (v := mS x m (qai s.1 c n i, s.2)) (if_pos hN) ?_
        rw [show i = 6 by omega]; rfl
      · rintro k w i hN ⟨i0, i1, rfl⟩
        refine Or.inl ⟨mS x m (qai s.1 c n (i + 1), s.2), ?_, by omega, by omega, rfl⟩
        show (if (6 : Int) ≤ i then _ else _) = _
        rw [if_neg (by omega), ckR_t (by omega) (by omega), ckR_t (by omega) (by omega), ckR_t (by omega) (by omega), e_fresh z c n i _ c0 c1 (by omega) (by omega) i0 (by omega), sbind, ckI_t (by omega) (by omega), sbind, wI_pj, mS_r, mS_pr, ckR_t (by omega) (by omega)]
        have e4 : qnv (qai s.1 c n i) c n i = s.1 (866 + 900 * c + 540 + (6 * n + i)).toNat := by
          unfold qnv qai
          rw [if_neg (by omega)]
          exact up_i (by omega) (by omega) (by omega)
        rw [qai_s i0 (by omega) _ e4]
    · rw [if_neg hcw, if_neg hcw, e_object z hz _ _ _ _ _ x m s hb' hd.1 (by omega)]; rfl
theorem e_mergeField (hz : 50000 ≤ z) (hb : Wb r0) (h : MI r0 B s) (hB : B < 100000) (c0 : 0 ≤ c) (c1 : c < 5) (n0 : 0 ≤ n) (n1 : n < 60) {f : Int} (f0 : 0 ≤ f) (f1 : f < 6) : F_X8_mergeField z 0 c n f (mS x m s) = some (mS x m (oF c n f s)) := by
  have hb' := h.wb hb
  have hd := h.2.2
  unfold F_X8_mergeField oF
  rw [e_old z c n f _ c0 c1 n0 n1 f0 f1, sbind, e_fresh z c n f _ c0 c1 n0 n1 f0 f1, sbind, e_value z n f _ n0 n1 f0 f1, sbind, ckR_t (by omega) (by omega), ckR_t (by omega) (by omega), ckR_t (by omega) (by omega), ckR_t (by omega) (by omega), ckI_t (by omega) (by omega), mS_r, wI_pj, wI_pj, wI_pj, wI_pj, wI_pj, mS_r, mS_pr, mS_pr, mS_pr, mS_pr, mS_pr]
  show (if qru s.1 f = 0 then _ else _) = _
  have ki : ∀ {α : Type} {A : Option α}, ckI (251 + 6 * n + f) 5366 A = A := fun {α} {A} => ckI_t (by omega) (by omega)
  by_cases q0 : qru s.1 f = 0
  · rw [if_pos q0, ki, if_neg (show ¬ (qru s.1 f = 4 ∧ _) from fun w => by omega)]; simp only [qmv, if_pos q0]; rfl
  · rw [if_neg q0]
    show (if qru s.1 f = 1 then _ else _) = _
    by_cases q1 : qru s.1 f = 1
    · rw [if_pos q1, ki, if_neg (show ¬ (qru s.1 f = 4 ∧ _) from fun w => by omega)]; simp only [qmv, if_neg q0, if_pos q1]; rfl
    · rw [if_neg q1]
      show (if qru s.1 f = 2 then _ else _) = _
      by_cases q2 : qru s.1 f = 2
      · rw [if_pos q2, ki, if_neg (show ¬ (qru s.1 f = 4 ∧ _) from fun w => by omega)]; simp only [qmv, if_neg q0, if_neg q1, if_pos q2]; rfl
      · rw [if_neg q2]
        show (if qru s.1 f = 3 then _ else _) = _
        by_cases q3 : qru s.1 f = 3
        · rw [if_pos q3, ki, if_neg (show ¬ (qru s.1 f = 4 ∧ _) from fun w => by omega)]; simp only [qmv, if_neg q0, if_neg q1, if_neg q2, if_pos q3]; rfl
        · rw [if_neg q3]
          show (if qru s.1 f = 4 then _ else _) = _
          by_cases q4 : qru s.1 f = 4
          · rw [if_pos q4]
            by_cases t1 : qtv s.1 n f = qov s.1 c n f
            · rw [if_pos t1, ki, if_neg (fun w => w.2.1 t1)]; simp only [qmv, if_neg q0, if_neg q1, if_neg q2, if_neg q3, if_pos q4, if_pos t1]; rfl
            · rw [if_neg t1]
              by_cases t2 : qtv s.1 n f = qnv s.1 c n f
              · rw [if_pos t2, if_neg (fun w => w.2.2 t2)]
                simp only [qmv, if_neg q0, if_neg q1, if_neg q2, if_neg q3, if_pos q4, if_neg t1]
                have e : up s.1 (251 + 6 * n + f).toNat (qtv s.1 n f) = s.1 := by
                  funext k; unfold up; by_cases hk : k = (251 + 6 * n + f).toNat
                  · rw [if_pos hk, hk]; rfl
                  · rw [if_neg hk]
                rw [e]
              · rw [if_neg t2, if_pos ⟨q4, t1, t2⟩, e_object z hz _ _ _ _ _ x m s hb' hd.1 (by omega)]; rfl
          · rw [if_neg q4, ki, if_neg (fun w => q4 w.1)]; simp only [qmv, if_neg q0, if_neg q1, if_neg q2, if_neg q3, if_neg q4]; rfl
theorem e_mergeChanged (hz : 50000 ≤ z) (hb : Wb r0) (h : MI r0 B s) (hB : B < 90000) (c0 : 0 ≤ c) (c1 : c < 5) (n0 : 0 ≤ n) (n1 : n < 60) : F_X8_mergeChanged z 0 c n (mS x m s) = some (mS x m (oC c n s)) := by
  have hb' := h.wb hb
  have hd := h.2.2
  have hf := hb'.2.1
  unfold F_X8_mergeChanged oC
  rw [e_changesOf z hz c n _ (by rw [mS_r]; exact hb') c0 c1 n0 n1, sbind, mS_r]
  by_cases q : qco s.1 c n = 0
  · rw [if_pos q, if_pos q]
  · rw [if_neg q, if_neg q, e_isAlive z n _ n0 n1, sbind, ib, mS_r]
    by_cases hal : qal s.1 n = false
    · rw [if_pos hal, if_pos hal, e_object z hz _ _ _ _ _ x m s hb' hd.1 (by omega)]; rfl
    · rw [if_neg hal, if_neg hal]
      refine Tt.eq ?_
      refine Tt.bind (P := fun v => v = mS x m (fo (gFq c n) (qfc s.1).toNat s)) ?_ (fun a e => Tt.ret e)
      refine loopU (fun k i (w : Mm) => F_X8_mergeChanged_30 z 0 c n k i w) (qfc s.1) (fun i w => 0 ≤ i ∧ i ≤ qfc s.1 ∧ w = mS x m (fo (gFq c n) i.toNat s)) _ ?_ ?_ z _ _ (by omega) (by omega) ⟨by omega, by omega, rfl⟩
      all_goals
        rintro k w i hN ⟨i0, i1, rfl⟩
        have hM := h.kfF (c := c) (n := n) hb n0 n1 i.toNat (by omega)
        have e1 : (mS x m (fo (gFq c n) i.toNat s)).1 27 0 (1 : Int).toNat = qfc s.1 := by
          rw [mS_r]; show qfc (fo (gFq c n) i.toNat s).1 = _
          rw [hM.1.fc, h.1.fc]
      · refine Tt.of (v := mS x m (fo (gFq c n) i.toNat s)) ?_ ?_
        · show ckI 1 5366 _ = _
          rw [ckI_t (by omega) (by omega), e1, if_pos hN]
        · rw [show i = qfc s.1 by omega]
      · refine Or.inl ⟨mS x m (fo (gFq c n) (i + 1).toNat s), ?_, by omega, by omega, rfl⟩
        show ckI 1 5366 _ = _
        rw [ckI_t (by omega) (by omega), e1, if_neg (by omega), e_isChanged z c n i _ c0 c1 n0 n1 i0 (by omega), sbind, ib, mS_r, fo_s i0]
        show _ = F_X8_mergeChanged_30 z 0 c n k (i + 1) (mS x m (if qch (fo (gFq c n) i.toNat s).1 c n i = true then _ else _))
        by_cases qc : qch (fo (gFq c n) i.toNat s).1 c n i = false
        · rw [if_pos qc, ckR_t (by omega) (by omega), if_neg (by rw [qc]; decide)]
        · rw [if_neg qc, if_pos (by simpa using qc), e_mergeField hz hb hM (by omega) c0 c1 n0 n1 i0 (by omega), sbind, ckR_t (by omega) (by omega)]
end
