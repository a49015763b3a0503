/-! Calls that count. -/
section
variable {z : Nat} {x : Mm}
theorem c_loop {α : Type} (G : Nat → Int → α → Option α) (N i0 : Int) (p : Int → Bool) (f : Int → α) (s0 : α) (z : Nat) (hi : 0 ≤ i0) (hz : N - i0 < (z : Int)) (hz0 : 0 < z) (h0 : s0 = f i0) (hend : ∀ k i, i0 ≤ i → N ≤ i → G (k + 1) i (f i) = some (f i)) (hstep : ∀ k i, i0 ≤ i → i < N → G (k + 1) i (f i) = G k (i + 1) (f (i + 1))) (hle : i0 ≤ N) : G z i0 s0 = some (f N) := by
  refine Tt.eq ?_
  refine loopU (fun k i (s : α) => G k i s) N (fun i s => i0 ≤ i ∧ i ≤ N ∧ s = f i) _ ?_ ?_ z i0 s0 hz hz0 ⟨by omega, hle, h0⟩
  · rintro k s i hN ⟨a0, a1, rfl⟩
    refine Tt.of (hend k i a0 hN) ?_
    rw [show i = N by omega]
  · rintro k s i hN ⟨a0, a1, rfl⟩
    exact Or.inl ⟨f (i + 1), hstep k i a0 hN, by omega, by omega, rfl⟩
def qcc' (r : Nat → Int) (n : Int) : Int → Bool := fun k => qal r k && decide (qpa r k = n)
theorem e_childrenOf (hz : 50000 ≤ z) {y : Mm} (hb : Wb (y.1 27 0)) (ht : Wt (y.1 27 0)) {n : Int} (n0 : 0 ≤ n) : F_X8_childrenOf z 0 n y = some (cn (qcc' (y.1 27 0) n) (qct (y.1 27 0)).toNat) := by
  have h60 := hb.2.2.2.1
  unfold F_X8_childrenOf
  rw [c_loop (fun k i (s : Int) => F_X8_childrenOf_4 z 0 n y k s i) (qct (y.1 27 0)) 1 (qcc' (y.1 27 0) n) (fun i => cn (qcc' (y.1 27 0) n) i.toNat) 0 z (by omega) (by omega) (by omega) ?_ ?_ ?_ (by omega), sbind]
  · have e : qcc' (y.1 27 0) n ((0 : Nat) : Int) = false := by
      unfold qcc'
      rw [decide_eq_false (show ¬ qpa (y.1 27 0) ((0 : Nat) : Int) = n from by rw [show ((0 : Nat) : Int) = 0 from rfl, ht.1]; omega), Bool.and_false]
    show (0 : Int) = 0 + b2i (qcc' (y.1 27 0) n ((0 : Nat) : Int))
    rw [e]; rfl
  · intro k i a0 a1
    show ckI 3 5366 _ = _
    rw [ckI_t (by omega) (by omega)]; exact if_pos a1
  · intro k i a0 a1
    have hc := cn_leI (qcc' (y.1 27 0) n) i (by omega)
    show ckI 3 5366 _ = _
    rw [ckI_t (by omega) (by omega), if_neg (show ¬ (y.1 27 0 (3 : Int).toNat ≤ i) from by show ¬ (qct (y.1 27 0) ≤ i); omega), e_isAlive z i y (by omega) (by omega), sbind, ib, ckR_t (by omega) (by omega), ckR_t (by omega) (by omega), ckR_t (by omega) (by omega), ckI_t (by omega) (by omega), ckR_t (by omega) (by omega), ckR_t (by omega) (by omega)]
    show _ = F_X8_childrenOf_4 z 0 n y k (cn (qcc' (y.1 27 0) n) (i + 1).toNat) (i + 1)
    rw [cn_s (by omega)]
    unfold qcc'
    cases qal (y.1 27 0) i
    · rfl
    · rw [if_neg (by decide)]
      by_cases q : qpa (y.1 27 0) i = n
      · rw [if_pos (show y.1 27 0 (11 + i).toNat = n from q), decide_eq_true q]; rfl
      · rw [if_neg (show ¬ y.1 27 0 (11 + i).toNat = n from q), decide_eq_false q]; rfl
theorem k_countChildren (hz : 50000 ≤ z) {r : Nat → Int} {al : BitVec 64} {n : Int} (hN : RN x 0 r) (hb : Wb r) (hal : ∀ m : Int, 0 ≤ m → m < 64 → has al m = (decide (m < qct r) && qal r m)) : F_X4_countChildren z 0 al n x = some (cn (qcc' r n) (qct r).toNat) := by
  have h60 := hb.2.2.2.1
  unfold F_X4_countChildren
  rw [c_loop (fun k i (s : Int) => F_X4_countChildren_6 z 0 al n x k s i) (qct r) 0 (qcc' r n) (fun i => cn (qcc' r n) i.toNat) 0 z (by omega) (by omega) (by omega) rfl ?_ ?_ (by omega), sbind]
  · intro k i a0 a1
    show (if x.1 4 0 0 ≤ i then _ else _) = _
    rw [hN.1, if_pos a1]
  · intro k i a0 a1
    have hc := cn_leI (qcc' r n) i (by omega)
    show (if x.1 4 0 0 ≤ i then _ else _) = _
    rw [hN.1, if_neg (by omega), ckI_t a0 (by omega), (hN.2.1 i a0 a1).1, k_contains z x a0 (by omega), sbind, ib, hal i a0 (by omega), decide_eq_true a1, Bool.true_and, ckR_t (by omega) (by omega), ckR_t (by omega) (by omega), ckR_t (by omega) (by omega)]
    show _ = F_X4_countChildren_6 z 0 al n x k (cn (qcc' r n) (i + 1).toNat) (i + 1)
    rw [cn_s a0]
    unfold qcc'
    by_cases q : qpa r i = n
    · rw [if_pos q, decide_eq_true q, Bool.and_true]
      cases qal r i
      · rw [if_pos rfl]; simp [b2i]
      · rfl
    · rw [if_neg q, decide_eq_false q, Bool.and_false]; simp [b2i]
theorem hal' (h : Inv x) : ∀ m : Int, 0 ≤ m → m < 64 → has (x.2 0 (3 * 0) 0) m = (decide (m < qct (x.1 27 0)) && qal (x.1 27 0) m) := h.1.2.2.2.1.1
theorem m_childrenOf (hz : 50000 ≤ z) (h : Inv x) {n t : Int} (n0 : 0 ≤ n) : F_X8_childrenOf z 0 n (th x t) = some (cn (qcc' (x.1 27 0) n) (qct (x.1 27 0)).toNat) := by
  have := e_childrenOf (z := z) hz (y := th x t) (by rw [th_C (by decide)]; exact h.1.1.1) (by rw [th_C (by decide)]; exact h.1.1.2.1) n0
  rw [th_C (by decide)] at this; exact this
theorem p_childCount (hz : 50000 ≤ z) (h : Inv x) (n : Int) : Pr [sI] (F_X7_childCount z 0 n) (F_X8_childCount z 0 n) x := by
  by_cases qn : 0 ≤ n ∧ n < qct (x.1 27 0)
  · refine Pr.get h (y := .inl (cn (qcc' (x.1 27 0) n) (qct (x.1 27 0)).toNat)) ?_ (b := cn (qcc' (x.1 27 0) n) (qct (x.1 27 0)).toNat) (t := 0) ?_ Ok.v
    · unfold F_X7_childCount
      rw [rn_t h qn, bndXl, k_countChildren hz h.1.2.2.1 h.1.1.1 (hal' h), sbind]
    · unfold F_X8_childCount
      rw [sbind, th_w, mN h, sbind, e_failsT qn, sbind, it0, m_childrenOf hz h qn.1, sbind]
  · refine Pr.get h (y := .inr sI) ?_ (b := 0) (t := 1) ?_ (Ok.x rfl (by decide))
    · unfold F_X7_childCount
      rw [rn_f h qn, bndXr]
    · unfold F_X8_childCount
      rw [sbind, th_w, mN h, sbind, e_failsF qn, sbind, it1, th_th]
theorem p_find (hz : 50000 ≤ z) (h : Inv x) (n l : Int) : Pr [sI, sN] (F_X7_find z 0 n l) (F_X8_find z 0 n l) x := by
  by_cases qn : 0 ≤ n ∧ n < qct (x.1 27 0)
  · have e7 := k_childWithR z hz x (p := n) (l := l) h.1.2.2.1 h.1.1.1 Sm.rf (hal' h)
    have e8 := e_childWith z hz n l (th x 0) (by rw [th_C (by decide)]; exact h.1.1.1)
    rw [th_C (by decide)] at e8
    by_cases q : qcw (x.1 27 0) n l = -1
    · refine Pr.get h (y := .inr sN) ?_ (b := 0) (t := 2) ?_ (Ok.x rfl (by decide))
      · unfold F_X7_find
        rw [rn_t h qn, bndXl, e7, sbind, if_pos q]
      · unfold F_X8_find F_X8_find_34
        rw [sbind, th_w, mN h, sbind, e_failsT qn, sbind, it0, e8, sbind, if_pos q, e_fails0, sbind, it1, th_th]
    · refine Pr.get h (y := .inl (qcw (x.1 27 0) n l)) ?_ (b := qcw (x.1 27 0) n l) (t := 0) ?_ Ok.v
      · unfold F_X7_find
        rw [rn_t h qn, bndXl, e7, sbind, if_neg q]
      · unfold F_X8_find F_X8_find_34
        rw [sbind, th_w, mN h, sbind, e_failsT qn, sbind, it0, e8, sbind, if_neg q, e_fails1, sbind, it0, e8, sbind]
  · refine Pr.get h (y := .inr sI) ?_ (b := 0) (t := 1) ?_ (Ok.x rfl (by decide))
    · unfold F_X7_find
      rw [rn_f h qn, bndXr]
    · unfold F_X8_find
      rw [sbind, th_w, mN h, sbind, e_failsF qn, sbind, it1, th_th]
/-- the alive nodes at and below a node -/
def qsz (r : Nat → Int) (n : Int) : Int := cn (fun k => qal r k && win r k n) (qct r).toNat
theorem cn_low {p : Int → Bool} {i : Int} (h : ∀ j, 0 ≤ j → j < i → p j = false) : cn p i.toNat = 0 := cn_none (N := i) (fun j j0 j1 => h j j0 j1)
theorem e_sizeOf (hz : 50000 ≤ z) {y : Mm} (hb : Wb (y.1 27 0)) (ht : Wt (y.1 27 0)) {n : Int} (n0 : 0 ≤ n) (n1 : n < qct (y.1 27 0)) : F_X8_sizeOf z 0 n y = some (qsz (y.1 27 0) n) := by
  have h60 := hb.2.2.2.1
  unfold F_X8_sizeOf qsz
  generalize hp : (fun k : Int => qal (y.1 27 0) k && win (y.1 27 0) k n) = p
  have hpi : ∀ i, p i = (qal (y.1 27 0) i && win (y.1 27 0) i n) := fun i => by rw [← hp]
  rw [c_loop (fun k i (s : Int) => F_X8_sizeOf_4 z 0 n y k s i) (qct (y.1 27 0)) n p (fun i => cn p i.toNat) 0 z (by omega) (by omega) (by omega) ?_ ?_ ?_ (by omega), sbind]
  · exact (cn_low (fun j j0 j1 => by rw [hpi, win_lt j1, Bool.and_false])).symm
  · intro k i a0 a1
    show ckI 3 5366 _ = _
    rw [ckI_t (by omega) (by omega)]; exact if_pos a1
  · intro k i a0 a1
    have hc := cn_leI p i (by omega)
    show ckI 3 5366 _ = _
    rw [ckI_t (by omega) (by omega), if_neg (show ¬ (y.1 27 0 (3 : Int).toNat ≤ i) from by show ¬ (qct (y.1 27 0) ≤ i); omega), e_isAlive z i y (by omega) (by omega), sbind, ib, e_isWithin z hz i n y ht hb n0 a1, sbind, ib, ckR_t (by omega) (by omega), ckR_t (by omega) (by omega), ckR_t (by omega) (by omega), ckR_t (by omega) (by omega)]
    show _ = F_X8_sizeOf_4 z 0 n y k (cn p (i + 1).toNat) (i + 1)
    rw [cn_s (by omega), hpi]
    cases qal (y.1 27 0) i <;> cases win (y.1 27 0) i n <;> rfl
theorem k_countBelow (hz : 50000 ≤ z) {r : Nat → Int} {al : BitVec 64} {n : Int} (hN : RN x 0 r) (hb : Wb r) (hal : ∀ m : Int, 0 ≤ m → m < 64 → has al m = (decide (m < qct r) && qal r m)) (n0 : 0 ≤ n) (n1 : n < qct r) : F_X4_countBelow z 0 al n x = some (qsz r n) := by
  have h60 := hb.2.2.2.1
  unfold F_X4_countBelow
  obtain ⟨v, e, hv⟩ := k_below z hz hN hb n0 (by omega)
  rw [e, sbind, pcnt_e]
  congr 1
  unfold qsz
  refine cn_part (N := qct r) (M := 64) (by omega) (by omega) (fun i i0 i1 => ?_) (fun i i0 i1 => ?_)
  · rw [has_and, hal i i0 (by omega), hv i i0 (by omega), decide_eq_true i1]; rfl
  · rw [has_and, hal i (by omega) i1, decide_eq_false (by omega)]; rfl
theorem m_sizeOf (hz : 50000 ≤ z) (h : Inv x) {n t : Int} (n0 : 0 ≤ n) (n1 : n < qct (x.1 27 0)) : F_X8_sizeOf z 0 n (th x t) = some (qsz (x.1 27 0) n) := by
  have := e_sizeOf (z := z) hz (y := th x t) (by rw [th_C (by decide)]; exact h.1.1.1) (by rw [th_C (by decide)]; exact h.1.1.2.1) n0 (by rw [th_C (by decide)]; exact n1)
  rw [th_C (by decide)] at this; exact this
theorem p_size (hz : 50000 ≤ z) (h : Inv x) (n : Int) : Pr [sI] (F_X7_size z 0 n) (F_X8_size z 0 n) x := by
  by_cases qn : 0 ≤ n ∧ n < qct (x.1 27 0)
  · refine Pr.get h (y := .inl (qsz (x.1 27 0) n)) ?_ (b := qsz (x.1 27 0) n) (t := 0) ?_ Ok.v
    · unfold F_X7_size
      rw [rn_t h qn, bndXl, k_countBelow hz h.1.2.2.1 h.1.1.1 (hal' h) qn.1 qn.2, sbind]
    · unfold F_X8_size
      rw [sbind, th_w, mN h, sbind, e_failsT qn, sbind, it0, m_sizeOf hz h qn.1 qn.2, sbind]
  · refine Pr.get h (y := .inr sI) ?_ (b := 0) (t := 1) ?_ (Ok.x rfl (by decide))
    · unfold F_X7_size
      rw [rn_f h qn, bndXr]
    · unfold F_X8_size
      rw [sbind, th_w, mN h, sbind, e_failsF qn, sbind, it1, th_th]
theorem p_conflictsOf (hz : 50000 ≤ z) (h : Inv x) (v : Int) : Pr [sA] (F_X7_conflictsOf z 0 v) (F_X8_conflictsOf z 0 v) x := by
  have hk : 0 ≤ qkc (x.1 27 0) ∧ qkc (x.1 27 0) ≤ 40 := h.1.1.1.2.2.2.2
  have hC := h.1.2.2.2.2.2
  by_cases qv : 0 ≤ v ∧ v ≤ 4
  · generalize hp : (fun i : Int => decide (qkp (x.1 27 0) i 0 = v)) = p
    have hpi : ∀ i, p i = decide (qkp (x.1 27 0) i 0 = v) := fun i => by rw [← hp]
    refine Pr.get h (y := .inl (cn p (qkc (x.1 27 0)).toNat)) ?_ (b := cn p (qkc (x.1 27 0)).toNat) (t := 0) ?_ Ok.v
    · unfold F_X7_conflictsOf F_X1_countOf
      rw [if_neg (by omega), if_pos (by omega), c_loop (fun k i (s : Int) => F_X1_countOf_4 z 0 v x k s i) (qkc (x.1 27 0)) 0 p (fun i => cn p i.toNat) 0 z (by omega) (by omega) (by omega) rfl ?_ ?_ (by omega), sbind, sbind]
      · intro k i a0 a1
        show (if x.1 1 0 0 ≤ i then _ else _) = _
        rw [hC.1, if_pos a1]
      · intro k i a0 a1
        have hc := cn_leI p i (by omega)
        show (if x.1 1 0 0 ≤ i then _ else _) = _
        unfold F_X1_part
        rw [hC.1, if_neg (by omega), ckR_t (by omega) (by omega), ckR_t (by omega) (by omega), ckI_t (by omega) (by omega), sbind, hC.2 i 0 a0 a1 (by omega) (by omega), ckR_t (by omega) (by omega), ckR_t (by omega) (by omega), ckR_t (by omega) (by omega)]
        show _ = F_X1_countOf_4 z 0 v x k (cn p (i + 1).toNat) (i + 1)
        rw [cn_s a0, hpi]
        by_cases q : qkp (x.1 27 0) i 0 = v
        · rw [if_pos q, decide_eq_true q]; rfl
        · rw [if_neg q, decide_eq_false q]; simp [b2i]
    · unfold F_X8_conflictsOf
      rw [sbind, th_w, e_in, sbind, e_failsT qv, sbind, it0, c_loop (fun k i (s : Int) => F_X8_conflictsOf_25 z 0 v (th x 0) k s i) (qkc (x.1 27 0)) 0 p (fun i => cn p i.toNat) 0 z (by omega) (by omega) (by omega) rfl ?_ ?_ (by omega), sbind]
      · intro k i a0 a1
        show ckI 4 5366 _ = _
        rw [ckI_t (by omega) (by omega), th_C (by decide)]; exact if_pos a1
      · intro k i a0 a1
        have hc := cn_leI p i (by omega)
        show ckI 4 5366 _ = _
        rw [ckI_t (by omega) (by omega), th_C (by decide), if_neg (show ¬ (x.1 27 0 (4 : Int).toNat ≤ i) from by show ¬ (qkc (x.1 27 0) ≤ i); omega), ckR_t (by omega) (by omega), ckR_t (by omega) (by omega), ckR_t (by omega) (by omega), ckI_t (by omega) (by omega), ckR_t (by omega) (by omega), ckR_t (by omega) (by omega), ckR_t (by omega) (by omega)]
        show _ = F_X8_conflictsOf_25 z 0 v (th x 0) k (cn p (i + 1).toNat) (i + 1)
        rw [cn_s a0, hpi]
        by_cases q : qkp (x.1 27 0) i 0 = v
        · rw [if_pos (show x.1 27 0 (626 + 6 * i + 0).toNat = v from q), decide_eq_true q]; rfl
        · rw [if_neg (show ¬ x.1 27 0 (626 + 6 * i + 0).toNat = v from q), decide_eq_false q]; exact ckR_t (by omega) (by omega)
  · refine Pr.get h (y := .inr sA) ?_ (b := 0) (t := 1) ?_ (Ok.x rfl (by decide))
    · unfold F_X7_conflictsOf
      by_cases w0 : v < 0
      · rw [if_pos w0]
      · rw [if_neg w0, if_neg (by omega)]
    · unfold F_X8_conflictsOf
      rw [sbind, th_w, e_in, sbind, e_failsF qv, sbind, it1, th_th]
end
