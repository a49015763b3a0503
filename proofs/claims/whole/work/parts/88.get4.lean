/-! Sums, greatest, blockers, the earliest end. -/
def qto (p : Int → Bool) (g : Int → Int) : Nat → BitVec 64
  | 0 => 0#64
  | k + 1 => if p (k : Int) = true then qto p g k + BitVec.ofInt 64 (g (k : Int)) else qto p g k
theorem qto_s {p : Int → Bool} {g : Int → Int} {i : Int} (h : 0 ≤ i) : qto p g (i + 1).toNat = if p i = true then qto p g i.toNat + BitVec.ofInt 64 (g i) else qto p g i.toNat := by
  have e : (i + 1).toNat = i.toNat + 1 := by omega
  rw [e]
  show (if p ((i.toNat : Nat) : Int) = true then _ else _) = _
  rw [Int.toNat_of_nonneg h]
theorem qto_low {p : Int → Bool} {g : Int → Int} : ∀ k : Nat, (∀ j : Int, 0 ≤ j → j < (k : Int) → p j = false) → qto p g k = 0#64 := by
  intro k
  induction k with
  | zero => intro _; rfl
  | succ k ih =>
    intro h
    show (if p (k : Int) = true then _ else _) = _
    rw [h _ (by omega) (by omega), if_neg (by decide)]
    exact ih (fun j j0 j1 => h j j0 (by omega))
theorem qto_congr {p q : Int → Bool} {g h : Int → Int} {N : Int} (e : ∀ i : Int, 0 ≤ i → i < N → p i = q i ∧ (p i = true → g i = h i)) : qto p g N.toNat = qto q h N.toNat := by
  have : ∀ k : Nat, (k : Int) ≤ N → qto p g k = qto q h k := by
    intro k
    induction k with
    | zero => intro _; rfl
    | succ k ih =>
      intro hk
      obtain ⟨e1, e2⟩ := e (k : Int) (by omega) (by omega)
      show (if p (k : Int) = true then _ else _) = (if q (k : Int) = true then _ else _)
      rw [ih (by omega), ← e1]
      by_cases w : p (k : Int) = true
      · rw [if_pos w, if_pos w, e2 w]
      · rw [if_neg w, if_neg w]
  by_cases hN : 0 ≤ N
  · exact this _ (by omega)
  · have : N.toNat = 0 := by omega
    rw [this]; rfl
def qgr (p : Int → Bool) (g : Int → Int) : Nat → Int
  | 0 => -1
  | k + 1 => if p (k : Int) = true then (if qgr p g k = -1 then (k : Int) else if g (k : Int) ≤ g (qgr p g k) then qgr p g k else (k : Int)) else qgr p g k
theorem qgr_s {p : Int → Bool} {g : Int → Int} {i : Int} (h : 0 ≤ i) : qgr p g (i + 1).toNat = if p i = true then (if qgr p g i.toNat = -1 then i else if g i ≤ g (qgr p g i.toNat) then qgr p g i.toNat else i) else qgr p g i.toNat := by
  have e : (i + 1).toNat = i.toNat + 1 := by omega
  rw [e]
  show (if p ((i.toNat : Nat) : Int) = true then (if qgr p g i.toNat = -1 then ((i.toNat : Nat) : Int) else if g ((i.toNat : Nat) : Int) ≤ _ then _ else ((i.toNat : Nat) : Int)) else _) = _
  rw [Int.toNat_of_nonneg h]
theorem qgr_le {p : Int → Bool} {g : Int → Int} : ∀ k : Nat, qgr p g k = -1 ∨ (0 ≤ qgr p g k ∧ qgr p g k < (k : Int)) := by
  intro k
  induction k with
  | zero => exact Or.inl rfl
  | succ k ih =>
    show (if p (k : Int) = true then _ else _) = -1 ∨ _
    have e : qgr p g (k + 1) = if p (k : Int) = true then (if qgr p g k = -1 then (k : Int) else if g (k : Int) ≤ g (qgr p g k) then qgr p g k else (k : Int)) else qgr p g k := rfl
    rw [e]
    split
    · split
      · exact Or.inr ⟨by omega, by omega⟩
      · split
        · omega
        · exact Or.inr ⟨by omega, by omega⟩
    · omega
theorem qgr_low {p : Int → Bool} {g : Int → Int} : ∀ k : Nat, (∀ j : Int, 0 ≤ j → j < (k : Int) → p j = false) → qgr p g k = -1 := by
  intro k
  induction k with
  | zero => intro _; rfl
  | succ k ih =>
    intro h
    show (if p (k : Int) = true then _ else _) = _
    rw [h _ (by omega) (by omega), if_neg (by decide)]
    exact ih (fun j j0 j1 => h j j0 (by omega))
def qcd (r : Nat → Int) (n : Int) : Int → Bool := fun k => qal r k && qrc r k && win r k n
section
variable {z : Nat} {x : Mm}
theorem e_isCounted (hz : 50000 ≤ z) {y : Mm} (hb : Wb (y.1 27 0)) (ht : Wt (y.1 27 0)) {k n : Int} (k0 : 0 ≤ k) (k1 : k < qct (y.1 27 0)) (n0 : 0 ≤ n) : F_X8_isCounted z 0 k n y = some (b2i (qcd (y.1 27 0) n k)) := by
  have h60 := hb.2.2.2.1
  unfold F_X8_isCounted qcd qrc
  rw [e_isAlive z k y k0 (by omega), sbind, ib, ckR_t (by omega) (by omega), ckI_t (by omega) (by omega), e_isWithin z hz k n y ht hb n0 k1, sbind, ib]
  cases qal (y.1 27 0) k
  · rfl
  · rw [if_neg (by decide)]
    by_cases q : y.1 27 0 (131 + k).toNat = 1
    · rw [if_pos q, decide_eq_true q]; cases win (y.1 27 0) k n <;> rfl
    · rw [if_neg q, decide_eq_false q]; rfl
theorem k_mask (hz : 50000 ≤ z) (h : Inv x) {n : Int} (n0 : 0 ≤ n) (n1 : n < qct (x.1 27 0)) : Tt (F_X6_recordsBelow z 0 n x) (fun v => ∀ m : Int, 0 ≤ m → m < 64 → has v m = (decide (m < qct (x.1 27 0)) && qcd (x.1 27 0) n m)) := by
  have hb := h.1.1.1
  have h60 := hb.2.2.2.1
  have hN := h.1.2.2.1
  unfold F_X6_recordsBelow
  refine (k_below z hz hN hb n0 (by omega)).bind (fun v hv => Tt.ret (fun m m0 m1 => ?_))
  rw [has_and, has_and, hv m m0 m1, hN.2.2 m m0 m1, hal' h m m0 m1]
  unfold qcd
  cases decide (m < qct (x.1 27 0)) <;> cases win (x.1 27 0) m n <;> cases qrc (x.1 27 0) m <;> cases qal (x.1 27 0) m <;> rfl
theorem p_total (hz : 50000 ≤ z) (h : Inv x) (n f : Int) : ∃ y b t, F_X7_total z 0 n f x = some (y, x) ∧ F_X8_total z 0 n f x = some (b, th x t) ∧ ((y = .inl b ∧ t = 0) ∨ (∃ E, y = .inr E ∧ hcode [sI] E = some t ∧ t ≠ 0)) := by
  have hb := h.1.1.1
  have ht := h.1.1.2.1
  have h60 := hb.2.2.2.1
  have hf := hb.2.1
  have hN := h.1.2.2.1
  by_cases qn : 0 ≤ n ∧ n < qct (x.1 27 0)
  · by_cases qf : 0 ≤ f ∧ f < qfc (x.1 27 0)
    · refine ⟨.inl (qto (qcd (x.1 27 0) n) (fun k => qtv (x.1 27 0) k f) (qct (x.1 27 0)).toNat), qto (qcd (x.1 27 0) n) (fun k => qtv (x.1 27 0) k f) (qct (x.1 27 0)).toNat, 0, ?_, ?_, Or.inl ⟨rfl, rfl⟩⟩
      · unfold F_X7_total
        obtain ⟨v, e, hv⟩ := k_mask (z := z) hz h qn.1 qn.2
        rw [rn_t h qn, bndXl, rf_t h qf, bndXl, e, sbind]
        rw [c_loop (fun k i (s : BitVec 64) => F_X7_total_25 z 0 n f v x k s i) (qct (x.1 27 0)) 0 (fun _ => true) (fun i => qto (qcd (x.1 27 0) n) (fun k => qtv (x.1 27 0) k f) i.toNat) (0#64) z (by omega) (by omega) (by omega) rfl ?_ ?_ (by omega), sbind]
        · intro k i a0 a1
          show (if x.1 4 0 0 ≤ i then _ else _) = _
          rw [hN.1, if_pos a1]
        · intro k i a0 a1
          show (if x.1 4 0 0 ≤ i then _ else _) = _
          rw [hN.1, if_neg (by omega), k_contains z x a0 (by omega), sbind, ib, hv i a0 (by omega), decide_eq_true a1, Bool.true_and, k_valueOf z x a0 (by omega) qf.1 (by omega), sbind, h.1.2.2.2.1.2 i f a0 (by omega) qf.1 (by omega), ckR_t (by omega) (by omega), ckR_t (by omega) (by omega)]
          show _ = F_X7_total_25 z 0 n f v x k (qto (qcd (x.1 27 0) n) (fun k => qtv (x.1 27 0) k f) (i + 1).toNat) (i + 1)
          rw [qto_s a0]
          cases qcd (x.1 27 0) n i <;> rfl
      · unfold F_X8_total F_X8_total_27
        rw [sbind, th_w, mN h, sbind, dt qn, mF' h, sbind, dt qf, e_fails1, sbind, it0]
        rw [c_loop (fun k i (s : BitVec 64) => F_X8_total_41 z 0 n f (th x 0) k s i) (qct (x.1 27 0)) n (fun _ => true) (fun i => qto (qcd (x.1 27 0) n) (fun k => qtv (x.1 27 0) k f) i.toNat) (0#64) z (by omega) (by omega) (by omega) ?_ ?_ ?_ (by omega), sbind]
        · exact (qto_low _ (fun j j0 j1 => by unfold qcd; rw [win_lt (by omega), Bool.and_false])).symm
        · intro k i a0 a1
          show ckI 3 5366 _ = _
          rw [ckI_t (by omega) (by omega), th_C (by decide)]; exact if_pos a1
        · intro k i a0 a1
          show ckI 3 5366 _ = _
          have E := e_isCounted (z := z) hz (y := th x 0) (k := i) (n := n) (by rw [th_C (by decide)]; exact hb) (by rw [th_C (by decide)]; exact ht) (by omega) (by rw [th_C (by decide)]; exact a1) qn.1
          have E2 := e_value z i f (th x 0) (by omega) (by omega) qf.1 (by omega)
          rw [th_C (by decide)] at E E2
          rw [ckI_t (by omega) (by omega), th_C (by decide), if_neg (show ¬ (x.1 27 0 (3 : Int).toNat ≤ i) from by show ¬ (qct (x.1 27 0) ≤ i); omega), E, sbind, ib, E2, sbind, ckR_t (by omega) (by omega), ckR_t (by omega) (by omega)]
          show _ = F_X8_total_41 z 0 n f (th x 0) k (qto (qcd (x.1 27 0) n) (fun k => qtv (x.1 27 0) k f) (i + 1).toNat) (i + 1)
          rw [qto_s (by omega), BitVec.add_zero]
          cases qcd (x.1 27 0) n i <;> rfl
    · refine ⟨.inr sI, 0#64, 1, ?_, ?_, Or.inr ⟨_, rfl, rfl, by decide⟩⟩
      · unfold F_X7_total
        rw [rn_t h qn, bndXl, rf_f h qf, bndXr]
      · unfold F_X8_total F_X8_total_26 F_X8_total_27
        rw [sbind, th_w, mN h, sbind, dt qn, mF' h, sbind, df qf, e_fails0, sbind, it1, th_th]
  · refine ⟨.inr sI, 0#64, 1, ?_, ?_, Or.inr ⟨_, rfl, rfl, by decide⟩⟩
    · unfold F_X7_total
      rw [rn_f h qn, bndXr]
    · unfold F_X8_total F_X8_total_26 F_X8_total_27
      rw [sbind, th_w, mN h, sbind, df qn, e_fails0, sbind, it1, th_th]
theorem p_greatest (hz : 50000 ≤ z) (h : Inv x) (n f : Int) : Pr [sI, sN] (F_X7_greatest z 0 n f) (F_X8_greatest z 0 n f) x := by
  have hb := h.1.1.1
  have ht := h.1.1.2.1
  have h60 := hb.2.2.2.1
  have hf := hb.2.1
  have hN := h.1.2.2.1
  by_cases qn : 0 ≤ n ∧ n < qct (x.1 27 0)
  · by_cases qf : 0 ≤ f ∧ f < qfc (x.1 27 0)
    · generalize hg : qgr (qcd (x.1 27 0) n) (fun k => qtv (x.1 27 0) k f) (qct (x.1 27 0)).toNat = g
      obtain ⟨v, e, hv⟩ := k_mask (z := z) hz h qn.1 qn.2
      have e7 : F_X7_greatest_25 z 0 n f v x z (-1) 0 = some g := by
        rw [← hg]
        refine c_loop (fun k i (s : Int) => F_X7_greatest_25 z 0 n f v x k s i) (qct (x.1 27 0)) 0 (fun _ => true) (fun i => qgr (qcd (x.1 27 0) n) (fun k => qtv (x.1 27 0) k f) i.toNat) (-1) z (by omega) (by omega) (by omega) rfl ?_ ?_ (by omega)
        · intro k i a0 a1
          show (if x.1 4 0 0 ≤ i then _ else _) = _
          rw [hN.1, if_pos a1]
        · intro k i a0 a1
          have hl := qgr_le (p := qcd (x.1 27 0) n) (g := fun k => qtv (x.1 27 0) k f) i.toNat
          show (if x.1 4 0 0 ≤ i then _ else _) = F_X7_greatest_25 z 0 n f v x k (qgr (qcd (x.1 27 0) n) (fun k => qtv (x.1 27 0) k f) (i + 1).toNat) (i + 1)
          rw [hN.1, if_neg (by omega), k_contains z x a0 (by omega), sbind, ib, hv i a0 (by omega), decide_eq_true a1, Bool.true_and, ckR_t (by omega) (by omega), ckR_t (by omega) (by omega), qgr_s a0]
          cases qcd (x.1 27 0) n i
          · rfl
          · rw [if_neg (by decide), if_pos rfl]
            by_cases w : qgr (qcd (x.1 27 0) n) (fun k => qtv (x.1 27 0) k f) i.toNat = -1
            · rw [if_pos w, if_pos w]
            · rw [if_neg w, if_neg w, k_valueOf z x a0 (by omega) qf.1 (by omega), sbind, k_valueOf z x (by omega) (by omega) qf.1 (by omega), sbind, h.1.2.2.2.1.2 i f a0 (by omega) qf.1 (by omega), h.1.2.2.2.1.2 _ f (by omega) (by omega) qf.1 (by omega)]
              by_cases u : qtv (x.1 27 0) i f ≤ qtv (x.1 27 0) (qgr (qcd (x.1 27 0) n) (fun k => qtv (x.1 27 0) k f) i.toNat) f
              · rw [if_pos u, if_pos u]
              · rw [if_neg u, if_neg u]
      have e8 : F_X8_greatest_41 z 0 n f (th x 0) z (-1) n = some g := by
        rw [← hg]
        refine c_loop (fun k i (s : Int) => F_X8_greatest_41 z 0 n f (th x 0) k s i) (qct (x.1 27 0)) n (fun _ => true) (fun i => qgr (qcd (x.1 27 0) n) (fun k => qtv (x.1 27 0) k f) i.toNat) (-1) z (by omega) (by omega) (by omega) ?_ ?_ ?_ (by omega)
        · exact (qgr_low _ (fun j j0 j1 => by unfold qcd; rw [win_lt (by omega), Bool.and_false])).symm
        · intro k i a0 a1
          show ckI 3 5366 _ = _
          rw [ckI_t (by omega) (by omega), th_C (by decide)]; exact if_pos a1
        · intro k i a0 a1
          have hl := qgr_le (p := qcd (x.1 27 0) n) (g := fun k => qtv (x.1 27 0) k f) i.toNat
          show ckI 3 5366 _ = F_X8_greatest_41 z 0 n f (th x 0) k (qgr (qcd (x.1 27 0) n) (fun k => qtv (x.1 27 0) k f) (i + 1).toNat) (i + 1)
          have E := e_isCounted (z := z) hz (y := th x 0) (k := i) (n := n) (by rw [th_C (by decide)]; exact hb) (by rw [th_C (by decide)]; exact ht) (by omega) (by rw [th_C (by decide)]; exact a1) qn.1
          have E2 := e_value z i f (th x 0) (by omega) (by omega) qf.1 (by omega)
          rw [th_C (by decide)] at E E2
          rw [ckI_t (by omega) (by omega), th_C (by decide), if_neg (show ¬ (x.1 27 0 (3 : Int).toNat ≤ i) from by show ¬ (qct (x.1 27 0) ≤ i); omega), E, sbind, ib, ckR_t (by omega) (by omega), ckR_t (by omega) (by omega), qgr_s (by omega)]
          cases qcd (x.1 27 0) n i
          · rfl
          · rw [if_neg (by decide), if_pos rfl]
            by_cases w : qgr (qcd (x.1 27 0) n) (fun k => qtv (x.1 27 0) k f) i.toNat = -1
            · rw [if_pos w, if_pos w]
            · have E3 := e_value z (qgr (qcd (x.1 27 0) n) (fun k => qtv (x.1 27 0) k f) i.toNat) f (th x 0) (by omega) (by omega) qf.1 (by omega)
              rw [th_C (by decide)] at E3
              rw [if_neg w, if_neg w, E2, sbind, E3, sbind]
              by_cases u : qtv (x.1 27 0) i f ≤ qtv (x.1 27 0) (qgr (qcd (x.1 27 0) n) (fun k => qtv (x.1 27 0) k f) i.toNat) f
              · rw [if_pos u, if_pos u]
              · rw [if_neg u, if_neg u]
      by_cases q : g = -1
      · refine Pr.get h (y := .inr sN) ?_ (b := 0) (t := 2) ?_ (Ok.x rfl (by decide))
        · unfold F_X7_greatest
          rw [rn_t h qn, bndXl, rf_t h qf, bndXl, e, sbind, e7, sbind, if_pos q]
        · unfold F_X8_greatest F_X8_greatest_27
          rw [sbind, th_w, mN h, sbind, dt qn, mF' h, sbind, dt qf, e_fails1, sbind, it0, e8, sbind, if_pos q, e_fails0, sbind, it1, th_th]
      · refine Pr.get h (y := .inl g) ?_ (b := g) (t := 0) ?_ Ok.v
        · unfold F_X7_greatest
          rw [rn_t h qn, bndXl, rf_t h qf, bndXl, e, sbind, e7, sbind, if_neg q]
        · unfold F_X8_greatest F_X8_greatest_27
          rw [sbind, th_w, mN h, sbind, dt qn, mF' h, sbind, dt qf, e_fails1, sbind, it0, e8, sbind, if_neg q, e_fails1, sbind, it0]
    · refine Pr.get h (y := .inr sI) ?_ (b := 0) (t := 1) ?_ (Ok.x rfl (by decide))
      · unfold F_X7_greatest
        rw [rn_t h qn, bndXl, rf_f h qf, bndXr]
      · unfold F_X8_greatest F_X8_greatest_26 F_X8_greatest_27
        rw [sbind, th_w, mN h, sbind, dt qn, mF' h, sbind, df qf, e_fails0, sbind, it1, th_th]
  · refine Pr.get h (y := .inr sI) ?_ (b := 0) (t := 1) ?_ (Ok.x rfl (by decide))
    · unfold F_X7_greatest
      rw [rn_f h qn, bndXr]
    · unfold F_X8_greatest F_X8_greatest_26 F_X8_greatest_27
      rw [sbind, th_w, mN h, sbind, df qn, e_fails0, sbind, it1, th_th]
end
