/-! Calls that only tell. -/
section
variable {z : Nat} {x : Mm}
theorem mN (h : Inv x) (v : Int) : F_X8_isNode z 0 v (th x 0) = some (b2i (decide (0 ≤ v ∧ v < qct (x.1 27 0)))) := by
  have E := e_isNode z v (th x 0) (by rw [th_C (by decide)]; exact h.1.1.1)
  rw [th_C (by decide)] at E; exact E
theorem mC (h : Inv x) (v : Int) : F_X8_isClient z 0 v (th x 0) = some (b2i (decide (0 ≤ v ∧ v < qcc (x.1 27 0)))) := by
  have E := e_isClient z v (th x 0) (by rw [th_C (by decide)]; exact h.1.1.1)
  rw [th_C (by decide)] at E; exact E
theorem mF' (h : Inv x) (v : Int) : F_X8_isField z 0 v (th x 0) = some (b2i (decide (0 ≤ v ∧ v < qfc (x.1 27 0)))) := by
  have E := e_isField z v (th x 0) (by rw [th_C (by decide)]; exact h.1.1.1)
  rw [th_C (by decide)] at E; exact E
theorem mH {t : Int} {c : Int} (c0 : 0 ≤ c) (c1 : c < 5) : F_X8_hasLease z 0 c (th x t) = some (b2i (qhl (x.1 27 0) c)) := by
  have E := e_hasLease z c (th x t) c0 c1
  rw [th_C (by decide)] at E; exact E
theorem dt {p : Prop} [Decidable p] {α : Type} {A B : α} (h : p) : (if b2i (decide p) = 0 then A else B) = B := by rw [decide_eq_true h]; rfl
theorem df {p : Prop} [Decidable p] {α : Type} {A B : α} (h : ¬ p) : (if b2i (decide p) = 0 then A else B) = A := by rw [decide_eq_false h]; rfl
theorem p_field (h : Inv x) (n f : Int) : Pr [sI] (F_X7_field z 0 n f) (F_X8_field z 0 n f) x := by
  have hb := h.1.1.1
  have h60 := hb.2.2.2.1
  have hf := hb.2.1
  have hH := h.1.2.1
  have hN := h.1.2.2.1
  by_cases qn : 0 ≤ n ∧ n < qct (x.1 27 0)
  · by_cases qf : 0 ≤ f ∧ f < qfc (x.1 27 0)
    · refine Pr.get h (y := .inl (qtv (x.1 27 0) n f)) ?_ (b := qtv (x.1 27 0) n f) (t := 0) ?_ Ok.v
      · unfold F_X7_field
        rw [rqN_t qn.1 (by rw [hN.1]; exact qn.2), bndXl, rqF_t qf.1 (by rw [hH.2.1]; exact qf.2), bndXl, k_valueOf z x qn.1 (by omega) qf.1 (by omega), sbind, h.1.2.2.2.1.2 n f qn.1 (by omega) qf.1 (by omega)]
      · unfold F_X8_field F_X8_field_27
        rw [sbind, th_w, mN h, sbind, dt qn, mF' h, sbind, dt qf, e_fails1, sbind, it0, e_value z n f _ qn.1 (by omega) qf.1 (by omega), sbind, th_C (by decide)]
    · refine Pr.get h (y := .inr sI) ?_ (b := 0) (t := 1) ?_ (Ok.x rfl (by decide))
      · unfold F_X7_field
        rw [rqN_t qn.1 (by rw [hN.1]; exact qn.2), bndXl, rqF_f (by rw [hH.2.1]; exact qf), bndXr]
      · unfold F_X8_field F_X8_field_26 F_X8_field_27
        rw [sbind, th_w, mN h, sbind, dt qn, mF' h, sbind, df qf, e_fails0, sbind, it1, th_th]
  · refine Pr.get h (y := .inr sI) ?_ (b := 0) (t := 1) ?_ (Ok.x rfl (by decide))
    · unfold F_X7_field
      rw [rqN_f (by rw [hN.1]; exact qn), bndXr]
    · unfold F_X8_field F_X8_field_26 F_X8_field_27
      rw [sbind, th_w, mN h, sbind, df qn, e_fails0, sbind, it1, th_th]
theorem cn_ins {p q : Int → Bool} {n : Int} {k : Nat} (n0 : 0 ≤ n) (n1 : n < (k : Int)) (hq : ∀ m : Int, 0 ≤ m → m < (k : Int) → q m = (decide (m = n) || p m)) (hp : p n = false) : cn q k = cn p k + 1 := by
  induction k with
  | zero => omega
  | succ k ih =>
    show cn q k + b2i (q (k : Int)) = cn p k + b2i (p (k : Int)) + 1
    rw [hq k (by omega) (by omega)]
    by_cases e : n = (k : Int)
    · rw [decide_eq_true e.symm, ← e, hp]
      have : cn q k = cn p k := cn_congr (fun i i0 i1 => by rw [hq i i0 (by omega), decide_eq_false (by omega), Bool.false_or])
      rw [this]; simp [b2i]
    · rw [ih (by omega) (fun m m0 m1 => hq m m0 (by omega)), decide_eq_false (fun w => e w.symm), Bool.false_or]; omega
theorem e_depth (hz : 50000 ≤ z) {y : Mm} (hb : Wb (y.1 27 0)) (ht : Wt (y.1 27 0)) {n : Int} (n0 : 0 ≤ n) (n1 : n < qct (y.1 27 0)) : F_X8_depth z 0 n y = some (cn (win (y.1 27 0) n) (64 : Int).toNat - 1) := by
  have h60 := hb.2.2.2.1
  have key : ∀ (t : Nat) (i v : Int) (k : Nat), 0 ≤ i → i < qct (y.1 27 0) → i ≤ (t : Int) → i < (k : Int) → 0 < k → 0 ≤ v → v + i ≤ 100 → F_X8_depth_4 z 0 n y k v i = some (v + (cn (win (y.1 27 0) i) (64 : Int).toNat - 1)) := by
    intro t
    induction t with
    | zero =>
      intro i v k i0 i1 it ik k0 v0 vi
      obtain ⟨k, rfl⟩ : ∃ q, k = q + 1 := ⟨k - 1, by omega⟩
      have e : i = 0 := by omega
      subst e
      have e1 : cn (win (y.1 27 0) 0) (64 : Int).toNat = 1 := by
        have := cn_ins (p := fun _ => false) (q := win (y.1 27 0) 0) (n := 0) (k := (64 : Int).toNat) (by omega) (by omega) (fun m m0 m1 => by
          rw [Bool.or_false]
          by_cases e : m = 0
          · rw [e, win_rf]; rfl
          · rw [win_lt (by omega), decide_eq_false e]) rfl
        rw [this, cn_none (fun i _ _ => rfl)]; rfl
      rw [e1]
      show (if (0 : Int) ≤ 0 then _ else _) = _
      rw [if_pos (by omega)]; congr 1; omega
    | succ t ih =>
      intro i v k i0 i1 it ik k0 v0 vi
      obtain ⟨k, rfl⟩ : ∃ q, k = q + 1 := ⟨k - 1, by omega⟩
      by_cases e : i ≤ (t : Int)
      · exact ih i v (k + 1) i0 i1 e ik k0 v0 vi
      · have hp := ht.2.2 i (by omega) i1
        have e1 : cn (win (y.1 27 0) i) (64 : Int).toNat = cn (win (y.1 27 0) (qpa (y.1 27 0) i)) (64 : Int).toNat + 1 := by
          refine cn_ins i0 (by omega) (fun m m0 m1 => ?_) (win_lt (by omega))
          by_cases e : m = i
          · rw [e, win_rf, decide_eq_true rfl]; rfl
          · rw [decide_eq_false e, Bool.false_or]
            by_cases w : m < i
            · exact win_up hb ht m0 w i1
            · rw [win_lt (by omega), win_lt (by omega)]
        show (if i ≤ 0 then _ else _) = _
        rw [if_neg (by omega), ckR_t (by omega) (by omega), ckR_t (by omega) (by omega), ckI_t (by omega) (by omega)]
        have := ih (qpa (y.1 27 0) i) (v + 1) k (by omega) (by omega) (by omega) (by omega) (by omega) (by omega) (by omega)
        rw [show F_X8_depth_4 z 0 n y k (v + 1) (y.1 27 0 (11 + i).toNat) = _ from this, e1]
        congr 1; omega
  unfold F_X8_depth
  rw [key n.toNat n 0 z n0 n1 (by omega) (by omega) (by omega) (by omega) (by omega), sbind]
  congr 1; omega
theorem p_node (hz : 50000 ≤ z) (h : Inv x) (n w : Int) : Pr [sI, sA] (F_X7_node z 0 n w) (F_X8_node z 0 n w) x := by
  have hb := h.1.1.1
  have ht := h.1.1.2.1
  have h60 := hb.2.2.2.1
  have hN := h.1.2.2.1
  by_cases qn : 0 ≤ n ∧ n < qct (x.1 27 0)
  · obtain ⟨g1, g2, g3⟩ := hN.2.1 n qn.1 qn.2
    have e7 : F_X7_node z 0 n w x = (if w = 0 then some (.inl (qpa (x.1 27 0) n), x) else if w = 1 then some (.inl (qlb (x.1 27 0) n), x) else if w = 2 then some (.inl (b2i (qrc (x.1 27 0) n)), x) else if w = 3 then some (.inl (b2i (qal (x.1 27 0) n)), x) else if w = 4 then some (.inl (cn (win (x.1 27 0) n) (64 : Int).toNat - 1), x) else some (.inr sA, x)) := by
      unfold F_X7_node
      have hp : pcnt (x.2 30 0 n.toNat) = cn (win (x.1 27 0) n) (64 : Int).toNat := by
        rw [pcnt_e]; exact cn_congrI (fun i i0 i1 => g3 i i0 i1)
      have hc := cn_leI (win (x.1 27 0) n) 64 (by omega)
      rw [rqN_t qn.1 (by rw [hN.1]; exact qn.2), bndXl, ckI_t qn.1 (by omega), ckI_t qn.1 (by omega), ckI_t qn.1 (by omega), g1, g2, k_contains z x qn.1 (by omega), sbind, k_has z x qn.1 (by omega), sbind, hp, ckR_t (by omega) (by omega), hN.2.2 n qn.1 (by omega), h.1.2.2.2.1.1 n qn.1 (by omega), decide_eq_true qn.2, Bool.true_and, Bool.true_and]
      cases qrc (x.1 27 0) n <;> cases qal (x.1 27 0) n <;> rfl
    have hr := h.1.1.2.2.2.1 n qn.1 (by omega)
    have ha := h.1.1.2.2.1.1 n qn.1 (by omega)
    have e8 : F_X8_node z 0 n w x = if 0 ≤ w ∧ w ≤ 4 then some ((if w = 0 then qpa (x.1 27 0) n else if w = 1 then qlb (x.1 27 0) n else if w = 2 then b2i (qrc (x.1 27 0) n) else if w = 3 then b2i (qal (x.1 27 0) n) else cn (win (x.1 27 0) n) (64 : Int).toNat - 1), th x 0) else some (0, th x 2) := by
      unfold F_X8_node
      have hd := e_depth (z := z) hz (y := th x 0) (by rw [th_C (by decide)]; exact hb) (by rw [th_C (by decide)]; exact ht) qn.1 (by rw [th_C (by decide)]; exact qn.2)
      rw [th_C (by decide)] at hd
      rw [sbind, th_w, mN h, sbind, e_failsT qn, sbind, it0, e_in, sbind]
      have er : x.1 27 0 (131 + n).toNat = b2i (qrc (x.1 27 0) n) := by
        unfold qrc; rcases hr with e | e <;> rw [e] <;> rfl
      have ea : x.1 27 0 (191 + n).toNat = b2i (qal (x.1 27 0) n) := by
        unfold qal; rcases ha with e | e <;> rw [e] <;> rfl
      by_cases q : 0 ≤ w ∧ w ≤ 4
      · rw [e_failsT q, sbind, it0, if_pos q]
        simp only [th_C (show (27 : Nat) ≠ 8 by decide)]
        rw [ckR_t (by omega) (by omega), ckI_t (by omega) (by omega), ckR_t (by omega) (by omega), ckI_t (by omega) (by omega), ckR_t (by omega) (by omega), ckI_t (by omega) (by omega), ckR_t (by omega) (by omega), ckI_t (by omega) (by omega), hd, sbind, er, ea]
        by_cases w0 : w = 0
        · rw [if_pos w0, if_pos w0]; rfl
        · rw [if_neg w0, if_neg w0]
          by_cases w1 : w = 1
          · rw [if_pos w1, if_pos w1]; rfl
          · rw [if_neg w1, if_neg w1]
            by_cases w2 : w = 2
            · rw [if_pos w2, if_pos w2]
            · rw [if_neg w2, if_neg w2]
              by_cases w3 : w = 3
              · rw [if_pos w3, if_pos w3]
              · rw [if_neg w3, if_neg w3]
      · rw [e_failsF q, sbind, it1, if_neg q, th_th]
    by_cases q : 0 ≤ w ∧ w ≤ 4
    · rw [if_pos q] at e8
      refine Pr.get h (y := .inl _) ?_ e8 Ok.v
      rw [e7]
      by_cases w0 : w = 0
      · rw [if_pos w0, if_pos w0]
      · rw [if_neg w0, if_neg w0]
        by_cases w1 : w = 1
        · rw [if_pos w1, if_pos w1]
        · rw [if_neg w1, if_neg w1]
          by_cases w2 : w = 2
          · rw [if_pos w2, if_pos w2]
          · rw [if_neg w2, if_neg w2]
            by_cases w3 : w = 3
            · rw [if_pos w3, if_pos w3]
            · rw [if_neg w3, if_neg w3, if_pos (by omega)]
    · rw [if_neg q] at e8
      refine Pr.get h (y := .inr sA) ?_ e8 (Ok.x rfl (by decide))
      rw [e7, if_neg (by omega), if_neg (by omega), if_neg (by omega), if_neg (by omega), if_neg (by omega)]
  · refine Pr.get h (y := .inr sI) ?_ (b := 0) (t := 1) ?_ (Ok.x rfl (by decide))
    · unfold F_X7_node
      rw [rqN_f (by rw [hN.1]; exact qn), bndXr]
    · unfold F_X8_node
      rw [sbind, th_w, mN h, sbind, e_failsF qn, sbind, it1, th_th]
end
