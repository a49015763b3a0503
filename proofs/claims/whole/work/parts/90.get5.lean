/-! Blockers, the earliest end. -/
def qbl (p : Int → Bool) : Nat → Int
  | 0 => 0
  | k + 1 => if p (k : Int) = true then bior (qbl p k) (w32 ((1 : Int) * 2 ^ k)) else qbl p k
theorem qbl_s {p : Int → Bool} {i : Int} (h : 0 ≤ i) : qbl p (i + 1).toNat = if p i = true then bior (qbl p i.toNat) (w32 ((1 : Int) * 2 ^ i.toNat)) else qbl p i.toNat := by
  have e : (i + 1).toNat = i.toNat + 1 := by omega
  rw [e]
  show (if p ((i.toNat : Nat) : Int) = true then _ else _) = _
  rw [Int.toNat_of_nonneg h]
theorem qbl_I {p : Int → Bool} : ∀ k : Nat, ∃ w : Int32, qbl p k = w.toInt := by
  intro k
  induction k with
  | zero => exact ⟨0, rfl⟩
  | succ k ih =>
    show ∃ w : Int32, (if p (k : Int) = true then bior (qbl p k) (w32 ((1 : Int) * 2 ^ k)) else qbl p k) = w.toInt
    split
    · exact ⟨_, rfl⟩
    · exact ih
theorem bior0 {v : Int} (h : ∃ w : Int32, v = w.toInt) : bior v 0 = v := by
  obtain ⟨w, rfl⟩ := h
  unfold bior
  have e : Int32.ofInt w.toInt = w := Int32.ofInt_toInt w
  have e2 : Int32.ofInt 0 = 0 := rfl
  rw [e, e2, Int32.or_zero]
def qbk (r : Nat → Int) (c n ex : Int) : Int → Bool := fun k => !decide (k = c) && (qhl r k && ((!decide (ex = 0) || decide (qlx r k = 1)) && (win r n (qln r k) || win r (qln r k) n)))
section
variable {z : Nat} {x : Mm}
theorem e_isBlocker (hz : 50000 ≤ z) {y : Mm} (hw : Wq (y.1 27 0)) {k c n ex : Int} (k0 : 0 ≤ k) (k1 : k < 5) (n0 : 0 ≤ n) (n1 : n < qct (y.1 27 0)) : F_X8_isBlocker z 0 k c n ex y = some (b2i (qbk (y.1 27 0) c n ex k)) := by
  obtain ⟨hb, ht, _, _, _, hl, _⟩ := hw
  unfold F_X8_isBlocker qbk
  by_cases q : k = c
  · rw [if_pos q, decide_eq_true q]; rfl
  · rw [if_neg q, decide_eq_false q, e_hasLease z k y k0 k1, sbind, ib]
    cases ql : qhl (y.1 27 0) k
    · rfl
    · obtain ⟨hn, _, hx, _⟩ := hl k k0 k1 ql
      have e52 : F_X8_isBlocker_52 z 0 n (y.1 27 0 (611 + 3 * k).toNat) y = some (b2i (win (y.1 27 0) n (qln (y.1 27 0) k) || win (y.1 27 0) (qln (y.1 27 0) k) n)) := by
        unfold F_X8_isBlocker_52
        have e1 := e_isWithin z hz (qln (y.1 27 0) k) n y ht hb n0 hn.2
        have e2 := e_isWithin z hz n (qln (y.1 27 0) k) y ht hb hn.1 n1
        rw [show F_X8_isWithin z 0 (y.1 27 0 (611 + 3 * k).toNat) n y = _ from e1, sbind, ib, show F_X8_isWithin z 0 n (y.1 27 0 (611 + 3 * k).toNat) y = _ from e2, sbind, ib]
        cases win (y.1 27 0) n (qln (y.1 27 0) k) <;> cases win (y.1 27 0) (qln (y.1 27 0) k) n <;> rfl
      rw [if_neg (by decide), ckR_t (by omega) (by omega), ckR_t (by omega) (by omega), ckI_t (by omega) (by omega), ckR_t (by omega) (by omega), ckR_t (by omega) (by omega), ckR_t (by omega) (by omega), ckI_t (by omega) (by omega), e52]
      by_cases w : ex = 0
      · rw [if_pos w, decide_eq_true w]
        by_cases u : qlx (y.1 27 0) k = 1
        · rw [if_pos (show y.1 27 0 (611 + 3 * k + 2).toNat = 1 from u), decide_eq_true u]; rfl
        · rw [if_neg (show ¬ y.1 27 0 (611 + 3 * k + 2).toNat = 1 from u), decide_eq_false u]; rfl
      · rw [if_neg w, decide_eq_false w]; rfl
theorem e_blockersOf (hz : 50000 ≤ z) {y : Mm} (hw : Wq (y.1 27 0)) {c n ex : Int} (n0 : 0 ≤ n) (n1 : n < qct (y.1 27 0)) : F_X8_blockersOf z 0 c n ex y = some (qbl (qbk (y.1 27 0) c n ex) (qcc (y.1 27 0)).toNat) := by
  have hcc := hw.1.2.2.1
  unfold F_X8_blockersOf
  rw [c_loop (fun k i (s : Int) => F_X8_blockersOf_6 z 0 c n ex y k s i) (qcc (y.1 27 0)) 0 (fun _ => true) (fun i => qbl (qbk (y.1 27 0) c n ex) i.toNat) 0 z (by omega) (by omega) (by omega) rfl ?_ ?_ (by omega), sbind]
  · intro k i a0 a1
    show ckI 2 5366 _ = _
    rw [ckI_t (by omega) (by omega)]; exact if_pos a1
  · intro k i a0 a1
    show ckI 2 5366 _ = F_X8_blockersOf_6 z 0 c n ex y k (qbl (qbk (y.1 27 0) c n ex) (i + 1).toNat) (i + 1)
    rw [ckI_t (by omega) (by omega), if_neg (show ¬ (y.1 27 0 (2 : Int).toNat ≤ i) from by show ¬ (qcc (y.1 27 0) ≤ i); omega), e_isBlocker hz hw a0 (by omega) n0 n1, sbind, ib, bior0 (qbl_I _), ckI_t a0 (by omega), ckR_t (by omega) (by omega), ckR_t (by omega) (by omega), qbl_s a0]
    cases qbk (y.1 27 0) c n ex i <;> rfl
theorem k_touch (h : Inv x) {a b : Int} (a0 : 0 ≤ a) (a1 : a < qct (x.1 27 0)) (b0 : 0 ≤ b) (b1 : b < qct (x.1 27 0)) : F_X4_touch z 0 a b x = some (b2i (win (x.1 27 0) a b || win (x.1 27 0) b a)) := by
  have h60 := h.1.1.1.2.2.2.1
  have hN := h.1.2.2.1
  unfold F_X4_touch
  rw [ckI_t a0 (by omega), k_contains z x b0 (by omega), sbind, ib, ckI_t b0 (by omega), k_contains z x a0 (by omega), sbind, ib, (hN.2.1 a a0 a1).2.2 b b0 (by omega), (hN.2.1 b b0 b1).2.2 a a0 (by omega)]
  cases win (x.1 27 0) a b <;> cases win (x.1 27 0) b a <;> rfl
theorem k_blockersOf (hz : 50000 ≤ z) (h : Inv x) {c n ex : Int} (n0 : 0 ≤ n) (n1 : n < qct (x.1 27 0)) : F_X6_blockersOf z 0 c n ex x = some (qbl (qbk (x.1 27 0) c n ex) (qcc (x.1 27 0)).toNat) := by
  have hcc := h.1.1.1.2.2.1
  have hH := h.1.2.1
  unfold F_X6_blockersOf
  rw [c_loop (fun k i (s : Int) => F_X6_blockersOf_6 z 0 c n ex x k s i) (qcc (x.1 27 0)) 0 (fun _ => true) (fun i => qbl (qbk (x.1 27 0) c n ex) i.toNat) 0 z (by omega) (by omega) (by omega) rfl ?_ ?_ (by omega), sbind]
  · intro k i a0 a1
    show (if x.1 6 0 2 ≤ i then _ else _) = _
    rw [hH.2.2.1, if_pos a1]
  · intro k i a0 a1
    show (if x.1 6 0 2 ≤ i then _ else _) = F_X6_blockersOf_6 z 0 c n ex x k (qbl (qbk (x.1 27 0) c n ex) (i + 1).toNat) (i + 1)
    have cI : ∀ {α : Type} {A : Option α}, ckR (i + 1) A = A := fun {α} {A} => ckR_t (by omega) (by omega)
    have hL := h.1.2.2.2.2.1 i a0 (by omega)
    rw [hH.2.2.1, if_neg (by omega), ckI_t a0 (by omega), cI, hL.1, ib, ckI_t a0 (by omega), qbl_s a0]
    unfold qbk
    by_cases q : i = c
    · rw [if_pos q, decide_eq_true q]; rfl
    · rw [if_neg q, decide_eq_false q]
      cases ql : qhl (x.1 27 0) i
      · rfl
      · obtain ⟨hn, _, hx, _⟩ := h.1.1.2.2.2.2.2.1 i a0 (by omega) ql
        obtain ⟨⟨g1, g2, g3⟩, _⟩ := hL.2 ql
        rw [if_neg (by decide), g1, g3, k_touch h n0 n1 hn.1 hn.2, sbind, ib, cI]
        by_cases w : ex = 0
        · rw [if_pos w, decide_eq_true w]
          rcases hx with u | u
          · rw [if_pos u, u]; rfl
          · rw [if_neg (by omega), u]
            cases (win (x.1 27 0) n (qln (x.1 27 0) i) || win (x.1 27 0) (qln (x.1 27 0) i) n) <;> rfl
        · rw [if_neg w, decide_eq_false w]
          cases (win (x.1 27 0) n (qln (x.1 27 0) i) || win (x.1 27 0) (qln (x.1 27 0) i) n) <;> rfl
theorem m_blockersOf (hz : 50000 ≤ z) (h : Inv x) {c n ex t : Int} (n0 : 0 ≤ n) (n1 : n < qct (x.1 27 0)) : F_X8_blockersOf z 0 c n ex (th x t) = some (qbl (qbk (x.1 27 0) c n ex) (qcc (x.1 27 0)).toNat) := by
  have := e_blockersOf (z := z) hz (y := th x t) (c := c) (n := n) (ex := ex) (by rw [th_C (by decide)]; exact h.1.1) n0 (by rw [th_C (by decide)]; exact n1)
  rw [th_C (by decide)] at this; exact this
theorem p_blockers (hz : 50000 ≤ z) (h : Inv x) (c n ex : Int) : Pr [sI] (F_X7_blockers z 0 c n ex) (F_X8_blockers z 0 c n ex) x := by
  by_cases qc : 0 ≤ c ∧ c < qcc (x.1 27 0)
  · by_cases qn : 0 ≤ n ∧ n < qct (x.1 27 0)
    · refine Pr.get h (y := .inl (qbl (qbk (x.1 27 0) c n ex) (qcc (x.1 27 0)).toNat)) ?_ (b := qbl (qbk (x.1 27 0) c n ex) (qcc (x.1 27 0)).toNat) (t := 0) ?_ Ok.v
      · unfold F_X7_blockers
        rw [rc_t h qc, bndXl, rn_t h qn, bndXl, k_blockersOf hz h qn.1 qn.2, sbind]
      · unfold F_X8_blockers F_X8_blockers_27
        rw [sbind, th_w, mC h, sbind, dt qc, mN h, sbind, dt qn, e_fails1, sbind, it0, m_blockersOf hz h qn.1 qn.2, sbind]
    · refine Pr.get h (y := .inr sI) ?_ (b := 0) (t := 1) ?_ (Ok.x rfl (by decide))
      · unfold F_X7_blockers
        rw [rc_t h qc, bndXl, rn_f h qn, bndXr]
      · unfold F_X8_blockers F_X8_blockers_26 F_X8_blockers_27
        rw [sbind, th_w, mC h, sbind, dt qc, mN h, sbind, df qn, e_fails0, sbind, it1, th_th]
  · refine Pr.get h (y := .inr sI) ?_ (b := 0) (t := 1) ?_ (Ok.x rfl (by decide))
    · unfold F_X7_blockers
      rw [rc_f h qc, bndXr]
    · unfold F_X8_blockers F_X8_blockers_26 F_X8_blockers_27
      rw [sbind, th_w, mC h, sbind, df qc, e_fails0, sbind, it1, th_th]
/-- the earliest end -/
def qne (r : Nat → Int) : Nat → Int
  | 0 => -1
  | k + 1 => if qhl r (k : Int) = true then (if qne r k = -1 then qle r (k : Int) else if qne r k ≤ qle r (k : Int) then qne r k else qle r (k : Int)) else qne r k
theorem qne_s {r : Nat → Int} {i : Int} (h : 0 ≤ i) : qne r (i + 1).toNat = if qhl r i = true then (if qne r i.toNat = -1 then qle r i else if qne r i.toNat ≤ qle r i then qne r i.toNat else qle r i) else qne r i.toNat := by
  have e : (i + 1).toNat = i.toNat + 1 := by omega
  rw [e]
  show (if qhl r ((i.toNat : Nat) : Int) = true then (if qne r i.toNat = -1 then qle r ((i.toNat : Nat) : Int) else if qne r i.toNat ≤ qle r ((i.toNat : Nat) : Int) then qne r i.toNat else qle r ((i.toNat : Nat) : Int)) else qne r i.toNat) = _
  rw [Int.toNat_of_nonneg h]
theorem qne_le {r : Nat → Int} (hl : ∀ c : Int, 0 ≤ c → c < 5 → WL r c) : ∀ k : Nat, k ≤ 5 → qne r k = -1 ∨ (0 ≤ qne r k ∧ qne r k ≤ 20000) := by
  intro k
  induction k with
  | zero => intro _; exact Or.inl rfl
  | succ k ih =>
    intro hk
    have e : qne r (k + 1) = if qhl r (k : Int) = true then (if qne r k = -1 then qle r (k : Int) else if qne r k ≤ qle r (k : Int) then qne r k else qle r (k : Int)) else qne r k := rfl
    rw [e]
    have h1 := ih (by omega)
    by_cases q : qhl r (k : Int) = true
    · have := (hl (k : Int) (by omega) (by omega) q).2.1
      rw [if_pos q]; split
      · omega
      · split <;> omega
    · rw [if_neg q]; exact h1
theorem p_nextEnd (hz : 50000 ≤ z) (h : Inv x) : Pr [sN] (F_X7_nextEnd z 0) (F_X8_nextEnd z 0) x := by
  have hcc := h.1.1.1.2.2.1
  have hH := h.1.2.1
  have hwl := h.1.1.2.2.2.2.2.1
  have e7 : F_X7_nextEnd_4 z 0 x z (-1) 0 = some (qne (x.1 27 0) (qcc (x.1 27 0)).toNat) := by
    refine c_loop (fun k i (s : Int) => F_X7_nextEnd_4 z 0 x k s i) (qcc (x.1 27 0)) 0 (fun _ => true) (fun i => qne (x.1 27 0) i.toNat) (-1) z (by omega) (by omega) (by omega) rfl ?_ ?_ (by omega)
    · intro k i a0 a1
      show (if x.1 6 0 2 ≤ i then _ else _) = _
      rw [hH.2.2.1, if_pos a1]
    · intro k i a0 a1
      show (if x.1 6 0 2 ≤ i then _ else _) = F_X7_nextEnd_4 z 0 x k (qne (x.1 27 0) (i + 1).toNat) (i + 1)
      have cI : ∀ {α : Type} {A : Option α}, ckR (i + 1) A = A := fun {α} {A} => ckR_t (by omega) (by omega)
      have hL := h.1.2.2.2.2.1 i a0 (by omega)
      rw [hH.2.2.1, if_neg (by omega), ckI_t a0 (by omega), cI, cI, hL.1, ib, qne_s a0]
      cases ql : qhl (x.1 27 0) i
      · rfl
      · obtain ⟨⟨g1, g2, g3⟩, _⟩ := hL.2 ql
        rw [if_neg (by decide), if_pos rfl, g2]
        by_cases w : qne (x.1 27 0) i.toNat = -1
        · rw [if_pos w, if_pos w]
        · rw [if_neg w, if_neg w]
          by_cases u : qne (x.1 27 0) i.toNat ≤ qle (x.1 27 0) i
          · rw [if_pos u, if_pos u]
          · rw [if_neg u, if_neg u]
  have e8 : F_X8_nextEnd_11 z 0 (th x 0) z 2147483647 0 = some (if qne (x.1 27 0) (qcc (x.1 27 0)).toNat = -1 then 2147483647 else qne (x.1 27 0) (qcc (x.1 27 0)).toNat) := by
    refine c_loop (fun k i (s : Int) => F_X8_nextEnd_11 z 0 (th x 0) k s i) (qcc (x.1 27 0)) 0 (fun _ => true) (fun i => if qne (x.1 27 0) i.toNat = -1 then 2147483647 else qne (x.1 27 0) i.toNat) 2147483647 z (by omega) (by omega) (by omega) rfl ?_ ?_ (by omega)
    · intro k i a0 a1
      show ckI 2 5366 _ = _
      rw [ckI_t (by omega) (by omega), th_C (by decide)]; exact if_pos a1
    · intro k i a0 a1
      have hle := qne_le hwl i.toNat (by omega)
      show ckI 2 5366 _ = F_X8_nextEnd_11 z 0 (th x 0) k (if qne (x.1 27 0) (i + 1).toNat = -1 then 2147483647 else qne (x.1 27 0) (i + 1).toNat) (i + 1)
      rw [ckI_t (by omega) (by omega), th_C (by decide), if_neg (show ¬ (x.1 27 0 (2 : Int).toNat ≤ i) from by show ¬ (qcc (x.1 27 0) ≤ i); omega), mH a0 (by omega), sbind, ib, ckR_t (by omega) (by omega), ckR_t (by omega) (by omega), ckR_t (by omega) (by omega), ckR_t (by omega) (by omega), ckI_t (by omega) (by omega), ckR_t (by omega) (by omega), qne_s a0]
      cases ql : qhl (x.1 27 0) i
      · rfl
      · have hq := (hwl i a0 (by omega) ql).2.1
        rw [if_neg (by decide), if_pos rfl]
        congr 1
        show min _ (qle (x.1 27 0) i) = _
        split <;> split <;> (try split) <;> omega
  have hle := qne_le hwl (qcc (x.1 27 0)).toNat (by omega)
  generalize qne (x.1 27 0) (qcc (x.1 27 0)).toNat = g at *
  by_cases q : g = -1
  · refine Pr.get h (y := .inr sN) ?_ (b := 0) (t := 1) ?_ (Ok.x rfl (by decide))
    · unfold F_X7_nextEnd
      rw [e7, sbind, if_pos q]
    · unfold F_X8_nextEnd
      rw [sbind, th_w, e8, sbind, if_pos q, if_pos rfl, e_fails0, sbind, it1, th_th]
  · refine Pr.get h (y := .inl g) ?_ (b := g) (t := 0) ?_ Ok.v
    · unfold F_X7_nextEnd
      rw [e7, sbind, if_neg q]
    · unfold F_X8_nextEnd
      rw [sbind, th_w, e8, sbind, if_neg q, if_neg (by omega), e_fails1, sbind, it0]
end
