/-! The class: readers, and the relation of its memory to the model's row. -/
def RN (x : Mm) (j : Nat) (r : Nat → Int) : Prop := x.1 4 j 0 = qct r ∧ (∀ n : Int, 0 ≤ n → n < qct r → x.1 21 j n.toNat = qpa r n ∧ x.1 22 j n.toNat = qlb r n ∧ ∀ m : Int, 0 ≤ m → m < 64 → has (x.2 30 j n.toNat) m = win r n m) ∧ (∀ n : Int, 0 ≤ n → n < 64 → has (x.2 4 j 1) n = (decide (n < qct r) && qrc r n))
def RH (x : Mm) (j : Nat) (r : Nat → Int) : Prop := x.1 6 j 0 = qtk r ∧ x.1 6 j 1 = qfc r ∧ x.1 6 j 2 = qcc r ∧ ∀ f : Int, 0 ≤ f → f < qfc r → x.1 20 j f.toNat = qru r f
def RB (al : Nat → BitVec 64) (vs : Nat → Int) (r : Nat → Int) : Prop := (∀ n : Int, 0 ≤ n → n < 64 → has (al 0) n = (decide (n < qct r) && qal r n)) ∧ (∀ n f : Int, 0 ≤ n → n < 60 → 0 ≤ f → f < 6 → vs (n * 6 + f).toNat = qtv r n f)
def RC (a ps : Nat → Int) (r : Nat → Int) : Prop := a 0 = qkc r ∧ ∀ i w : Int, 0 ≤ i → i < qkc r → 0 ≤ w → w < 6 → ps (i * 6 + w).toNat = qkp r i w
def RLs (x : Mm) (q : Nat) (c : Int) (r : Nat → Int) : Prop := x.1 3 q 0 = b2i (qhl r c) ∧ (qhl r c = true → (x.1 3 q 1 = qln r c ∧ x.1 3 q 2 = qle r c ∧ x.1 3 q 3 = qlx r c) ∧ (∀ n : Int, 0 ≤ n → n < 64 → has (x.2 3 q 4) n = (decide (n < qct r) && qcp r c 120 n) ∧ has (x.2 0 (3 * q + 1) 0) n = (decide (n < qct r) && qcp r c 0 n) ∧ has (x.2 0 (3 * q + 2) 0) n = (decide (n < qct r) && qcp r c 60 n)) ∧ (∀ n f : Int, 0 ≤ n → n < 60 → 0 ≤ f → f < 6 → (qcp r c 0 n = true → x.1 23 (3 * q + 1) (n * 6 + f).toNat = qov r c n f) ∧ (qcp r c 0 n = true ∨ qcp r c 120 n = true → x.1 23 (3 * q + 2) (n * 6 + f).toNat = qnv r c n f)))
section
variable (z : Nat) (x : Mm)
theorem k_bit {n : Int} (h0 : 0 ≤ n) (h1 : n < 64) : F_X7_bit z n x = some (bt n) := ckI_t h0 (by omega)
theorem k_contains {s : BitVec 64} {n : Int} (h0 : 0 ≤ n) (h1 : n < 64) : F_X7_contains z s n x = some (b2i (has s n)) := ckI_t h0 (by omega)
theorem k_has {b : Nat} {n : Int} (h0 : 0 ≤ n) (h1 : n < 64) : F_X0_has z b n x = some (b2i (has (x.2 0 b 0) n)) := by
  unfold F_X0_has; rw [k_contains z x h0 h1, sbind, ckZ_b]
theorem k_valueOf {b : Nat} {n f : Int} (h0 : 0 ≤ n) (h1 : n < 60) (f0 : 0 ≤ f) (f1 : f < 6) : F_X0_valueOf z b n f x = some (x.1 23 b (n * 6 + f).toNat) := by
  unfold F_X0_valueOf; rw [ckR_t (by omega) (by omega), ckR_t (by omega) (by omega), ckI_t (by omega) (by omega)]
theorem k_put {b : Nat} {n f v : Int} (h0 : 0 ≤ n) (h1 : n < 60) (f0 : 0 ≤ f) (f1 : f < 6) : F_X0_put z b n f v x = some (pj x 23 b (up (x.1 23 b) (n * 6 + f).toNat v)) := by
  unfold F_X0_put; rw [ckR_t (by omega) (by omega), ckR_t (by omega) (by omega), ckI_t (by omega) (by omega), sbind, wI_pj]
theorem k_takeFields {b b2 : Nat} {n : Int} (h0 : 0 ≤ n) (h1 : n < 60) : F_X0_takeFields z b b2 n x = some (pj x 23 b (cpy (x.1 23 b2) (n * 6).toNat (x.1 23 b) (n * 6).toNat (6 : Int).toNat)) := by
  unfold F_X0_takeFields; rw [ckR_t (by omega) (by omega), ckR_t (by omega) (by omega), ckC_t (by omega) (by omega) (by omega) (by omega) (by omega), sbind, wC_pj]
theorem k_copyB {b b2 : Nat} : F_X0_copyFrom z b b2 x = some (pj (pl x 0 b (up (x.2 0 b) 0 (x.2 0 b2 0))) 23 b (cpy (x.1 23 b2) (0 : Int).toNat (x.1 23 b) (0 : Int).toNat (360 : Int).toNat)) := by
  unfold F_X0_copyFrom; rw [sbind, ckC_t (by omega) (by omega) (by omega) (by omega) (by omega), sbind, wL_pl, wC_pj, pl_1]
theorem k_countDifferent (hz : 50000 ≤ z) {b b2 : Nat} {n : Int} (h0 : 0 ≤ n) (h1 : n < 60) : F_X0_countDifferent z b b2 n x = some (cn (fun f => !decide (x.1 23 b (n * 6 + f).toNat = x.1 23 b2 (n * 6 + f).toNat)) (6 : Int).toNat) := by
  unfold F_X0_countDifferent
  generalize hp : (fun f : Int => !decide (x.1 23 b (n * 6 + f).toNat = x.1 23 b2 (n * 6 + f).toNat)) = p
  refine Tt.eq ?_
  refine Tt.bind (P := fun v => v = cn p (6 : Int).toNat) ?_ (fun a e => Tt.ret e)
  refine loopU (fun k i (s : Int) => F_X0_countDifferent_5 z b b2 n x k s i) 6 (fun i s => 0 ≤ i ∧ i ≤ 6 ∧ s = cn p i.toNat) _ ?_ ?_ z 0 0 (by omega) (by omega) ⟨by omega, by omega, rfl⟩
  · rintro k s i hN ⟨i0, i1, rfl⟩
    refine Tt.of (v := cn p i.toNat) (if_pos hN) ?_
    rw [show i = 6 by omega]
  · rintro k s i hN ⟨i0, i1, rfl⟩
    refine Or.inl ⟨cn p (i + 1).toNat, ?_, by omega, by omega, rfl⟩
    have hc := cn_leI p i i0
    show (if (6 : Int) ≤ i then _ else _) = _
    rw [if_neg (by omega), k_valueOf z x h0 h1 i0 (by omega), sbind, k_valueOf z x h0 h1 i0 (by omega), sbind, cn_s i0]
    have hpi : p i = !decide (x.1 23 b (n * 6 + i).toNat = x.1 23 b2 (n * 6 + i).toNat) := by rw [← hp]
    by_cases q : x.1 23 b (n * 6 + i).toNat = x.1 23 b2 (n * 6 + i).toNat
    · rw [if_pos q, hpi, decide_eq_true q, ckR_t (by omega) (by omega)]; simp [b2i]
    · rw [if_neg q, hpi, decide_eq_false q, ckR_t (by omega) (by omega), ckR_t (by omega) (by omega)]; rfl
theorem k_atOrBelow (hz : 50000 ≤ z) {j : Nat} {t : Int} (h0 : 0 ≤ t) (h1 : t < 64) (c0 : 0 ≤ x.1 4 j 0) (c1 : x.1 4 j 0 ≤ 60) : Tt (F_X4_atOrBelow z j t x) (fun v => ∀ n : Int, 0 ≤ n → n < 64 → has v n = (decide (n < x.1 4 j 0) && has (x.2 30 j n.toNat) t)) := by
  unfold F_X4_atOrBelow
  refine Tt.bind (P := fun v => ∀ n : Int, 0 ≤ n → n < 64 → has v n = (decide (n < x.1 4 j 0) && has (x.2 30 j n.toNat) t)) ?_ (fun a e => Tt.ret e)
  refine loopU (fun k i (s : BitVec 64) => F_X4_atOrBelow_5 z j t x k s i) (x.1 4 j 0) (fun i s => 0 ≤ i ∧ i ≤ x.1 4 j 0 ∧ ∀ n : Int, 0 ≤ n → n < 64 → has s n = (decide (n < i) && has (x.2 30 j n.toNat) t)) _ ?_ ?_ z 0 _ (by omega) (by omega) ⟨by omega, by omega, fun n n0 n1 => ?_⟩
  · rintro k s i hN ⟨i0, i1, hs⟩
    refine Tt.of (v := s) (if_pos hN) ?_
    rw [show i = x.1 4 j 0 by omega] at hs; exact hs
  · rintro k s i hN ⟨i0, i1, hs⟩
    refine Or.inl ?_
    show ∃ s', (if x.1 4 j 0 ≤ i then _ else _) = _ ∧ _
    rw [if_neg (by omega), ckI_t (by omega) (by omega), k_contains z x h0 h1, sbind, ib, k_bit z x i0 (by omega), sbind]
    by_cases q : has (x.2 30 j i.toNat) t = false
    · rw [if_pos q, ckR_t (by omega) (by omega)]
      refine ⟨s, rfl, by omega, by omega, fun n n0 n1 => ?_⟩
      rw [hs n n0 n1]
      by_cases e : n = i
      · subst e; simp [q]
      · have e2 : (n < i) ↔ (n < i + 1) := by omega
        simp only [e2]
    · rw [if_neg q, ckR_t (by omega) (by omega)]
      refine ⟨_, rfl, by omega, by omega, fun n n0 n1 => ?_⟩
      rw [has_or, hs n n0 n1, has_bt i0 (by omega) n0]
      by_cases e : n = i
      · subst e
        have : has (x.2 30 j n.toNat) t = true := by simpa using q
        simp [this]; omega
      · have e2 : (n < i) ↔ (n < i + 1) := by omega
        simp only [e2, decide_eq_false e, Bool.or_false]
  · rw [has_0, decide_eq_false (by omega), Bool.false_and]
theorem k_childWith (hz : 50000 ≤ z) {j : Nat} {al : BitVec 64} {p l : Int} (c0 : 0 ≤ x.1 4 j 0) (c1 : x.1 4 j 0 ≤ 60) : F_X4_childWith z j al p l x = some (qff (fun n => decide (x.1 21 j n.toNat = p) && decide (x.1 22 j n.toNat = l) && has al n) (x.1 4 j 0).toNat 0) := by
  unfold F_X4_childWith
  generalize hp : (fun n : Int => decide (x.1 21 j n.toNat = p) && decide (x.1 22 j n.toNat = l) && has al n) = pp
  have key : ∀ (t : Nat) (k : Nat) (i : Int), 0 ≤ i → i + (t : Int) = x.1 4 j 0 → (t : Int) < (k : Int) → bndE (fun r => r) (F_X4_childWith_3 z j al p l x k i) (fun _ => some (-1 : Int)) = some (qff pp t i) := by
    intro t
    induction t with
    | zero =>
      intro k i i0 h1 h2
      obtain ⟨k, rfl⟩ : ∃ q, k = q + 1 := ⟨k - 1, by omega⟩
      have e : F_X4_childWith_3 z j al p l x (k + 1) i = some (.inl ()) := if_pos (by omega)
      rw [e]; rfl
    | succ t ih =>
      intro k i i0 h1 h2
      obtain ⟨k, rfl⟩ : ∃ q, k = q + 1 := ⟨k - 1, by omega⟩
      have ih' := ih k (i + 1) (by omega) (by omega) (by omega)
      show bndE (fun r => r) (if x.1 4 j 0 ≤ i then _ else _) _ = _
      have cI : ∀ {α : Type} {A : Option α}, ckR (i + 1) A = A := fun {α} {A} => ckR_t (by omega) (by omega)
      have cJ : ∀ {α : Type} {A : Option α}, ckI i 60 A = A := fun {α} {A} => ckI_t (by omega) (by omega)
      rw [if_neg (by omega), cJ, cJ, k_contains z x i0 (by omega), sbind, ib, cI]
      show _ = some (if pp i = true then i else qff pp t (i + 1))
      have hpi : pp i = (decide (x.1 21 j i.toNat = p) && decide (x.1 22 j i.toNat = l) && has al i) := by rw [← hp]
      rw [hpi]
      by_cases h3 : x.1 21 j i.toNat = p
      · rw [if_pos h3, decide_eq_true h3]
        by_cases h4 : x.1 22 j i.toNat = l
        · rw [if_pos h4, decide_eq_true h4]
          cases hq : has al i
          · rw [if_pos rfl, ih']; rfl
          · rfl
        · rw [if_neg h4, decide_eq_false h4, ih']; rfl
      · rw [if_neg h3, decide_eq_false h3, ih']; rfl
  exact key (x.1 4 j 0).toNat z 0 (by omega) (by omega) (by omega)
end
/-- the same child in the class and in the model -/
theorem k_childWithR (z : Nat) (hz : 50000 ≤ z) (x : Mm) {j : Nat} {r r1 : Nat → Int} {al : BitVec 64} {p l : Int} (hN : RN x j r) (hb : Wb r) (hS : Sm r r1) (hal : ∀ n : Int, 0 ≤ n → n < 64 → has al n = (decide (n < qct r) && qal r1 n)) : F_X4_childWith z j al p l x = some (qcw r1 p l) := by
  have h60 := hb.2.2.2.1
  rw [k_childWith z x hz (by rw [hN.1]; omega) (by rw [hN.1]; omega)]
  unfold qcw
  rw [hN.1, hS.ct]
  congr 1
  refine qff_congr _ _ (fun n n0 n1 => ?_)
  obtain ⟨e1, e2, _⟩ := hN.2.1 n n0 (by omega)
  rw [e1, e2, hal n n0 (by omega), decide_eq_true (show n < qct r by omega), hS.pa n0 (by omega), hS.lb n0 (by omega), Bool.true_and]
  cases qal r1 n <;> simp
