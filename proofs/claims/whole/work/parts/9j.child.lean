/-! child, walk -/
section
variable {z : Nat} {x y : Mm} {r : Nat → Int}
/-- v is an alive child of p -/
def isCh (r : Nat → Int) (p v : Int) : Prop := 0 ≤ v ∧ v < qct r ∧ qcc' r p v = true
/-- how many children of p have a label below L -/
def rk (r : Nat → Int) (p L : Int) : Int := cn (fun m => qcc' r p m && decide (qlb r m < L)) (qct r).toNat
def NC (r : Nat → Int) (p L v : Int) : Prop := (v = -1 ∧ ∀ m, isCh r p m → qlb r m ≤ L) ∨ (isCh r p v ∧ L < qlb r v ∧ ∀ m, isCh r p m → L < qlb r m → qlb r v ≤ qlb r m)
theorem qcc_iff {p v : Int} : qcc' r p v = true ↔ qal r v = true ∧ qpa r v = p := by unfold qcc'; simp
theorem isCh.f (ht : Wt r) {p v : Int} (p0 : 0 ≤ p) (h : isCh r p v) : 1 ≤ v ∧ v < qct r ∧ qal r v = true ∧ qpa r v = p ∧ p < v ∧ 0 ≤ qlb r v ∧ qlb r v ≤ 999 := by
  obtain ⟨h0, h1, h2⟩ := h
  rw [qcc_iff] at h2
  have v1 : 1 ≤ v := by
    by_cases q : v = 0
    · rw [q, ht.1] at h2; omega
    · omega
  have := ht.2.2 v v1 h1
  refine ⟨v1, h1, h2.1, h2.2, by omega, this.2.2.1, this.2.2.2⟩
theorem isCh.inj (ht : Wt r) (ha : Wa r) {p u v : Int} (p0 : 0 ≤ p) (hu : isCh r p u) (hv : isCh r p v) (e : qlb r u = qlb r v) : u = v := by
  obtain ⟨a1, a2, a3, a4, a5, a6⟩ := hu.f ht p0
  obtain ⟨b1, b2, b3, b4, b5, b6⟩ := hv.f ht p0
  by_cases q : u = v
  · exact q
  · exact absurd e (ha.2.2.2 u v a1 a2 b1 b2 q a3 b3 (by omega))
theorem cn_mono {p q : Int → Bool} : ∀ (k : Nat), (∀ i : Int, 0 ≤ i → i < (k : Int) → p i = true → q i = true) → cn p k ≤ cn q k := by
  intro k
  induction k with
  | zero => intro _; exact Int.le_refl _
  | succ k ih =>
    intro h
    have a := ih (fun i i0 i1 => h i i0 (by omega))
    show cn p k + b2i (p (k : Int)) ≤ cn q k + b2i (q (k : Int))
    have b := h (k : Int) (by omega) (by omega)
    cases hp : p (k : Int)
    · cases hq : q (k : Int)
      · rw [b2i_f]; omega
      · rw [b2i_f, b2i_t]; omega
    · rw [b hp, b2i_t]; omega
theorem cn_or {p q : Int → Bool} : ∀ (k : Nat), (∀ i : Int, 0 ≤ i → i < (k : Int) → p i = true → q i = false) → cn (fun i => p i || q i) k = cn p k + cn q k := by
  intro k
  induction k with
  | zero => intro _; rfl
  | succ k ih =>
    intro h
    have a := ih (fun i i0 i1 => h i i0 (by omega))
    show cn (fun i => p i || q i) k + b2i (p (k : Int) || q (k : Int)) = cn p k + b2i (p (k : Int)) + (cn q k + b2i (q (k : Int)))
    have b := h (k : Int) (by omega) (by omega)
    rw [a]
    cases hp : p (k : Int)
    · rw [Bool.false_or, b2i_f]; omega
    · rw [b hp, Bool.or_false, b2i_t, b2i_f]; omega
theorem rk_s (hb : Wb r) (ht : Wt r) (ha : Wa r) {p u : Int} (p0 : 0 ≤ p) (hu : isCh r p u) : cn (fun m => qcc' r p m && decide (qlb r m ≤ qlb r u)) (qct r).toNat = rk r p (qlb r u) + 1 := by
  unfold rk
  refine cn_ins (n := u) hu.1 (by have := hu.2.1; omega) (fun m m0 m1 => ?_) ?_
  · by_cases hm : qcc' r p m = true
    · have hc : isCh r p m := ⟨m0, by omega, hm⟩
      rw [hm, Bool.true_and, Bool.true_and]
      by_cases e : m = u
      · subst e; simp
      · have : qlb r m ≠ qlb r u := fun w => e (hc.inj ht ha p0 hu w)
        have e2 : (qlb r m ≤ qlb r u) ↔ (qlb r m < qlb r u) := by omega
        simp only [e2, decide_eq_false e, Bool.false_or]
    · have hm' : qcc' r p m = false := by simpa using hm
      have e : m ≠ u := fun w => hm (by rw [w]; exact hu.2.2)
      rw [hm', decide_eq_false e]; rfl
  · rw [decide_eq_false (by omega), Bool.and_false]
theorem rk_inj (hb : Wb r) (ht : Wt r) (ha : Wa r) {p u v : Int} (p0 : 0 ≤ p) (hu : isCh r p u) (hv : isCh r p v) (e : rk r p (qlb r u) = rk r p (qlb r v)) : u = v := by
  have key : ∀ {u v : Int}, isCh r p u → isCh r p v → qlb r u < qlb r v → rk r p (qlb r u) + 1 ≤ rk r p (qlb r v) := by
    intro u v hu hv w
    rw [← rk_s hb ht ha p0 hu]
    refine cn_mono _ (fun i i0 i1 hi => ?_)
    simp only [Bool.and_eq_true, decide_eq_true_eq] at hi ⊢
    exact ⟨hi.1, by omega⟩
  by_cases q : qlb r u = qlb r v
  · exact hu.inj ht ha p0 hv q
  · by_cases q2 : qlb r u < qlb r v
    · have := key hu hv q2; omega
    · have := key hv hu (by omega); omega
theorem rk_b (hb : Wb r) (ht : Wt r) (ha : Wa r) {p u : Int} (p0 : 0 ≤ p) (hu : isCh r p u) : 0 ≤ rk r p (qlb r u) ∧ rk r p (qlb r u) < qct r := by
  have h60 := hb.2.2.2.1
  have h1 := cn_leI (fun m => qcc' r p m && decide (qlb r m ≤ qlb r u)) (qct r) (by omega)
  have h2 := cn_leI (fun m => qcc' r p m && decide (qlb r m < qlb r u)) (qct r) (by omega)
  rw [rk_s hb ht ha p0 hu] at h1
  have : rk r p (qlb r u) = cn (fun m => qcc' r p m && decide (qlb r m < qlb r u)) (qct r).toNat := rfl
  omega
/-- the least label -/
theorem NC_0 (ht : Wt r) {p v : Int} (p0 : 0 ≤ p) (h : NC r p (-1) v) : (v = -1 ∧ ∀ m, ¬ isCh r p m) ∨ (isCh r p v ∧ rk r p (qlb r v) = 0 ∧ ∀ m, isCh r p m → qlb r v ≤ qlb r m) := by
  rcases h with ⟨h1, h2⟩ | ⟨h1, h2, h3⟩
  · refine Or.inl ⟨h1, fun m hm => ?_⟩
    have := h2 m hm
    have := (hm.f ht p0).2.2.2.2.2
    omega
  · have h4 : ∀ m, isCh r p m → qlb r v ≤ qlb r m := fun m hm => h3 m hm (by have := (hm.f ht p0).2.2.2.2.2; omega)
    refine Or.inr ⟨h1, ?_, h4⟩
    unfold rk
    refine cn_none (N := qct r) (fun m m0 m1 => ?_)
    by_cases hm : qcc' r p m = true
    · have := h4 m ⟨m0, m1, hm⟩
      rw [decide_eq_false (by omega), Bool.and_false]
    · have hm' : qcc' r p m = false := by simpa using hm
      rw [hm']; rfl
/-- the next label -/
theorem NC_1 (hb : Wb r) (ht : Wt r) (ha : Wa r) {p u v : Int} (p0 : 0 ≤ p) (hu : isCh r p u) (h : NC r p (qlb r u) v) : (v = -1 ∧ (∀ m, isCh r p m → qlb r m ≤ qlb r u) ∧ cn (qcc' r p) (qct r).toNat = rk r p (qlb r u) + 1) ∨ (isCh r p v ∧ rk r p (qlb r v) = rk r p (qlb r u) + 1 ∧ ∀ m, isCh r p m → (qlb r m < qlb r v ↔ qlb r m ≤ qlb r u)) := by
  rcases h with ⟨h1, h2⟩ | ⟨h1, h2, h3⟩
  · refine Or.inl ⟨h1, h2, ?_⟩
    rw [← rk_s hb ht ha p0 hu]
    refine cn_congr (fun m m0 m1 => ?_)
    by_cases hm : qcc' r p m = true
    · rw [decide_eq_true (h2 m ⟨m0, by omega, hm⟩), Bool.and_true]
    · have hm' : qcc' r p m = false := by simpa using hm
      rw [hm']; rfl
  · have h4 : ∀ m, isCh r p m → (qlb r m < qlb r v ↔ qlb r m ≤ qlb r u) := by
      intro m hm
      by_cases q : qlb r u < qlb r m
      · have := h3 m hm q; omega
      · omega
    refine Or.inr ⟨h1, ?_, h4⟩
    rw [← rk_s hb ht ha p0 hu]
    unfold rk
    refine cn_congr (fun m m0 m1 => ?_)
    by_cases hm : qcc' r p m = true
    · have := h4 m ⟨m0, by omega, hm⟩
      simp only [this]
    · have hm' : qcc' r p m = false := by simpa using hm
      rw [hm']; rfl
theorem k_nextChild (hz : 50000 ≤ z) {al : BitVec 64} {p L : Int} (hN : RN x 0 r) (hb : Wb r) (hal : ∀ m : Int, 0 ≤ m → m < 64 → has al m = (decide (m < qct r) && qal r m)) : Tt (F_X4_nextChild z 0 al p L x) (NC r p L) := by
  have h60 := hb.2.2.2.1
  unfold F_X4_nextChild
  refine Tt.bind (P := NC r p L) ?_ (fun a e => Tt.ret e)
  refine loopU (fun k i (s : Int) => F_X4_nextChild_6 z 0 al p L x k s i) (qct r) (fun i s => 0 ≤ i ∧ i ≤ qct r ∧ ((s = -1 ∧ ∀ m, isCh r p m → m < i → qlb r m ≤ L) ∨ (isCh r p s ∧ s < i ∧ L < qlb r s ∧ ∀ m, isCh r p m → m < i → L < qlb r m → qlb r s ≤ qlb r m))) _ ?_ ?_ z 0 (-1) (by omega) (by omega) ⟨by omega, by omega, Or.inl ⟨rfl, fun m hm w => by have := hm.1; omega⟩⟩
  · rintro k s i hN' ⟨i0, i1, hs⟩
    refine Tt.of (v := s) ?_ ?_
    · show (if x.1 4 0 0 ≤ i then _ else _) = _
      rw [hN.1, if_pos hN']
    · rcases hs with ⟨a, b⟩ | ⟨a, b, c, d⟩
      · exact Or.inl ⟨a, fun m hm => b m hm (by have := hm.2.1; omega)⟩
      · exact Or.inr ⟨a, c, fun m hm => d m hm (by have := hm.2.1; omega)⟩
  · rintro k s i hN' ⟨i0, i1, hs⟩
    refine Or.inl ?_
    have cI : ∀ A : Option Int, ckR (i + 1) A = A := fun A => ckR_t (by omega) (by omega)
    have cK : ∀ A : Option Int, ckI i 60 A = A := fun A => ckI_t (by omega) (by omega)
    have e : F_X4_nextChild_6 z 0 al p L x (k + 1) s i = (if qpa r i = p then (if qal r i = false then F_X4_nextChild_6 z 0 al p L x k s (i + 1) else if qlb r i ≤ L then F_X4_nextChild_6 z 0 al p L x k s (i + 1) else if s = -1 then F_X4_nextChild_6 z 0 al p L x k i (i + 1) else ckI s 60 (if x.1 22 0 s.toNat ≤ qlb r i then F_X4_nextChild_6 z 0 al p L x k s (i + 1) else F_X4_nextChild_6 z 0 al p L x k i (i + 1))) else F_X4_nextChild_6 z 0 al p L x k s (i + 1)) := by
      show (if x.1 4 0 0 ≤ i then _ else _) = _
      rw [hN.1, if_neg (by omega), ckI_t i0 (by omega), (hN.2.1 i i0 hN').1, k_contains z x i0 (by omega), sbind, ib, hal i i0 (by omega), decide_eq_true hN', Bool.true_and]
      simp only [cI, cK, (hN.2.1 i i0 hN').2.1]
    show ∃ s', F_X4_nextChild_6 z 0 al p L x (k + 1) s i = _ ∧ _
    rw [e]
    have skip : (isCh r p i → qlb r i ≤ L ∨ (isCh r p s ∧ qlb r s ≤ qlb r i)) → (0 ≤ i + 1 ∧ i + 1 ≤ qct r ∧ ((s = -1 ∧ ∀ m, isCh r p m → m < i + 1 → qlb r m ≤ L) ∨ (isCh r p s ∧ s < i + 1 ∧ L < qlb r s ∧ ∀ m, isCh r p m → m < i + 1 → L < qlb r m → qlb r s ≤ qlb r m))) := by
      intro w
      refine ⟨by omega, by omega, ?_⟩
      rcases hs with ⟨a, b⟩ | ⟨a, b, c, d⟩
      · refine Or.inl ⟨a, fun m hm w2 => ?_⟩
        by_cases q : m = i
        · subst q
          rcases w hm with g | g
          · exact g
          · have := g.1.1; omega
        · exact b m hm (by omega)
      · refine Or.inr ⟨a, by omega, c, fun m hm w2 w3 => ?_⟩
        by_cases q : m = i
        · subst q
          rcases w hm with g | g
          · omega
          · exact g.2
        · exact d m hm (by omega) w3
    by_cases q1 : qpa r i = p
    · rw [if_pos q1]
      by_cases q2 : qal r i = false
      · rw [if_pos q2]
        refine ⟨s, rfl, skip (fun w => ?_)⟩
        have := (qcc_iff.mp w.2.2).1
        rw [q2] at this; cases this
      · rw [if_neg q2]
        have hi : isCh r p i := ⟨i0, hN', qcc_iff.mpr ⟨by simpa using q2, q1⟩⟩
        by_cases q3 : qlb r i ≤ L
        · rw [if_pos q3]
          exact ⟨s, rfl, skip (fun _ => Or.inl q3)⟩
        · rw [if_neg q3]
          by_cases q4 : s = -1
          · rw [if_pos q4]
            refine ⟨i, rfl, by omega, by omega, Or.inr ⟨hi, by omega, by omega, fun m hm w2 w3 => ?_⟩⟩
            by_cases q : m = i
            · rw [q]; exact Int.le_refl _
            · rcases hs with ⟨a, b⟩ | ⟨a, b, c, d⟩
              · have := b m hm (by omega); omega
              · have := a.1; omega
          · rw [if_neg q4]
            rcases hs with ⟨a, b⟩ | ⟨a, b, c, d⟩
            · exact absurd a q4
            · have a1 := a.1
              have a2 := a.2.1
              rw [ckI_t a1 (by omega), (hN.2.1 s a1 a2).2.1]
              by_cases q5 : qlb r s ≤ qlb r i
              · rw [if_pos q5]
                exact ⟨s, rfl, by omega, by omega, Or.inr ⟨a, by omega, c, fun m hm w2 w3 => by
                  by_cases q : m = i
                  · rw [q]; exact q5
                  · exact d m hm (by omega) w3⟩⟩
              · rw [if_neg q5]
                refine ⟨i, rfl, by omega, by omega, Or.inr ⟨hi, by omega, by omega, fun m hm w2 w3 => ?_⟩⟩
                by_cases q : m = i
                · rw [q]; exact Int.le_refl _
                · have := d m hm (by omega) w3; omega
    · rw [if_neg q1]
      exact ⟨s, rfl, skip (fun w => absurd (qcc_iff.mp w.2.2).2 q1)⟩
theorem e_rank (hz : 50000 ≤ z) {w : Mm} (hw : w.1 27 0 = r) (hb : Wb r) (ht : Wt r) {p a b i : Int} (p0 : 0 ≤ p) (i0 : 0 ≤ i) (i1 : i < qct r) : F_X8_childAt_45 z 0 p a b i w z 0 1 = some (rk r p (qlb r i)) := by
  have h60 := hb.2.2.2.1
  have e0 : qcc' r p 0 = false := by
    unfold qcc'; rw [decide_eq_false (by rw [ht.1]; omega), Bool.and_false]
  unfold rk
  generalize hp : (fun m : Int => qcc' r p m && decide (qlb r m < qlb r i)) = q
  have hq : ∀ m, q m = (qcc' r p m && decide (qlb r m < qlb r i)) := fun m => by rw [← hp]
  refine c_loop (fun k i' (s : Int) => F_X8_childAt_45 z 0 p a b i w k s i') (qct r) 1 q (fun i => cn q i.toNat) 0 z (by omega) (by omega) (by omega) ?_ ?_ ?_ (by omega)
  · show (0 : Int) = 0 + b2i (q ((0 : Nat) : Int))
    rw [hq, show ((0 : Nat) : Int) = 0 from rfl, e0]; rfl
  · intro k m a0 a1
    show ckI 3 5366 _ = _
    rw [ckI_t (by omega) (by omega), hw]; exact if_pos a1
  · intro k m a0 a1
    have hc := cn_leI q m (by omega)
    have cI : ∀ A : Option Int, ckR (m + 1) A = A := fun A => ckR_t (by omega) (by omega)
    have cJ : ∀ A : Option Int, ckR (cn q m.toNat + 0) A = A := fun A => ckR_t (by omega) (by omega)
    show ckI 3 5366 _ = _
    rw [ckI_t (by omega) (by omega), hw, if_neg (show ¬ (r (3 : Int).toNat ≤ m) from by show ¬ (qct r ≤ m); omega), e_isAlive z m w (by omega) (by omega), sbind, ib, hw]
    simp only [cI, cJ]
    show _ = F_X8_childAt_45 z 0 p a b i w k (cn q (m + 1).toNat) (m + 1)
    rw [cn_s (by omega), hq]
    unfold qcc'
    cases ha : qal r m
    · rw [if_pos rfl]; rfl
    · rw [if_neg (by decide), ckR_t (by omega) (by omega), ckI_t (by omega) (by omega)]
      by_cases q1 : qpa r m = p
      · rw [if_pos (show r (11 + m).toNat = p from q1), decide_eq_true q1, ckR_t (by omega) (by omega), ckI_t (by omega) (by omega), ckR_t (by omega) (by omega), ckI_t (by omega) (by omega), ckR_t (by omega) (by omega)]
        by_cases q2 : qlb r i ≤ qlb r m
        · rw [if_pos (show r (71 + i).toNat ≤ r (71 + m).toNat from q2), decide_eq_false (by omega)]; rfl
        · rw [if_neg (show ¬ r (71 + i).toNat ≤ r (71 + m).toNat from q2), decide_eq_true (by omega)]; rfl
      · rw [if_neg (show ¬ r (11 + m).toNat = p from q1), decide_eq_false q1]; rfl
theorem e_childAt (hz : 50000 ≤ z) {w : Mm} (hw : w.1 27 0 = r) (hb : Wb r) (ht : Wt r) (ha : Wa r) {p u : Int} (p0 : 0 ≤ p) (hu : isCh r p u) : F_X8_childAt z 0 p (rk r p (qlb r u)) w = some u := by
  have h60 := hb.2.2.2.1
  have huf := hu.f ht p0
  unfold F_X8_childAt
  refine Tt.eq ?_
  refine Tt.bind (P := fun v => v = u) ?_ (fun a e => Tt.ret e)
  generalize hi : rk r p (qlb r u) = i
  refine loopU (fun k n (s : Int) => F_X8_childAt_5 z 0 p i w k s n) (qct r) (fun n s => 1 ≤ n ∧ n ≤ qct r ∧ s = (if u < n then u else -1)) _ ?_ ?_ z 1 (-1) (by omega) (by omega) ⟨by omega, by omega, by rw [if_neg (by omega)]⟩
  · rintro k s n hN' ⟨n0, n1, hs⟩
    refine Tt.of (v := s) ?_ ?_
    · show (ckI (3 : Int) 5366 <| if w.1 27 0 (3 : Int).toNat ≤ n then _ else _) = _
      rw [ckI_t (by omega) (by omega), hw]; exact if_pos hN'
    · rw [hs, if_pos (by omega)]
  · rintro k s n hN' ⟨n0, n1, hs⟩
    refine Or.inl ?_
    have cI : ∀ A : Option Int, ckR (n + 1) A = A := fun A => ckR_t (by omega) (by omega)
    have e : F_X8_childAt_5 z 0 p i w (k + 1) s n = (if qal r n = false then F_X8_childAt_5 z 0 p i w k s (n + 1) else if qpa r n = p then (if rk r p (qlb r n) = i then F_X8_childAt_5 z 0 p i w k n (n + 1) else F_X8_childAt_5 z 0 p i w k s (n + 1)) else F_X8_childAt_5 z 0 p i w k s (n + 1)) := by
      show (ckI (3 : Int) 5366 <| if w.1 27 0 (3 : Int).toNat ≤ n then _ else _) = _
      rw [ckI_t (by omega) (by omega), hw, if_neg (show ¬ (r (3 : Int).toNat ≤ n) from by show ¬ (qct r ≤ n); omega), e_isAlive z n w (by omega) (by omega), sbind, ib, hw, ckR_t (by omega) (by omega), ckI_t (by omega) (by omega), ckR_t (by omega) (by omega), e_rank hz hw hb ht p0 (by omega) hN', sbind, cI]
      rfl
    show ∃ s', F_X8_childAt_5 z 0 p i w (k + 1) s n = _ ∧ _
    rw [e]
    by_cases q : n = u
    · subst q
      rw [if_neg (by rw [huf.2.2.1]; decide), if_pos huf.2.2.2.1, if_pos hi]
      exact ⟨n, rfl, by omega, by omega, by rw [if_pos (by omega)]⟩
    · have fin : 1 ≤ n + 1 ∧ n + 1 ≤ qct r ∧ s = (if u < n + 1 then u else -1) := by
        refine ⟨by omega, by omega, ?_⟩
        rw [hs]
        by_cases q2 : u < n
        · rw [if_pos q2, if_pos (by omega)]
        · rw [if_neg q2, if_neg (by omega)]
      by_cases q2 : qal r n = false
      · rw [if_pos q2]; exact ⟨s, rfl, fin⟩
      · rw [if_neg q2]
        by_cases q3 : qpa r n = p
        · rw [if_pos q3, if_neg]
          · exact ⟨s, rfl, fin⟩
          · intro w2
            exact q (rk_inj hb ht ha p0 ⟨by omega, hN', qcc_iff.mpr ⟨by simpa using q2, q3⟩⟩ hu (w2.trans hi.symm))
        · rw [if_neg q3]; exact ⟨s, rfl, fin⟩
theorem k_childLoop (hz : 50000 ≤ z) (h : Inv x) {p v : Int} (p0 : 0 ≤ p) (hv : v < cn (qcc' (x.1 27 0) p) (qct (x.1 27 0)).toNat) : ∀ (n k : Nat) (u i : Int), isCh (x.1 27 0) p u → rk (x.1 27 0) p (qlb (x.1 27 0) u) = i → i ≤ v → (v - i).toNat ≤ n → n < k → Tt (F_X7_child_71 z 0 p v x k u i) (fun w => isCh (x.1 27 0) p w ∧ rk (x.1 27 0) p (qlb (x.1 27 0) w) = v) := by
  have hb := h.1.1.1
  have ht := h.1.1.2.1
  have ha := h.1.1.2.2.1
  have h60 := hb.2.2.2.1
  intro n
  induction n with
  | zero =>
    intro k u i hu hr hi h1 h2
    obtain ⟨k, rfl⟩ : ∃ k', k = k' + 1 := ⟨k - 1, by omega⟩
    show Tt (if v ≤ i then _ else _) _
    rw [if_pos (by omega)]
    exact Tt.ret ⟨hu, by omega⟩
  | succ n ih =>
    intro k u i hu hr hi h1 h2
    obtain ⟨k, rfl⟩ : ∃ k', k = k' + 1 := ⟨k - 1, by omega⟩
    show Tt (if v ≤ i then _ else _) _
    by_cases q : v ≤ i
    · rw [if_pos q]
      exact Tt.ret ⟨hu, by omega⟩
    · have hrb := rk_b hb ht ha p0 hu
      have hu0 := hu.1
      have hu1 := hu.2.1
      rw [if_neg q, if_neg (by omega), ckI_t hu0 (by omega), (h.1.2.2.1.2.1 u hu0 hu1).2.1]
      refine (k_nextChild hz h.1.2.2.1 hb (hal' h)).bind (fun w hw => ?_)
      rcases NC_1 hb ht ha p0 hu hw with ⟨a1, a2, a3⟩ | ⟨a1, a2, a3⟩
      · omega
      · rw [ckR_t (by omega) (by omega)]
        exact ih k w (i + 1) a1 (by omega) (by omega) (by omega) (by omega)
theorem p_child (hz : 50000 ≤ z) (h : Inv x) (n v : Int) : Pr [sI] (F_X7_child z 0 n v) (F_X8_child z 0 n v) x := by
  have hb := h.1.1.1
  have ht := h.1.1.2.1
  have ha := h.1.1.2.2.1
  have h60 := hb.2.2.2.1
  by_cases qn : 0 ≤ n ∧ n < qct (x.1 27 0)
  · have hcl := cn_leI (qcc' (x.1 27 0) n) (qct (x.1 27 0)) (by omega)
    have e8 : F_X8_child z 0 n v x = if 0 ≤ v ∧ v ≤ cn (qcc' (x.1 27 0) n) (qct (x.1 27 0)).toNat - 1 then F_X8_child_34 z 0 n v 1 0 (th x 0) else F_X8_child_33 z 0 n v 0 (th x 0) := by
      unfold F_X8_child
      rw [sbind, th_w, mN h, sbind, dt qn, m_childrenOf hz h qn.1, sbind, ckR_t (by omega) (by omega), e_in, sbind, ib]
      by_cases q : 0 ≤ v ∧ v ≤ cn (qcc' (x.1 27 0) n) (qct (x.1 27 0)).toNat - 1
      · rw [if_pos q, decide_eq_true q]; rfl
      · rw [if_neg q, decide_eq_false q]; rfl
    by_cases q : 0 ≤ v ∧ v ≤ cn (qcc' (x.1 27 0) n) (qct (x.1 27 0)).toNat - 1
    · rw [if_pos q] at e8
      obtain ⟨u0, f0, g0⟩ := k_nextChild (z := z) (x := x) (p := n) (L := -1) hz h.1.2.2.1 hb (hal' h)
      rcases NC_0 ht qn.1 g0 with ⟨a1, a2⟩ | ⟨a1, a2, a3⟩
      · exfalso
        have : cn (qcc' (x.1 27 0) n) (qct (x.1 27 0)).toNat = 0 := cn_none (fun m m0 m1 => by
          by_cases w : qcc' (x.1 27 0) n m = true
          · exact absurd ⟨m0, m1, w⟩ (a2 m)
          · simpa using w)
        omega
      · obtain ⟨w, f1, g1, g2⟩ := k_childLoop (z := z) hz h (p := n) (v := v) qn.1 (by omega) 60 z u0 0 a1 a2 q.1 (by omega) (by omega)
        refine Pr.get h (y := .inl w) (b := w) (t := 0) ?_ ?_ Ok.v
        · unfold F_X7_child
          rw [rn_t h qn, bndXl, if_neg (by omega), k_countChildren hz h.1.2.2.1 hb (hal' h), sbind, if_pos (by omega), f0, sbind, f1, sbind]
        · have e9 := e_childAt (z := z) (w := th x 0) (r := x.1 27 0) hz (th_C (by decide)) hb ht ha qn.1 g1
          rw [g2] at e9
          rw [e8]
          unfold F_X8_child_34
          rw [e_fails1, sbind, it0, e9, sbind]
    · rw [if_neg q] at e8
      refine Pr.get h (y := .inr sI) (b := 0) (t := 1) ?_ ?_ (Ok.x rfl (by decide))
      · unfold F_X7_child
        rw [rn_t h qn, bndXl]
        by_cases w : v < 0
        · rw [if_pos w]
        · rw [if_neg w, k_countChildren hz h.1.2.2.1 hb (hal' h), sbind, if_neg (by omega)]
      · rw [e8]
        unfold F_X8_child_33 F_X8_child_34
        rw [e_fails0, sbind, it1, th_th]
  · refine Pr.get h (y := .inr sI) ?_ (b := 0) (t := 1) ?_ (Ok.x rfl (by decide))
    · unfold F_X7_child
      rw [rn_f h qn, bndXr]
    · unfold F_X8_child F_X8_child_33 F_X8_child_34
      rw [sbind, th_w, mN h, sbind, df qn, e_fails0, sbind, it1, th_th]
end
