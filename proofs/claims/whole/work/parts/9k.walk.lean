/-! walk: the nodes below, by the children in the order of their labels -/
section
variable {z : Nat} {x y : Mm} {r : Nat → Int}
/-- k lies at or below a child of p whose label is below L -/
def bel (r : Nat → Int) (p L k : Int) : Bool := !qall (fun m => !(qcc' r p m && decide (qlb r m < L) && win r k m)) (qct r).toNat
theorem bel_iff (hb : Wb r) {p L k : Int} : bel r p L k = true ↔ ∃ m, isCh r p m ∧ qlb r m < L ∧ win r k m = true := by
  have h60 := hb.2.2.2.1
  unfold bel
  constructor
  · intro h
    apply Classical.byContradiction
    intro w
    have : qall (fun m => !(qcc' r p m && decide (qlb r m < L) && win r k m)) (qct r).toNat = true := (qall_iffI (by omega)).mpr (fun m m0 m1 => by
      cases e : (qcc' r p m && decide (qlb r m < L) && win r k m)
      · rfl
      · simp only [Bool.and_eq_true, decide_eq_true_eq] at e
        exact absurd ⟨m, ⟨m0, m1, e.1.1⟩, e.1.2, e.2⟩ w)
    rw [this] at h; cases h
  · rintro ⟨m, ⟨m0, m1, m2⟩, h1, h2⟩
    cases e : qall (fun m => !(qcc' r p m && decide (qlb r m < L) && win r k m)) (qct r).toNat
    · rfl
    · have := (qall_iffI (by omega)).mp e m m0 m1
      simp [m2, h1, h2] at this
theorem win_ch (hb : Wb r) (ht : Wt r) {p m : Int} (p0 : 0 ≤ p) (hm : isCh r p m) : ∀ (n : Nat) (k : Int), k ≤ (n : Int) → k < qct r → win r k m = true → win r k p = true := by
  obtain ⟨m1, m2, m3, m4, m5, m6⟩ := hm.f ht p0
  intro n
  induction n with
  | zero => intro k h1 h2 h3; have := win_le h3; omega
  | succ n ih =>
    intro k h1 h2 h3
    have hle := win_le h3
    have hpk := ht.2.2 k (by omega) h2
    by_cases e : k = m
    · rw [e, win_up hb ht p0 m5 m2, m4]; exact win_rf
    · rw [win_up hb ht (by omega) (by omega) h2] at h3
      rw [win_up hb ht p0 (by omega) h2]
      exact ih _ (by omega) (by omega) h3
theorem win_u (hb : Wb r) (ht : Wt r) {p m m' : Int} (p0 : 0 ≤ p) (hm : isCh r p m) (hm' : isCh r p m') : ∀ (n : Nat) (k : Int), k ≤ (n : Int) → k < qct r → win r k m = true → win r k m' = true → m = m' := by
  obtain ⟨m1, m2, m3, m4, m5, m6⟩ := hm.f ht p0
  obtain ⟨l1, l2, l3, l4, l5, l6⟩ := hm'.f ht p0
  intro n
  induction n with
  | zero => intro k h1 h2 h3; have := win_le h3; omega
  | succ n ih =>
    intro k h1 h2 h3 h4
    have hle := win_le h3
    have hle' := win_le h4
    have hpk := ht.2.2 k (by omega) h2
    by_cases e : k = m
    · by_cases e' : k = m'
      · omega
      · exfalso
        rw [win_up hb ht (by omega) (by omega) h2, e, m4] at h4
        have := win_le h4
        omega
    · by_cases e' : k = m'
      · exfalso
        rw [win_up hb ht (by omega) (by omega) h2, e', l4] at h3
        have := win_le h3
        omega
      · rw [win_up hb ht (by omega) (by omega) h2] at h3 h4
        exact ih _ (by omega) (by omega) h3 h4
theorem win_ex (hb : Wb r) (ht : Wt r) (ha : Wa r) {p : Int} (p0 : 0 ≤ p) : ∀ (n : Nat) (k : Int), k ≤ (n : Int) → k < qct r → win r k p = true → k ≠ p → qal r k = true → ∃ m, isCh r p m ∧ win r k m = true := by
  intro n
  induction n with
  | zero => intro k h1 h2 h3 h4; have := win_le h3; omega
  | succ n ih =>
    intro k h1 h2 h3 h4 h5
    have hle := win_le h3
    have hpk := ht.2.2 k (by omega) h2
    by_cases e : qpa r k = p
    · exact ⟨k, ⟨by omega, h2, qcc_iff.mpr ⟨h5, e⟩⟩, win_rf⟩
    · rw [win_up hb ht p0 (by omega) h2] at h3
      obtain ⟨m, g1, g2⟩ := ih _ (by omega) (by omega) h3 e (ha.2.2.1 k (by omega) h2 h5)
      have := win_le g2
      exact ⟨m, g1, by rw [win_up hb ht g1.1 (by omega) h2]; exact g2⟩
/-- how many alive nodes lie at or below the children of p whose labels are below L -/
def BQ (r : Nat → Int) (p L : Int) : Int := cn (fun k => qal r k && bel r p L k) (qct r).toNat
theorem BQ_congr (hb : Wb r) {p L L' : Int} (h : ∀ m, isCh r p m → (qlb r m < L ↔ qlb r m < L')) : BQ r p L = BQ r p L' := by
  unfold BQ
  refine cn_congr (fun k k0 k1 => ?_)
  congr 1
  rw [Bool.eq_iff_iff, bel_iff hb, bel_iff hb]
  constructor
  · rintro ⟨m, a, b, c⟩; exact ⟨m, a, (h m a).mp b, c⟩
  · rintro ⟨m, a, b, c⟩; exact ⟨m, a, (h m a).mpr b, c⟩
theorem BQ_none (hb : Wb r) {p L : Int} (h : ∀ m, isCh r p m → ¬ qlb r m < L) : BQ r p L = 0 := by
  unfold BQ
  refine cn_none (N := qct r) (fun k k0 k1 => ?_)
  cases e : bel r p L k
  · rw [Bool.and_false]
  · obtain ⟨m, a, b, c⟩ := (bel_iff hb).mp e
    exact absurd b (h m a)
theorem BQ_next (hb : Wb r) (ht : Wt r) (ha : Wa r) {p u : Int} (p0 : 0 ≤ p) (hu : isCh r p u) : BQ r p (qlb r u + 1) = BQ r p (qlb r u) + qsz r u := by
  have h60 := hb.2.2.2.1
  unfold BQ qsz
  rw [← cn_or]
  · refine cn_congr (fun k k0 k1 => ?_)
    rw [← Bool.and_or_distrib_left]
    congr 1
    rw [Bool.eq_iff_iff, Bool.or_eq_true, bel_iff hb, bel_iff hb]
    constructor
    · rintro ⟨m, a, b, c⟩
      by_cases e : m = u
      · rw [e] at c; exact Or.inr c
      · have : qlb r m ≠ qlb r u := fun w => e (a.inj ht ha p0 hu w)
        exact Or.inl ⟨m, a, by omega, c⟩
    · rintro (⟨m, a, b, c⟩ | w)
      · exact ⟨m, a, by omega, c⟩
      · exact ⟨u, hu, by omega, w⟩
  · intro k k0 k1 hk
    simp only [Bool.and_eq_true] at hk
    obtain ⟨m, a, b, c⟩ := (bel_iff hb).mp hk.2
    cases e : win r k u
    · rw [Bool.and_false]
    · exfalso
      have := win_u hb ht p0 a hu k.toNat k (by omega) (by omega) c e
      rw [this] at b; omega
theorem BQ_all (hb : Wb r) (ht : Wt r) (ha : Wa r) {p L : Int} (p0 : 0 ≤ p) (p1 : p < qct r) (pa : qal r p = true) (h : ∀ m, isCh r p m → qlb r m < L) : qsz r p = BQ r p L + 1 := by
  have h60 := hb.2.2.2.1
  unfold BQ qsz
  refine cn_ins (n := p) p0 (by omega) (fun k k0 k1 => ?_) ?_
  · by_cases e : k = p
    · subst e; rw [win_rf, pa, decide_eq_true rfl]; rfl
    · rw [decide_eq_false e, Bool.false_or]
      cases hk : qal r k
      · rfl
      · rw [Bool.true_and, Bool.true_and, Bool.eq_iff_iff, bel_iff hb]
        constructor
        · intro w
          obtain ⟨m, g1, g2⟩ := win_ex hb ht ha p0 k.toNat k (by omega) (by omega) w e hk
          exact ⟨m, g1, h m g1, g2⟩
        · rintro ⟨m, a, b, c⟩
          exact win_ch hb ht p0 a k.toNat k (by omega) (by omega) c
  · cases e : bel r p L p
    · rw [Bool.and_false]
    · obtain ⟨m, a, b, c⟩ := (bel_iff hb).mp e
      have := win_le c
      have := (a.f ht p0).2.2.2.2.1
      omega
theorem BQ_0 {p L : Int} : 0 ≤ BQ r p L := (cn_le _ _).1
theorem qsz_b (hb : Wb r) {p : Int} : 0 ≤ qsz r p ∧ qsz r p ≤ 60 := by
  have h60 := hb.2.2.2.1
  have := cn_leI (fun k => qal r k && win r k p) (qct r) (by omega)
  unfold qsz; omega
theorem wk_in (hz : 50000 ≤ z) (h : Inv x) {p a b c d e : Int} (p0 : 0 ≤ p) (p1 : p < qct (x.1 27 0)) (pa : qal (x.1 27 0) p = true) : ∀ (n k k2 : Nat) (u i w : Int), isCh (x.1 27 0) p u → rk (x.1 27 0) p (qlb (x.1 27 0) u) = i → 60 - i ≤ (n : Int) → n < k → n < k2 → 0 ≤ w → BQ (x.1 27 0) p (qlb (x.1 27 0) u) + w < qsz (x.1 27 0) p - 1 → ∃ u' w', isCh (x.1 27 0) p u' ∧ F_X4_walked_44 z 0 (x.2 0 (3 * 0) 0) a b p c x k w u i = some (w', u') ∧ F_X8_walk_59 z 0 d e p (th x 0) k2 w i = some (w', rk (x.1 27 0) p (qlb (x.1 27 0) u')) ∧ 0 ≤ w' ∧ w' < qsz (x.1 27 0) u' := by
  have hb := h.1.1.1
  have ht := h.1.1.2.1
  have ha := h.1.1.2.2.1
  have h60 := hb.2.2.2.1
  intro n
  induction n with
  | zero => intro k k2 u i w hu hr h1; have := rk_b hb ht ha p0 hu; omega
  | succ n ih =>
    intro k k2 u i w hu hr h1 h2 h3 h4 h5
    obtain ⟨k, rfl⟩ : ∃ k', k = k' + 1 := ⟨k - 1, by omega⟩
    obtain ⟨k2, rfl⟩ : ∃ k', k2 = k' + 1 := ⟨k2 - 1, by omega⟩
    have hrb := rk_b hb ht ha p0 hu
    have hu0 := hu.1
    have hu1 := hu.2.1
    have hs := qsz_b (r := x.1 27 0) hb (p := u)
    have e8 := e_childAt (z := z) (w := th x 0) (r := x.1 27 0) hz (th_C (by decide)) hb ht ha p0 hu
    rw [hr] at e8
    have e1 : F_X4_walked_44 z 0 (x.2 0 (3 * 0) 0) a b p c x (k + 1) w u i = (if w < qsz (x.1 27 0) u then some (w, u) else ckR (w - qsz (x.1 27 0) u) <| (F_X4_nextChild z 0 (x.2 0 (3 * 0) 0) p (qlb (x.1 27 0) u) x).bind fun r11 => ckR (i + 1) <| F_X4_walked_44 z 0 (x.2 0 (3 * 0) 0) a b p c x k (w - qsz (x.1 27 0) u) r11 (i + 1)) := by
      show (if (60 : Int) ≤ i then _ else _) = _
      rw [if_neg (by omega), if_neg (by omega), k_countBelow hz h.1.2.2.1 hb (hal' h) hu0 hu1, sbind, sbind, ckI_t hu0 (by omega), (h.1.2.2.1.2.1 u hu0 hu1).2.1]
    have e2 : F_X8_walk_59 z 0 d e p (th x 0) (k2 + 1) w i = (if w < qsz (x.1 27 0) u then some (w, i) else ckR (w - qsz (x.1 27 0) u) <| ckR (i + 1) <| F_X8_walk_59 z 0 d e p (th x 0) k2 (w - qsz (x.1 27 0) u) (i + 1)) := by
      show ((F_X8_childAt z 0 p i (th x 0)).bind _) = _
      rw [e8, sbind, m_sizeOf hz h hu0 hu1, sbind, sbind, m_sizeOf hz h hu0 hu1, sbind]
    rw [e1, e2]
    by_cases q : w < qsz (x.1 27 0) u
    · rw [if_pos q, if_pos q]
      exact ⟨u, w, hu, rfl, by rw [hr], h4, q⟩
    · have hps := qsz_b (r := x.1 27 0) hb (p := p)
      have hB0 := BQ_0 (r := x.1 27 0) (p := p) (L := qlb (x.1 27 0) u)
      rw [if_neg q, if_neg q, ckR_t (by omega) (by omega), ckR_t (by omega) (by omega), ckR_t (by omega) (by omega)]
      obtain ⟨v, f0, g0⟩ := k_nextChild (z := z) (x := x) (p := p) (L := qlb (x.1 27 0) u) hz h.1.2.2.1 hb (hal' h)
      have hnx := BQ_next hb ht ha p0 hu
      rw [f0, sbind, ckR_t (by omega) (by omega)]
      rcases NC_1 hb ht ha p0 hu g0 with ⟨a1, a2, a3⟩ | ⟨a1, a2, a3⟩
      · exfalso
        have := BQ_all hb ht ha p0 p1 pa (L := qlb (x.1 27 0) u + 1) (fun m hm => by have := a2 m hm; omega)
        omega
      · have hc := BQ_congr hb (p := p) (L := qlb (x.1 27 0) v) (L' := qlb (x.1 27 0) u + 1) (fun m hm => by have := a3 m hm; omega)
        exact ih k k2 v (i + 1) (w - qsz (x.1 27 0) u) a1 (by omega) (by omega) (by omega) (by omega) (by omega) (by omega)
theorem wk_out (hz : 50000 ≤ z) (h : Inv x) {a b d e : Int} : ∀ (n k k2 : Nat) (p w v : Int), 0 ≤ p → p < qct (x.1 27 0) → qal (x.1 27 0) p = true → 60 - p ≤ (n : Int) → n < k → n < k2 → 0 ≤ w → w < qsz (x.1 27 0) p → 0 ≤ v → v ≤ p → ∃ q, F_X4_walked_10 z 0 (x.2 0 (3 * 0) 0) a b x k p w v = some q ∧ F_X8_walk_48 z 0 d e (th x 0) k2 p w = some q := by
  have hb := h.1.1.1
  have ht := h.1.1.2.1
  have ha := h.1.1.2.2.1
  have h60 := hb.2.2.2.1
  intro n
  induction n with
  | zero => intro k k2 p w v p0 p1 pa h1; omega
  | succ n ih =>
    intro k k2 p w v p0 p1 pa h1 h2 h3 h4 h5 h6 h7
    obtain ⟨k, rfl⟩ : ∃ k', k = k' + 1 := ⟨k - 1, by omega⟩
    obtain ⟨k2, rfl⟩ : ∃ k', k2 = k' + 1 := ⟨k2 - 1, by omega⟩
    have hps := qsz_b (r := x.1 27 0) hb (p := p)
    by_cases q : w ≤ 0
    · refine ⟨p, ?_, ?_⟩
      · show (if (60 : Int) ≤ v then _ else _) = _
        rw [if_neg (by omega), if_pos q]
      · show (if w ≤ 0 then _ else _) = _
        rw [if_pos q]
    · obtain ⟨u0, f0, g0⟩ := k_nextChild (z := z) (x := x) (p := p) (L := -1) hz h.1.2.2.1 hb (hal' h)
      rcases NC_0 ht p0 g0 with ⟨a1, a2⟩ | ⟨a1, a2, a3⟩
      · exfalso
        have g1 := BQ_all hb ht ha p0 p1 pa (L := 0) (fun m hm => absurd hm (a2 m))
        have g2 := BQ_none hb (p := p) (L := 0) (fun m hm => absurd hm (a2 m))
        omega
      · have g2 := BQ_none hb (p := p) (L := qlb (x.1 27 0) u0) (fun m hm => by have := a3 m hm; omega)
        obtain ⟨u, w', i1, i2, i3, i4, i5⟩ := wk_in (z := z) hz h (a := a) (b := b) (c := v) (d := d) (e := e) p0 p1 pa 60 z z u0 0 (w + (-1)) a1 a2 (by omega) (by omega) (by omega) (by omega) (by omega)
        obtain ⟨u1, u2, u3, u4, u5, u6⟩ := i1.f ht p0
        obtain ⟨y, y1, y2⟩ := ih k k2 u w' (v + 1) (by omega) u2 u3 (by omega) (by omega) (by omega) i4 i5 (by omega) (by omega)
        have e8 := e_childAt (z := z) (w := th x 0) (r := x.1 27 0) hz (th_C (by decide)) hb ht ha p0 i1
        refine ⟨y, ?_, ?_⟩
        · show (if (60 : Int) ≤ v then _ else _) = _
          rw [if_neg (by omega), if_neg q, if_neg (by omega), ckR_t (by omega) (by omega), f0, sbind, i2, sbind, ckR_t (by omega) (by omega), y1]
        · show (if w ≤ 0 then _ else _) = _
          rw [if_neg q, ckR_t (by omega) (by omega), i3, sbind, e8, sbind, y2]
theorem qsz_al (hb : Wb r) (ht : Wt r) (ha : Wa r) {p : Int} (p0 : 0 ≤ p) (h : 0 < qsz r p) : qal r p = true := by
  have h60 := hb.2.2.2.1
  cases e : qal r p
  · exfalso
    have key : ∀ (n : Nat) (k : Int), k ≤ (n : Int) → k < qct r → win r k p = true → qal r k = false := by
      intro n
      induction n with
      | zero =>
        intro k h1 h2 h3
        have := win_le h3
        rw [show k = p by omega]; exact e
      | succ n ih =>
        intro k h1 h2 h3
        have hle := win_le h3
        by_cases w : k = p
        · rw [w]; exact e
        · have hpk := ht.2.2 k (by omega) h2
          rw [win_up hb ht p0 (by omega) h2] at h3
          have := ih _ (by omega) (by omega) h3
          cases g : qal r k
          · rfl
          · rw [ha.2.2.1 k (by omega) h2 g] at this; cases this
    have : qsz r p = 0 := cn_none (N := qct r) (fun k k0 k1 => by
      cases g : win r k p
      · rw [Bool.and_false]
      · rw [key k.toNat k (by omega) k1 g]; rfl)
    omega
  · rfl
theorem p_walk (hz : 50000 ≤ z) (h : Inv x) (n v : Int) : Pr [sI] (F_X7_walk z 0 n v) (F_X8_walk z 0 n v) x := by
  have hb := h.1.1.1
  have ht := h.1.1.2.1
  have ha := h.1.1.2.2.1
  have h60 := hb.2.2.2.1
  by_cases qn : 0 ≤ n ∧ n < qct (x.1 27 0)
  · have hs := qsz_b (r := x.1 27 0) hb (p := n)
    have e8 : F_X8_walk z 0 n v x = if 0 ≤ v ∧ v ≤ qsz (x.1 27 0) n - 1 then F_X8_walk_34 z 0 n v 1 0 (th x 0) else F_X8_walk_33 z 0 n v 0 (th x 0) := by
      unfold F_X8_walk
      rw [sbind, th_w, mN h, sbind, dt qn, m_sizeOf hz h qn.1 qn.2, sbind, ckR_t (by omega) (by omega), e_in, sbind, ib]
      by_cases q : 0 ≤ v ∧ v ≤ qsz (x.1 27 0) n - 1
      · rw [if_pos q, decide_eq_true q]; rfl
      · rw [if_neg q, decide_eq_false q]; rfl
    by_cases q : 0 ≤ v ∧ v ≤ qsz (x.1 27 0) n - 1
    · rw [if_pos q] at e8
      obtain ⟨w, f1, f2⟩ := wk_out (z := z) hz h (a := n) (b := v) (d := n) (e := v) 60 z z n v 0 qn.1 qn.2 (qsz_al hb ht ha qn.1 (by omega)) (by omega) (by omega) (by omega) q.1 (by omega) (by omega) qn.1
      refine Pr.get h (y := .inl w) (b := w) (t := 0) ?_ ?_ Ok.v
      · unfold F_X7_walk F_X4_walked
        rw [rn_t h qn, bndXl, if_neg (by omega), k_countBelow hz h.1.2.2.1 hb (hal' h) qn.1 qn.2, sbind, if_pos (by omega), f1, sbind, sbind]
      · rw [e8]
        unfold F_X8_walk_34
        rw [e_fails1, sbind, it0, f2, sbind]
    · rw [if_neg q] at e8
      refine Pr.get h (y := .inr sI) (b := 0) (t := 1) ?_ ?_ (Ok.x rfl (by decide))
      · unfold F_X7_walk
        rw [rn_t h qn, bndXl]
        by_cases w : v < 0
        · rw [if_pos w]
        · rw [if_neg w, k_countBelow hz h.1.2.2.1 hb (hal' h) qn.1 qn.2, sbind, if_neg (by omega)]
      · rw [e8]
        unfold F_X8_walk_33 F_X8_walk_34
        rw [e_fails0, sbind, it1, th_th]
  · refine Pr.get h (y := .inr sI) ?_ (b := 0) (t := 1) ?_ (Ok.x rfl (by decide))
    · unfold F_X7_walk
      rw [rn_f h qn, bndXr]
    · unfold F_X8_walk F_X8_walk_33 F_X8_walk_34
      rw [sbind, th_w, mN h, sbind, df qn, e_fails0, sbind, it1, th_th]
end
