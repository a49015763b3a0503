/-! The words and signs of the text. -/
section
variable {z : Nat} {x y X W : Mm} {n : Int} {f : Int → Int}
/-- the token is the word -/
def wq (f : Int → Int) (k : Nat) (m : Nat → Int) : Bool := decide (m 5 = 1) && (decide (m 3 - m 4 = ((wby k).length : Int)) && qall (fun i => decide (f (m 4 + i) = (wby k).getD i.toNat 0)) (wby k).length)
theorem wby_11 {k : Nat} : wby (k + 11) = wby k := by unfold wby; rw [show (k + 11) % 11 = k % 11 by omega]
theorem wby_l : ∀ k : Nat, (wby k).length ≤ 6 := by
  intro k
  have e : wby k = wby (k % 11) := by unfold wby; rw [Nat.mod_mod]
  rw [e]
  have : ∀ j : Nat, j < 11 → (wby j).length ≤ 6 := by decide
  exact this _ (Nat.mod_lt _ (by decide))
theorem k_isWord (hz : 50000 ≤ z) (h : Tc n f X) {m : Nat → Int} (hT : TR n (X.1 5 0) m) {k : Nat} (hk : k < 22) : F_X5_isWord z 0 k X = some (b2i (wq f k m)) := by
  obtain ⟨t1, t2, t3, t4⟩ := hT
  have hl := wby_l k
  unfold F_X5_isWord wq
  rw [t1]
  by_cases q1 : m 5 = 1
  · have t5 : X.1 5 0 5 = m 3 := by
      rcases t4 with w | w | w | w
      · omega
      · exact w.2.2.1
      · exact w.2.2.1
      · exact w.2.2.1
    have hn := h.2.1
    rw [if_pos q1, decide_eq_true q1, t5, t2, ckR_t (by omega) (by omega), ckK_t hk]
    by_cases q2 : m 3 - m 4 = ((wby k).length : Int)
    · rw [if_pos q2, decide_eq_true q2, Bool.true_and, Bool.true_and]
      generalize hp : (fun i : Int => decide (f (m 4 + i) = (wby k).getD i.toNat 0)) = p
      have hpi : ∀ i, p i = decide (f (m 4 + i) = (wby k).getD i.toNat 0) := fun i => by rw [← hp]
      have key : Tt (F_X5_isWord_28 z 0 k X z 0) (fun a => (a = .inl () ∧ qall p (wby k).length = true) ∨ (a = .inr 0 ∧ qall p (wby k).length = false)) := by
        refine loopU (fun k' i (_ : Unit) => F_X5_isWord_28 z 0 k X k' i) ((wby k).length : Int) (fun i _ => 0 ≤ i ∧ i ≤ ((wby k).length : Int) ∧ qall p i.toNat = true) _ ?_ ?_ z 0 () (by omega) (by omega) ⟨by omega, by omega, rfl⟩
        · rintro k' s i hN ⟨i0, i1, hi⟩
          refine Tt.of (v := .inl ()) ?_ (Or.inl ⟨rfl, ?_⟩)
          · show (ckK k <| if ((wby k).length : Int) ≤ i then _ else _) = _
            rw [ckK_t hk, if_pos hN]
          · rw [show (wby k).length = i.toNat by omega]; exact hi
        · rintro k' s i hN ⟨i0, i1, hi⟩
          show (∃ s', F_X5_isWord_28 z 0 k X (k' + 1) i = _ ∧ _) ∨ Tt (F_X5_isWord_28 z 0 k X (k' + 1) i) _
          have e : F_X5_isWord_28 z 0 k X (k' + 1) i = (if f (m 4 + i) = (wby k).getD i.toNat 0 then F_X5_isWord_28 z 0 k X k' (i + 1) else some (.inr (0 : Int))) := by
            show (ckK k <| if ((wby k).length : Int) ≤ i then _ else _) = _
            rw [ckK_t hk, if_neg (by omega), t2, ckR_t (by omega) (by omega), ckI_t (by omega) (by omega), ckK_t hk, ckI_t (by omega) (by omega), (h.2.2 (m 4 + i) (by omega) (by omega)).1, ckR_t (by omega) (by omega)]
          rw [e]
          by_cases q : f (m 4 + i) = (wby k).getD i.toNat 0
          · rw [if_pos q]
            exact Or.inl ⟨(), rfl, by omega, by omega, by rw [qall_s i0, hi, hpi, decide_eq_true q]; rfl⟩
          · rw [if_neg q]
            refine Or.inr (Tt.ret (Or.inr ⟨rfl, ?_⟩))
            cases w : qall p (wby k).length
            · rfl
            · have := (qall_iff.mp w) i i0 hN
              rw [hpi, decide_eq_false q] at this; cases this
      obtain ⟨a, ea, ha⟩ := key
      rw [ea]
      rcases ha with ⟨rfl, hg⟩ | ⟨rfl, hg⟩
      · rw [bndEl, hg]; rfl
      · rw [bndEr, hg]; rfl
    · rw [if_neg q2, decide_eq_false q2]; rfl
  · rw [if_neg q1, decide_eq_false q1]; rfl
theorem m_good (h : W.1 8 0 7 = -1) : F_X8_isGood z 0 W = some 1 := by unfold F_X8_isGood; rw [if_neg (by omega)]
theorem m_bad (h : 0 ≤ W.1 8 0 7) : F_X8_isGood z 0 W = some 0 := by unfold F_X8_isGood; rw [if_pos h]
theorem m_isWord (hz : 50000 ≤ z) (h : Tm n f W) (hg : W.1 8 0 7 = -1) (hb : 0 ≤ W.1 8 0 4 ∧ W.1 8 0 4 ≤ W.1 8 0 3 ∧ W.1 8 0 3 ≤ n) {k : Nat} (hk : k < 11) : F_X8_isWord z 0 (k + 11) W = some (b2i (wq f k (W.1 8 0))) := by
  have hl := wby_l k
  have hn := h.2.1
  have h35 : F_X8_isWord_35 z 0 (k + 11) W = some 0 := by
    unfold F_X8_isWord_35 F_X8_isWord_36
    obtain ⟨k', rfl⟩ : ∃ k', z = k' + 1 := ⟨z - 1, by omega⟩
    show ((if (0 : Int) = 0 then _ else _ : Option Int).bind _) = _
    rw [if_pos rfl, sbind]
    exact ckZ_b (b := false)
  unfold F_X8_isWord wq
  rw [m_good hg, sbind, if_neg (by decide), h35]
  by_cases q1 : W.1 8 0 5 = 1
  · rw [if_pos q1, decide_eq_true q1, ckR_t (by omega) (by omega), ckK_t (by omega), wby_11]
    by_cases q2 : W.1 8 0 3 - W.1 8 0 4 = ((wby k).length : Int)
    · rw [if_pos q2, decide_eq_true q2, Bool.true_and, Bool.true_and]
      generalize hp : (fun i : Int => decide (f (W.1 8 0 4 + i) = (wby k).getD i.toNat 0)) = p
      have hpi : ∀ i, p i = decide (f (W.1 8 0 4 + i) = (wby k).getD i.toNat 0) := fun i => by rw [← hp]
      have key : Tt (F_X8_isWord_39 z 0 (k + 11) W z 1 0) (fun a => a = b2i (qall p (wby k).length)) := by
        refine loopU (fun k' i (s : Int) => F_X8_isWord_39 z 0 (k + 11) W k' s i) ((wby k).length : Int) (fun i s => 0 ≤ i ∧ i ≤ ((wby k).length : Int) ∧ s = b2i (qall p i.toNat)) _ ?_ ?_ z 0 1 (by omega) (by omega) ⟨by omega, by omega, rfl⟩
        · rintro k' s i hN ⟨i0, i1, rfl⟩
          refine Tt.of (v := b2i (qall p i.toNat)) ?_ (by rw [show (wby k).length = i.toNat by omega])
          show (if b2i (qall p i.toNat) = 0 then _ else ckK (k + 11) _) = _
          rw [ckK_t (by omega), wby_11, if_pos hN]
          split <;> rfl
        · rintro k' s i hN ⟨i0, i1, rfl⟩
          cases hi : qall p i.toNat
          · refine Or.inr (Tt.of (v := 0) ?_ ?_)
            · show (if b2i false = 0 then _ else _) = _
              exact if_pos rfl
            · cases w : qall p (wby k).length
              · rfl
              · exfalso
                have : qall p i.toNat = true := qall_iff.mpr (fun j j0 j1 => (qall_iff.mp w) j j0 (by omega))
                rw [hi] at this; cases this
          · refine Or.inl ⟨b2i (qall p (i + 1).toNat), ?_, by omega, by omega, rfl⟩
            show (if b2i true = 0 then _ else ckK (k + 11) _) = _
            rw [if_neg (by decide), ckK_t (by omega), wby_11, if_neg (by omega), ckR_t (by omega) (by omega), ckI_t (by omega) (by omega), ckK_t (by omega), ckI_t (by omega) (by omega), (h.2.2 (W.1 8 0 4 + i) (by omega) (by omega)).1, ckR_t (by omega) (by omega), ckR_t (by omega) (by omega), qall_s i0, hi, hpi, Bool.true_and]
            by_cases q : f (W.1 8 0 4 + i) = (wby k).getD i.toNat 0
            · rw [if_pos q, decide_eq_true q]; rfl
            · rw [if_neg q, decide_eq_false q]; rfl
      unfold F_X8_isWord_36
      rw [Tt.eq key, sbind, ckZ_b]
    · rw [if_neg q2, decide_eq_false q2]; rfl
  · rw [if_neg q1, decide_eq_false q1]; rfl
/-- the token is the sign -/
def sq (f : Int → Int) (v : Int) (m : Nat → Int) : Bool := decide (m 5 = 3) && decide (f (m 4) = v)
theorem k_isSign (h : Tc n f X) {m : Nat → Int} (hT : TR n (X.1 5 0) m) {v : Int} : F_X5_isSign z 0 v X = some (b2i (sq f v m)) := by
  obtain ⟨t1, t2, t3, t4⟩ := hT
  have hn := h.2.1
  unfold F_X5_isSign sq
  rw [t1]
  by_cases q : m 5 = 3
  · rw [if_pos q, t2, ckI_t (by omega) (by omega), (h.2.2 (m 4) (by omega) (by omega)).1, decide_eq_true q, Bool.true_and]
    by_cases w : f (m 4) = v
    · rw [if_pos w, decide_eq_true w]; rfl
    · rw [if_neg w, decide_eq_false w]; rfl
  · rw [if_neg q, decide_eq_false q]; rfl
theorem m_isSign (h : Tm n f W) (hg : W.1 8 0 7 = -1) {c : Nat → Int} (hT : TR n c (W.1 8 0)) {v : Int} : F_X8_isSign z 0 v W = some (b2i (sq f v (W.1 8 0))) := by
  obtain ⟨t1, t2, t3, t4⟩ := hT
  have hn := h.2.1
  unfold F_X8_isSign sq
  rw [m_good hg, sbind, if_neg (by decide)]
  by_cases q : W.1 8 0 5 = 3
  · rw [if_pos q, ckI_t (by omega) (by omega), (h.2.2 (W.1 8 0 4) (by omega) (by omega)).1, decide_eq_true q, Bool.true_and]
    by_cases w : f (W.1 8 0 4) = v
    · rw [if_pos w, decide_eq_true w]; rfl
    · rw [if_neg w, decide_eq_false w]; rfl
  · rw [if_neg q, decide_eq_false q]; rfl
theorem m_sign0 (hg : 0 ≤ W.1 8 0 7) {v : Int} : F_X8_isSign z 0 v W = some 0 := by
  unfold F_X8_isSign; rw [m_bad hg, sbind, if_pos rfl]
/-- where the model marks the fault -/
def Fw (W : Mm) (v : Int) : Mm := pj W 8 0 (up (W.1 8 0) 7 v)
theorem m_fail (h : W.1 8 0 7 = -1) : F_X8_fail z 0 W = some (Fw W (W.1 8 0 4)) := by
  unfold F_X8_fail; rw [if_neg (by omega), sbind, wI_pj]; rfl
theorem m_fail0 (h : 0 ≤ W.1 8 0 7) : F_X8_fail z 0 W = some W := by
  unfold F_X8_fail; rw [if_pos h, sbind, wI_pj]
  have : up (W.1 8 0) 7 (W.1 8 0 7) = W.1 8 0 := by
    funext k; unfold up; split
    · rename_i w; rw [w]
    · rfl
  rw [this, pj_id]
theorem m_take0 (hg : 0 ≤ W.1 8 0 7) {a b : Int} : F_X8_takeNumber z 0 a b W = some (a, W) := by
  unfold F_X8_takeNumber; rw [m_bad hg, sbind, if_pos rfl, m_fail0 hg, sbind]
end
