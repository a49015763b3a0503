/-! addNode. -/
section
variable {z : Nat} {x y : Mm} {r : Nat → Int} {c n p l : Int}
def qfr (r : Nat → Int) (c p l : Int) : Int → Bool := fun m => !(qcp r c 60 m && (decide (qpa r m = p) && decide (qlb r m = l)))
theorem e_isToAdd (hz : 50000 ≤ z) {u : Mm} (hu : u.1 27 0 = r) (hb : Wb r) (hr : r (131 + p).toNat = b2i (qrc r p)) (c0 : 0 ≤ c) (c1 : c < 5) (p0 : 0 ≤ p) (p1 : p < qct r) : F_X8_isToAdd z 0 c p l u = some (b2i (qhl r c && (qcp r c 60 p && (!qrc r p && (decide (qct r < 60) && qall (qfr r c p l) (qct r).toNat))))) := by
  have h60 := hb.2.2.2.1
  have e53 : ∀ (t : Nat) (k : Nat) (i : Int), 0 ≤ i → i + (t : Int) = qct r → (t : Int) < (k : Int) → qall (qfr r c p l) i.toNat = true → F_X8_isToAdd_53 z 0 c p l u k 1 i = some (b2i (qall (qfr r c p l) (qct r).toNat)) := by
    intro t
    induction t with
    | zero =>
      intro k i i0 h1 h2 hq
      obtain ⟨k, rfl⟩ : ∃ q, k = q + 1 := ⟨k - 1, by omega⟩
      show ckI 3 5366 _ = _
      rw [ckI_t (by omega) (by omega), hu, if_pos (show r (3 : Int).toNat ≤ i from by show qct r ≤ i; omega), show qct r = i by omega, hq]; rfl
    | succ t ih =>
      intro k i i0 h1 h2 hq
      obtain ⟨k, rfl⟩ : ∃ q, k = q + 1 := ⟨k - 1, by omega⟩
      have ih' := ih k (i + 1) (by omega) (by omega) (by omega)
      rw [qall_s i0, hq, Bool.true_and] at ih'
      have ei := e_is z c 60 i u c0 c1 (by omega) i0 (by omega)
      rw [hu] at ei
      have cI : ∀ {α : Type} {A : Option α}, ckR (i + 1) A = A := fun {α} {A} => ckR_t (by omega) (by omega)
      show ckI 3 5366 _ = _
      rw [ckI_t (by omega) (by omega), hu, if_neg (show ¬ (r (3 : Int).toNat ≤ i) from by show ¬ (qct r ≤ i); omega), if_neg (by decide), ei, sbind, ib, cI, ckR_t (by omega) (by omega), ckI_t (by omega) (by omega), ckR_t (by omega) (by omega), ckI_t (by omega) (by omega), cI]
      have hbad : qfr r c p l i = false → F_X8_isToAdd_53 z 0 c p l u k 0 (i + 1) = some (b2i (qall (qfr r c p l) (qct r).toNat)) := by
        intro hf
        have e0 : qall (qfr r c p l) (qct r).toNat = false := by
          cases hh : qall (qfr r c p l) (qct r).toNat
          · rfl
          · rw [qall_iffI (by omega)] at hh
            have := hh i i0 (by omega)
            rw [hf] at this; cases this
        rw [e0]
        obtain ⟨k, rfl⟩ : ∃ q, k = q + 1 := ⟨k - 1, by omega⟩
        show ckI 3 5366 _ = _
        rw [ckI_t (by omega) (by omega), hu]
        by_cases w : r (3 : Int).toNat ≤ i + 1
        · rw [if_pos w]; rfl
        · rw [if_neg w, if_pos rfl]; rfl
      have hfi : qfr r c p l i = !(qcp r c 60 i && (decide (qpa r i = p) && decide (qlb r i = l))) := rfl
      cases qc : qcp r c 60 i
      · rw [if_pos rfl]; exact ih' (by rw [hfi, qc]; rfl)
      · rw [if_neg (by decide)]
        by_cases w1 : qpa r i = p
        · rw [if_pos (show r (11 + i).toNat = p from w1)]
          by_cases w2 : qlb r i = l
          · rw [if_pos (show r (71 + i).toNat = l from w2)]
            exact hbad (by rw [hfi, qc, decide_eq_true w1, decide_eq_true w2]; rfl)
          · rw [if_neg (show ¬ r (71 + i).toNat = l from w2)]
            exact ih' (by rw [hfi, qc, decide_eq_false w2, Bool.and_false]; rfl)
        · rw [if_neg (show ¬ r (11 + i).toNat = p from w1)]
          exact ih' (by rw [hfi, qc, decide_eq_false w1]; rfl)
  have e0 : F_X8_isToAdd_47 z 0 c p l u = some 0 := by
    unfold F_X8_isToAdd_47 F_X8_isToAdd_48
    obtain ⟨k, hk⟩ : ∃ q, z = q + 1 := ⟨z - 1, by omega⟩
    have : F_X8_isToAdd_53 z 0 c p l u z 0 0 = some 0 := by
      rw [show F_X8_isToAdd_53 z 0 c p l u z 0 0 = F_X8_isToAdd_53 z 0 c p l u (k + 1) 0 0 from by rw [← hk]]
      show ckI 3 5366 _ = _
      rw [ckI_t (by omega) (by omega), hu, if_neg (show ¬ (r (3 : Int).toNat ≤ 0) from by show ¬ (qct r ≤ 0); omega), if_pos rfl]
    rw [this, sbind]; rfl
  have e1 : F_X8_isToAdd_48 z 0 c p l 1 u = some (b2i (qall (qfr r c p l) (qct r).toNat)) := by
    unfold F_X8_isToAdd_48
    rw [e53 (qct r).toNat z 0 (by omega) (by omega) (by omega) rfl, sbind, ckZ_b]
  have eh := e_hasLease z c u c0 c1
  have ec := e_is z c 60 p u c0 c1 (by omega) p0 (by omega)
  rw [hu] at eh ec
  unfold F_X8_isToAdd
  rw [eh, sbind, ib, ec, sbind, ib, ckR_t (by omega) (by omega), ckI_t (by omega) (by omega), ckI_t (by omega) (by omega), hu, hr, e0, e1]
  cases qhl r c
  · rfl
  · rw [if_neg (by decide)]
    cases qcp r c 60 p
    · rfl
    · rw [if_neg (by decide), ib]
      cases qrc r p
      · rw [if_pos rfl]
        by_cases q : qct r < 60
        · rw [if_neg (show ¬ (60 ≤ r (3 : Int).toNat) from by show ¬ (60 ≤ qct r); omega), decide_eq_true q]; rfl
        · rw [if_pos (show 60 ≤ r (3 : Int).toNat from by show 60 ≤ qct r; omega), decide_eq_false q]; rfl
      · rfl
theorem qff_all {p : Int → Bool} {N : Int} (hN : 0 ≤ N) : decide (qff p N.toNat 0 = -1) = qall (fun m => !p m) N.toNat := by
  rw [Bool.eq_iff_iff, decide_eq_true_iff, qall_iffI hN]
  constructor
  · intro h i i0 i1
    rw [qff_none (by omega) h i i0 (by omega)]; rfl
  · intro h
    rcases qff_some (p := p) N.toNat 0 (by omega) with ⟨w, _⟩ | ⟨w1, w2, w3⟩
    · exact w
    · have := h _ w1 (by omega)
      rw [w3] at this; cases this
theorem k_clearFields (hz : 50000 ≤ z) {b : Nat} (n0 : 0 ≤ n) (n1 : n < 60) : Tt (F_X0_clearFields z b n x) (fun u => ∃ vs, u = pj x 23 b vs ∧ ∀ m f : Int, 0 ≤ m → m < 60 → 0 ≤ f → f < 6 → vs (m * 6 + f).toNat = if m = n then 0 else x.1 23 b (m * 6 + f).toNat) := by
  unfold F_X0_clearFields
  refine Tt.bind (P := fun u => ∃ vs, u = pj x 23 b vs ∧ ∀ m f : Int, 0 ≤ m → m < 60 → 0 ≤ f → f < 6 → vs (m * 6 + f).toNat = if m = n then 0 else x.1 23 b (m * 6 + f).toNat) ?_ (fun a e => Tt.ret e)
  refine loopU (fun k i (w : Mm) => F_X0_clearFields_2 z b n k i w) 6 (fun i w => 0 ≤ i ∧ i ≤ 6 ∧ ∃ vs, w = pj x 23 b vs ∧ ∀ m f : Int, 0 ≤ m → m < 60 → 0 ≤ f → f < 6 → vs (m * 6 + f).toNat = if m = n ∧ f < i then 0 else x.1 23 b (m * 6 + f).toNat) _ ?_ ?_ z 0 x (by omega) (by omega) ⟨by omega, by omega, x.1 23 b, pj_id.symm, fun m f m0 m1 f0 f1 => by rw [if_neg (by omega)]⟩
  · rintro k w i hN ⟨i0, i1, vs, rfl, hv⟩
    refine Tt.of (v := pj x 23 b vs) (if_pos hN) ⟨vs, rfl, fun m f m0 m1 f0 f1 => ?_⟩
    rw [hv m f m0 m1 f0 f1]
    by_cases q : m = n
    · rw [if_pos q, if_pos ⟨q, by omega⟩]
    · rw [if_neg q, if_neg (fun w => q w.1)]
  · rintro k w i hN ⟨i0, i1, vs, rfl, hv⟩
    refine Or.inl ⟨pj x 23 b (up vs (n * 6 + i).toNat 0), ?_, by omega, by omega, up vs (n * 6 + i).toNat 0, rfl, fun m f m0 m1 f0 f1 => ?_⟩
    · show (if (6 : Int) ≤ i then _ else _) = _
      rw [if_neg (by omega), k_put z _ n0 n1 i0 hN, sbind, pj_s, pj_pj, ckR_t (by omega) (by omega)]
    · by_cases q : m = n ∧ f = i
      · rw [q.1, q.2, up_s, if_pos ⟨rfl, by omega⟩]
      · rw [up_i (by omega) (by omega) (by omega), hv m f m0 m1 f0 f1]
        by_cases w : m = n ∧ f < i
        · rw [if_pos w, if_pos ⟨w.1, by omega⟩]
        · rw [if_neg w, if_neg (by omega)]
/-- the row with one more node in a copy -/
def qan (r : Nat → Int) (c p l e : Int) : Nat → Int := up (up (up (up (up (up (up r (3 : Int).toNat (qct r + 1)) (11 + qct r).toNat p) (71 + qct r).toNat l) (131 + qct r).toNat e) (191 + qct r).toNat 0) (866 + 900 * c + 60 + qct r).toNat 1) (866 + 900 * c + 120 + qct r).toNat 1
theorem qan_o {e i : Int} (hb : Wb r) (c0 : 0 ≤ c) (i0 : 0 ≤ i) (h3 : i ≠ 3) (h11 : i ≠ 11 + qct r) (h71 : i ≠ 71 + qct r) (h131 : i ≠ 131 + qct r) (h191 : i ≠ 191 + qct r) (h6 : i ≠ 866 + 900 * c + 60 + qct r) (h12 : i ≠ 866 + 900 * c + 120 + qct r) : qan r c p l e i.toNat = r i.toNat := by
  have h60 := hb.2.2.2.1
  unfold qan
  rw [up_i i0 (by omega) h12, up_i i0 (by omega) h6, up_i i0 (by omega) h191, up_i i0 (by omega) h131, up_i i0 (by omega) h71, up_i i0 (by omega) h11, up_i i0 (by omega) h3]
theorem qan_v {e : Int} (hb : Wb r) (c0 : 0 ≤ c) (hn : qct r < 60) : qct (qan r c p l e) = qct r + 1 ∧ qpa (qan r c p l e) (qct r) = p ∧ qlb (qan r c p l e) (qct r) = l ∧ qan r c p l e (131 + qct r).toNat = e ∧ qan r c p l e (191 + qct r).toNat = 0 ∧ qan r c p l e (866 + 900 * c + 60 + qct r).toNat = 1 ∧ qan r c p l e (866 + 900 * c + 120 + qct r).toNat = 1 := by
  have h60 := hb.2.2.2.1
  refine ⟨?_, ?_, ?_, ?_, ?_, ?_, ?_⟩
  · show qan r c p l e (3 : Int).toNat = _
    unfold qan
    simp (disch := omega) only [up_i, up_s]
  · show qan r c p l e (11 + qct r).toNat = _
    unfold qan
    simp (disch := omega) only [up_i, up_s]
  · show qan r c p l e (71 + qct r).toNat = _
    unfold qan
    simp (disch := omega) only [up_i, up_s]
  · unfold qan
    simp (disch := omega) only [up_i, up_s]
  · unfold qan
    simp (disch := omega) only [up_i, up_s]
  · unfold qan
    simp (disch := omega) only [up_i, up_s]
  · unfold qan; exact up_s
theorem qan_wk {e m : Int} (hb : Wb r) (ht : Wt r) (c0 : 0 ≤ c) (hm : 0 ≤ m) : ∀ (t : Nat) (k : Int), k < qct r → qwk (qan r c p l e) m t k = qwk r m t k := by
  have h60 := hb.2.2.2.1
  intro t
  induction t with
  | zero => intro k _; rfl
  | succ t ih =>
    intro k hk
    show (if k ≤ m then k else qwk _ m t (qpa _ k)) = (if k ≤ m then k else qwk r m t (qpa r k))
    by_cases q : k ≤ m
    · rw [if_pos q, if_pos q]
    · have hp := ht.2.2 k (by omega) hk
      have e1 : qpa (qan r c p l e) k = qpa r k := qan_o hb c0 (by omega) (by omega) (by omega) (by omega) (by omega) (by omega) (by omega) (by omega)
      rw [if_neg q, if_neg q, e1, ih _ (by omega)]
theorem qan_wi {e m k : Int} (hb : Wb r) (ht : Wt r) (c0 : 0 ≤ c) (hm : 0 ≤ m) (hk : k < qct r) : win (qan r c p l e) k m = win r k m := by
  unfold win; rw [qan_wk hb ht c0 hm 64 k hk]
end
