/-! The model's conflicts. -/
def qdi (r : Nat → Int) (d i : Int) : Nat → Int := fun k => if (k : Int) = 4 then qkc r - 1 else if 626 + 6 * d ≤ (k : Int) ∧ (k : Int) < i then r (k + 6) else r k
/-- the row without the conflict d -/
def qdr (r : Nat → Int) (d : Int) : Nat → Int := qdi r d (626 + 6 * (qkc r - 1))
/-- the row with one more conflict -/
def qad (r : Nat → Int) (a b f v c : Int) : Nat → Int := up (up (up (up (up (up (up r (626 + 6 * qkc r + 0).toNat a) (626 + 6 * qkc r + 1).toNat b) (626 + 6 * qkc r + 2).toNat f) (626 + 6 * qkc r + 3).toNat v) (626 + 6 * qkc r + 4).toNat c) (626 + 6 * qkc r + 5).toNat (qtk r)) (4 : Int).toNat (qkc r + 1)
def qob (r : Nat → Int) (a b f v c : Int) : Nat → Int := if qkc r = 40 then qad (qdr r 0) a b f v c else qad r a b f v c
/-- the model's memory in a merge: the row and the number of conflicts -/
def mS (x : Mm) (m : Nat → Int) (s : (Nat → Int) × Int) : Mm := pj (pj x 27 0 s.1) 8 0 (up m 14 s.2)
theorem mS_r {x : Mm} {m : Nat → Int} {s : (Nat → Int) × Int} : (mS x m s).1 27 0 = s.1 := by
  unfold mS; rw [pj_C (by decide), pj_s]
theorem mS_m {x : Mm} {m : Nat → Int} {s : (Nat → Int) × Int} : (mS x m s).1 8 0 = up m 14 s.2 := pj_s
theorem mS_14 {x : Mm} {m : Nat → Int} {s : (Nat → Int) × Int} : (mS x m s).1 8 0 14 = s.2 := by rw [mS_m, up_s]
theorem pj_cm {x : Mm} {C j C' j' : Nat} {f g : Nat → Int} (h : ¬ (C' = C ∧ j' = j)) : pj (pj x C j f) C' j' g = pj (pj x C' j' g) C j f := by
  refine Prod.ext (funext fun a => funext fun b => ?_) rfl
  simp only [pj]
  by_cases h1 : a = C ∧ b = j
  · rw [if_neg (fun q => h ⟨by omega, by omega⟩), if_pos h1, if_pos h1]
  · rw [if_neg h1, if_neg h1]
theorem mS_pr {x : Mm} {m r : Nat → Int} {s : (Nat → Int) × Int} : pj (mS x m s) 27 0 r = mS x m (r, s.2) := by
  unfold mS; rw [pj_cm (by decide), pj_pj]
theorem mS_p14 {x : Mm} {m : Nat → Int} {s : (Nat → Int) × Int} {d : Int} : pj (mS x m s) 8 0 (up (up m 14 s.2) 14 d) = mS x m (s.1, d) := by
  unfold mS; rw [pj_pj, up_up]
theorem mS_id {x : Mm} : x = mS x (x.1 8 0) (x.1 27 0, x.1 8 0 14) := by
  have e : up (x.1 8 0) 14 (x.1 8 0 14) = x.1 8 0 := by
    funext k; unfold up; by_cases h : k = 14 <;> simp [h]
  unfold mS
  rw [e, pj_cm (by decide)]
  show x = pj (pj x 8 0 (x.1 8 0)) 27 0 (x.1 27 0)
  rw [pj_id, pj_id]
theorem qdi_s {r : Nat → Int} {d i : Int} (h0 : 0 ≤ d) (h1 : 626 + 6 * d ≤ i) : up (qdi r d i) i.toNat (r (i + 6).toNat) = qdi r d (i + 1) := by
  funext k
  unfold up qdi
  by_cases h : k = i.toNat
  · subst h
    rw [if_pos rfl, if_neg (by omega), if_pos (by omega), show i.toNat + 6 = (i + 6).toNat by omega]
  · rw [if_neg h]
    by_cases h4 : (k : Int) = 4
    · rw [if_pos h4, if_pos h4]
    · rw [if_neg h4, if_neg h4]
      by_cases h5 : 626 + 6 * d ≤ (k : Int) ∧ (k : Int) < i
      · rw [if_pos h5, if_pos (by omega)]
      · rw [if_neg h5, if_neg (by omega)]
theorem e_drop (z : Nat) (hz : 50000 ≤ z) (d : Int) (x : Mm) (hb : Wb (x.1 27 0)) (h0 : 0 ≤ d) (h1 : d < qkc (x.1 27 0)) : F_X8_dropConflict z 0 d x = some (pj x 27 0 (qdr (x.1 27 0) d)) := by
  have hk : 0 ≤ x.1 27 0 (4 : Int).toNat ∧ x.1 27 0 (4 : Int).toNat ≤ 40 := hb.2.2.2.2
  have h1' : d < x.1 27 0 (4 : Int).toNat := h1
  unfold F_X8_dropConflict
  rw [ckI_t (by omega) (by omega), ckR_t (by omega) (by omega), ckI_t (by omega) (by omega), sbind, ckR_t (by omega) (by omega), ckR_t (by omega) (by omega), wI_pj]
  have e0 : up (x.1 27 0) (4 : Int).toNat (x.1 27 0 (4 : Int).toNat - 1) = qdi (x.1 27 0) d (626 + 6 * d) := by
    funext k
    unfold up qdi
    by_cases h : k = (4 : Int).toNat
    · rw [if_pos h, if_pos (by omega)]; rfl
    · rw [if_neg h, if_neg (by omega), if_neg (by omega)]
  rw [e0]
  refine Tt.eq ?_
  refine Tt.bind (P := fun v => v = pj x 27 0 (qdr (x.1 27 0) d)) ?_ (fun a e => Tt.ret e)
  refine loopU (fun k i (s : Mm) => F_X8_dropConflict_19 z 0 d k i s) (626 + 6 * (x.1 27 0 (4 : Int).toNat - 1)) (fun i s => 626 + 6 * d ≤ i ∧ i ≤ 626 + 6 * (x.1 27 0 (4 : Int).toNat - 1) ∧ s = pj x 27 0 (qdi (x.1 27 0) d i)) _ ?_ ?_ z _ _ (by omega) (by omega) ⟨by omega, by omega, rfl⟩
  all_goals
    rintro k s i hN ⟨i0, i1, rfl⟩
    have e4 : (pj x 27 0 (qdi (x.1 27 0) d i)).1 27 0 (4 : Int).toNat = x.1 27 0 (4 : Int).toNat - 1 := by rw [pj_s]; rfl
  · refine Tt.of (v := pj x 27 0 (qdi (x.1 27 0) d i)) ?_ ?_
    · show ckI 4 5366 _ = _
      rw [e4, ckI_t (by omega) (by omega), ckR_t (by omega) (by omega), ckR_t (by omega) (by omega), if_pos hN]
    · rw [show i = 626 + 6 * (x.1 27 0 (4 : Int).toNat - 1) by omega]; rfl
  · refine Or.inl ⟨pj x 27 0 (qdi (x.1 27 0) d (i + 1)), ?_, by omega, by omega, rfl⟩
    show ckI 4 5366 _ = _
    have e5 : (pj x 27 0 (qdi (x.1 27 0) d i)).1 27 0 (i + 6).toNat = x.1 27 0 (i + 6).toNat := by
      rw [pj_s]; unfold qdi; rw [if_neg (by omega), if_neg (by omega)]
    rw [e4, ckI_t (by omega) (by omega), ckR_t (by omega) (by omega), ckR_t (by omega) (by omega), if_neg (by omega), ckR_t (by omega) (by omega), ckI_t (by omega) (by omega), ckI_t (by omega) (by omega), e5, wI_pj, pj_s, pj_pj, qdi_s h0 i0, sbind, ckR_t (by omega) (by omega)]
theorem qkc_up {r : Nat → Int} {i v : Int} (h : i ≠ 4) (h0 : 0 ≤ i) : qkc (up r i.toNat v) = qkc r := up_i (by omega) h0 (fun q => h q.symm)
theorem e_object16 (z : Nat) (a b f v c : Int) (x : Mm) (m : Nat → Int) (s : (Nat → Int) × Int) (hk0 : 0 ≤ qkc s.1) (hk1 : qkc s.1 < 40) (hd0 : 0 ≤ s.2) (hd1 : s.2 < 1000000) : F_X8_object_16 z 0 a b f v c (mS x m s) = some (mS x m (qad s.1 a b f v c, s.2 + 1)) := by
  have k0 : 0 ≤ s.1 (4 : Int).toNat := hk0
  have k1 : s.1 (4 : Int).toNat < 40 := hk1
  unfold F_X8_object_16
  simp (disch := omega) only [wI_pj, sbind, mS_r, mS_m, mS_pr, ckI_t, ckR_t, up_i, up_s, mS_p14, qad]
  rfl
theorem qkc_qdr {r : Nat → Int} {d : Int} : qkc (qdr r d) = qkc r - 1 := rfl
theorem e_object (z : Nat) (hz : 50000 ≤ z) (a b f v c : Int) (x : Mm) (m : Nat → Int) (s : (Nat → Int) × Int) (hb : Wb s.1) (hd0 : 0 ≤ s.2) (hd1 : s.2 < 1000000) : F_X8_object z 0 a b f v c (mS x m s) = some (mS x m (qob s.1 a b f v c, s.2 + 1)) := by
  have hk := hb.2.2.2.2
  unfold F_X8_object
  rw [ckI_t (by omega) (by omega), mS_r]
  unfold qob
  by_cases h : qkc s.1 = 40
  · rw [if_pos (show s.1 (4 : Int).toNat = 40 from h), if_pos h]
    have e := e_drop z hz 0 (mS x m s) (by rw [mS_r]; exact hb) (by omega) (by rw [mS_r]; omega)
    rw [mS_r, mS_pr] at e
    rw [e, sbind]
    exact e_object16 z a b f v c x m (qdr s.1 0, s.2) (by show 0 ≤ qkc s.1 - 1; omega) (by show qkc s.1 - 1 < 40; omega) hd0 hd1
  · rw [if_neg (show ¬ s.1 (4 : Int).toNat = 40 from h), if_neg h]
    exact e_object16 z a b f v c x m s hk.1 (by omega) hd0 hd1
