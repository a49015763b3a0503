/-! The model's loops that only read. -/
/-- the first number from i on, of k, with a property; -1 if none -/
def qff (p : Int → Bool) : Nat → Int → Int
  | 0, _ => -1
  | k + 1, i => if p i then i else qff p k (i + 1)
theorem qff_congr {p q : Int → Bool} : ∀ (k : Nat) (i : Int), (∀ j, i ≤ j → j < i + (k : Int) → p j = q j) → qff p k i = qff q k i := by
  intro k
  induction k with
  | zero => intro i h; rfl
  | succ k ih =>
    intro i h
    show (if p i then i else qff p k (i + 1)) = (if q i then i else qff q k (i + 1))
    rw [h i (by omega) (by omega), ih (i + 1) (fun j h0 h1 => h j (by omega) (by omega))]
theorem qff_some {p : Int → Bool} : ∀ (k : Nat) (i : Int), 0 ≤ i → qff p k i = -1 ∧ (∀ j, i ≤ j → j < i + (k : Int) → p j = false) ∨ (i ≤ qff p k i ∧ qff p k i < i + (k : Int) ∧ p (qff p k i) = true) := by
  intro k
  induction k with
  | zero => intro i h; exact Or.inl ⟨rfl, fun j h0 h1 => by omega⟩
  | succ k ih =>
    intro i h
    by_cases hp : p i = true
    · have e : qff p (k + 1) i = i := if_pos hp
      rw [e]; exact Or.inr ⟨by omega, by omega, hp⟩
    · have e : qff p (k + 1) i = qff p k (i + 1) := if_neg hp
      rw [e]
      rcases ih (i + 1) (by omega) with ⟨h1, h2⟩ | ⟨h1, h2, h3⟩
      · refine Or.inl ⟨h1, fun j h3 h4 => ?_⟩
        by_cases q : j = i
        · subst q; simpa using hp
        · exact h2 j (by omega) (by omega)
      · exact Or.inr ⟨by omega, by omega, h3⟩
/-- all numbers below k have a property -/
def qall (p : Int → Bool) : Nat → Bool
  | 0 => true
  | k + 1 => qall p k && p (k : Int)
theorem qall_0 {p : Int → Bool} : qall p (0 : Int).toNat = true := rfl
theorem qall_s {p : Int → Bool} {i : Int} (h : 0 ≤ i) : qall p (i + 1).toNat = (qall p i.toNat && p i) := by
  have e : (i + 1).toNat = i.toNat + 1 := by omega
  rw [e]
  show (qall p i.toNat && p ((i.toNat : Nat) : Int)) = _
  rw [Int.toNat_of_nonneg h]
theorem qall_iff {p : Int → Bool} {k : Nat} : qall p k = true ↔ ∀ i : Int, 0 ≤ i → i < (k : Int) → p i = true := by
  induction k with
  | zero => exact ⟨fun _ i h0 h1 => by omega, fun _ => rfl⟩
  | succ k ih =>
    show (qall p k && p (k : Int)) = true ↔ _
    rw [Bool.and_eq_true, ih]
    constructor
    · rintro ⟨h1, h2⟩ i h0 h3
      by_cases e : i = (k : Int)
      · rw [e]; exact h2
      · exact h1 i h0 (by omega)
    · intro h
      exact ⟨fun i h0 h1 => h i h0 (by omega), h _ (by omega) (by omega)⟩
theorem qall_iffI {p : Int → Bool} {N : Int} (hN : 0 ≤ N) : qall p N.toNat = true ↔ ∀ i : Int, 0 ≤ i → i < N → p i = true := by
  rw [qall_iff]
  constructor
  · intro h i h0 h1; exact h i h0 (by omega)
  · intro h i h0 h1; exact h i h0 (by omega)
/-- a sum over the numbers below k -/
def qsm (g : Int → Int) : Nat → Int
  | 0 => 0
  | k + 1 => qsm g k + g (k : Int)
theorem qsm_0 {g : Int → Int} : qsm g (0 : Int).toNat = 0 := rfl
theorem qsm_s {g : Int → Int} {i : Int} (h : 0 ≤ i) : qsm g (i + 1).toNat = qsm g i.toNat + g i := by
  have e : (i + 1).toNat = i.toNat + 1 := by omega
  rw [e]
  show qsm g i.toNat + g ((i.toNat : Nat) : Int) = _
  rw [Int.toNat_of_nonneg h]
theorem qsm_le {g : Int → Int} {M : Int} {k : Nat} (h : ∀ i : Int, 0 ≤ i → i < (k : Int) → 0 ≤ g i ∧ g i ≤ M) : 0 ≤ qsm g k ∧ qsm g k ≤ M * (k : Int) := by
  induction k with
  | zero => exact ⟨Int.le_refl _, by simp [qsm]⟩
  | succ k ih =>
    have h1 := ih (fun i h0 h2 => h i h0 (by omega))
    have h2 := h (k : Int) (by omega) (by omega)
    refine ⟨?_, ?_⟩
    · show 0 ≤ qsm g k + g (k : Int); omega
    · show qsm g k + g (k : Int) ≤ M * ((k : Int) + 1)
      rw [Int.mul_add, Int.mul_one]; omega
theorem qsm_congrI {g h : Int → Int} {N : Int} (e : ∀ i : Int, 0 ≤ i → i < N → g i = h i) : qsm g N.toNat = qsm h N.toNat := by
  have : ∀ k : Nat, (k : Int) ≤ N → qsm g k = qsm h k := by
    intro k
    induction k with
    | zero => intro _; rfl
    | succ k ih =>
      intro hk
      show qsm g k + g (k : Int) = qsm h k + h (k : Int)
      rw [ih (by omega), e _ (by omega) (by omega)]
  by_cases hN : 0 ≤ N
  · exact this _ (by omega)
  · have : N.toNat = 0 := by omega
    rw [this]; rfl
def qch (r : Nat → Int) (c n f : Int) : Bool := qcp r c 0 n && qcp r c 60 n && !decide (qov r c n f = qnv r c n f)
def qco (r : Nat → Int) (c n : Int) : Int := cn (qch r c n) (qfc r).toNat
def qac (r : Nat → Int) (c : Int) : Int := qsm (qco r c) (qct r).toNat
def qcw (r : Nat → Int) (p l : Int) : Int := qff (fun n => qal r n && decide (qpa r n = p) && decide (qlb r n = l)) (qct r).toNat 0
def qab (r : Nat → Int) (c n : Int) : Bool := qcp r c 0 n && qall (fun f => decide (qtv r n f = qov r c n f)) (qfc r).toNat
def qtp (r : Nat → Int) (c n : Int) : Bool := qcp r c 0 n && !qcp r c 60 n && qcp r c 60 (qpa r n)
theorem bAnd {a b : Bool} {α : Type} {A B : α} : (if b2i a = 0 then A else (if b2i b = 0 then A else B)) = (if b2i (a && b) = 0 then A else B) := by
  cases a <;> cases b <;> rfl
theorem e_isChanged (z : Nat) (c n f : Int) (x : Mm) (h0 : 0 ≤ c) (h1 : c < 5) (h2 : 0 ≤ n) (h3 : n < 60) (h4 : 0 ≤ f) (h5 : f < 6) : F_X8_isChanged z 0 c n f x = some (b2i (qch (x.1 27 0) c n f)) := by
  unfold F_X8_isChanged qch
  rw [e_is z c 0 n x h0 h1 (by omega) h2 (by omega), sbind, e_is z c 60 n x h0 h1 (by omega) h2 (by omega), sbind, e_old z c n f x h0 h1 h2 h3 h4 h5, sbind, e_fresh z c n f x h0 h1 h2 h3 h4 h5, sbind]
  cases qcp (x.1 27 0) c 0 n <;> cases qcp (x.1 27 0) c 60 n <;> simp only [b2i] <;> by_cases h : qov (x.1 27 0) c n f = qnv (x.1 27 0) c n f <;> simp [h]
theorem e_changesOf (z : Nat) (hz : 50000 ≤ z) (c n : Int) (x : Mm) (hb : Wb (x.1 27 0)) (h0 : 0 ≤ c) (h1 : c < 5) (h2 : 0 ≤ n) (h3 : n < 60) : F_X8_changesOf z 0 c n x = some (qco (x.1 27 0) c n) := by
  have hf := hb.2.1
  unfold F_X8_changesOf
  refine Tt.eq ?_
  refine Tt.bind (P := fun v => v = qco (x.1 27 0) c n) ?_ (fun a e => Tt.ret e)
  refine loopU (fun k i (s : Int) => F_X8_changesOf_5 z 0 c n x k s i) (qfc (x.1 27 0)) (fun i s => 0 ≤ i ∧ i ≤ qfc (x.1 27 0) ∧ s = cn (qch (x.1 27 0) c n) i.toNat) _ ?_ ?_ z 0 0 (by omega) (by omega) ⟨by omega, by omega, rfl⟩
  · rintro k s i hN ⟨i0, i1, rfl⟩
    refine Tt.of (v := cn (qch (x.1 27 0) c n) i.toNat) ?_ ?_
    · show ckI 1 5366 _ = _
      rw [ckI_t (by omega) (by omega)]; exact if_pos hN
    · rw [show i = qfc (x.1 27 0) by omega]; rfl
  · rintro k s i hN ⟨i0, i1, rfl⟩
    refine Or.inl ⟨cn (qch (x.1 27 0) c n) (i + 1).toNat, ?_, by omega, by omega, rfl⟩
    have hc := cn_leI (qch (x.1 27 0) c n) i i0
    show ckI 1 5366 _ = _
    rw [ckI_t (by omega) (by omega), if_neg (show ¬ (x.1 27 0 (1 : Int).toNat ≤ i) from by show ¬ (qfc (x.1 27 0) ≤ i); omega), e_isChanged z c n i x h0 h1 h2 h3 i0 (by omega), sbind, cn_s i0]
    cases hq : qch (x.1 27 0) c n i
    · rw [if_pos (show b2i false = 0 from rfl), ckR_t (by omega) (by omega), ckR_t (by omega) (by omega)]; rfl
    · rw [if_neg (show ¬ b2i true = 0 by decide), ckR_t (by omega) (by omega), ckR_t (by omega) (by omega)]; rfl
theorem qco_le (r : Nat → Int) (c n : Int) (hb : Wb r) : 0 ≤ qco r c n ∧ qco r c n ≤ 6 := by
  have := cn_leI (qch r c n) (qfc r) hb.2.1.1
  have h := hb.2.1
  unfold qco; omega
theorem e_allChanges (z : Nat) (hz : 50000 ≤ z) (c : Int) (x : Mm) (hb : Wb (x.1 27 0)) (h0 : 0 ≤ c) (h1 : c < 5) : F_X8_allChanges z 0 c x = some (qac (x.1 27 0) c) := by
  have hf := hb.2.2.2.1
  unfold F_X8_allChanges
  refine Tt.eq ?_
  refine Tt.bind (P := fun v => v = qac (x.1 27 0) c) ?_ (fun a e => Tt.ret e)
  refine loopU (fun k i (s : Int) => F_X8_allChanges_4 z 0 c x k s i) (qct (x.1 27 0)) (fun i s => 0 ≤ i ∧ i ≤ qct (x.1 27 0) ∧ s = qsm (qco (x.1 27 0) c) i.toNat) _ ?_ ?_ z 0 0 (by omega) (by omega) ⟨by omega, by omega, rfl⟩
  · rintro k s i hN ⟨i0, i1, rfl⟩
    refine Tt.of (v := qsm (qco (x.1 27 0) c) i.toNat) ?_ ?_
    · show ckI 3 5366 _ = _
      rw [ckI_t (by omega) (by omega)]; exact if_pos hN
    · rw [show i = qct (x.1 27 0) by omega]; rfl
  · rintro k s i hN ⟨i0, i1, rfl⟩
    refine Or.inl ⟨qsm (qco (x.1 27 0) c) (i + 1).toNat, ?_, by omega, by omega, rfl⟩
    have hc := qsm_le (g := qco (x.1 27 0) c) (M := 6) (k := i.toNat) (fun j _ _ => qco_le _ _ _ hb)
    have hd := qco_le (x.1 27 0) c i hb
    show ckI 3 5366 _ = _
    rw [ckI_t (by omega) (by omega), if_neg (show ¬ (x.1 27 0 (3 : Int).toNat ≤ i) from by show ¬ (qct (x.1 27 0) ≤ i); omega), e_changesOf z hz c i x hb h0 h1 i0 (by omega), sbind, qsm_s i0, ckR_t (by omega) (by omega), ckR_t (by omega) (by omega)]
theorem e_childWith (z : Nat) (hz : 50000 ≤ z) (p l : Int) (x : Mm) (hb : Wb (x.1 27 0)) : F_X8_childWith z 0 p l x = some (qcw (x.1 27 0) p l) := by
  have hf := hb.2.2.2.1
  unfold F_X8_childWith
  have key : ∀ (t : Nat) (k : Nat) (i : Int), 0 ≤ i → i + (t : Int) = qct (x.1 27 0) → (t : Int) < (k : Int) → bndE (fun r => r) (F_X8_childWith_2 z 0 p l x k i) (fun _ => some (-1 : Int)) = some (qff (fun n => qal (x.1 27 0) n && decide (qpa (x.1 27 0) n = p) && decide (qlb (x.1 27 0) n = l)) t i) := by
    intro t
    induction t with
    | zero =>
      intro k i i0 h1 h2
      obtain ⟨k, rfl⟩ : ∃ q, k = q + 1 := ⟨k - 1, by omega⟩
      have e : F_X8_childWith_2 z 0 p l x (k + 1) i = some (.inl ()) := by
        show ckI 3 5366 _ = _
        rw [ckI_t (by omega) (by omega)]; exact if_pos (by show qct (x.1 27 0) ≤ i; omega)
      rw [e]; rfl
    | succ t ih =>
      intro k i i0 h1 h2
      obtain ⟨k, rfl⟩ : ∃ q, k = q + 1 := ⟨k - 1, by omega⟩
      have ih' := ih k (i + 1) (by omega) (by omega) (by omega)
      show bndE (fun r => r) (ckI 3 5366 _) _ = _
      rw [ckI_t (by omega) (by omega), if_neg (show ¬ (x.1 27 0 (3 : Int).toNat ≤ i) from by show ¬ (qct (x.1 27 0) ≤ i); omega), e_isAlive z i x i0 (by omega), sbind, ckR_t (by omega) (by omega), ckI_t (by omega) (by omega), ckR_t (by omega) (by omega), ckI_t (by omega) (by omega), ckR_t (by omega) (by omega)]
      show _ = some (if (qal (x.1 27 0) i && decide (qpa (x.1 27 0) i = p) && decide (qlb (x.1 27 0) i = l)) = true then i else _)
      cases hq : qal (x.1 27 0) i
      · rw [if_pos (show b2i false = 0 from rfl), ih']; rfl
      · rw [if_neg (show ¬ b2i true = 0 by decide)]
        by_cases h3 : x.1 27 0 (11 + i).toNat = p
        · rw [if_pos h3, decide_eq_true (show qpa (x.1 27 0) i = p from h3)]
          by_cases h4 : x.1 27 0 (71 + i).toNat = l
          · rw [if_pos h4, decide_eq_true (show qlb (x.1 27 0) i = l from h4)]; rfl
          · rw [if_neg h4, decide_eq_false (show ¬ qlb (x.1 27 0) i = l from h4), ih']; rfl
        · rw [if_neg h3, decide_eq_false (show ¬ qpa (x.1 27 0) i = p from h3), ih']; rfl
  exact key (qct (x.1 27 0)).toNat z 0 (by omega) (by omega) (by omega)
theorem e_isAsInBase (z : Nat) (hz : 50000 ≤ z) (c n : Int) (x : Mm) (hb : Wb (x.1 27 0)) (h0 : 0 ≤ c) (h1 : c < 5) (h2 : 0 ≤ n) (h3 : n < 60) : F_X8_isAsInBase z 0 c n x = some (b2i (qab (x.1 27 0) c n)) := by
  have hf := hb.2.1
  unfold F_X8_isAsInBase
  rw [e_is z c 0 n x h0 h1 (by omega) h2 (by omega), sbind]
  refine Tt.eq ?_
  refine Tt.bind (P := fun v => v = b2i (qab (x.1 27 0) c n)) ?_ (fun a e => by rw [e, ckZ_b]; exact Tt.ret rfl)
  refine loopU (fun k i (s : Int) => F_X8_isAsInBase_11 z 0 c n x k s i) (qfc (x.1 27 0)) (fun i s => 0 ≤ i ∧ i ≤ qfc (x.1 27 0) ∧ s = b2i (qcp (x.1 27 0) c 0 n && qall (fun f => decide (qtv (x.1 27 0) n f = qov (x.1 27 0) c n f)) i.toNat)) _ ?_ ?_ z 0 _ (by omega) (by omega) ⟨by omega, by omega, by rw [qall_0, Bool.and_true]⟩
  · rintro k s i hN ⟨i0, i1, rfl⟩
    refine Tt.of (v := b2i (qcp (x.1 27 0) c 0 n && qall (fun f => decide (qtv (x.1 27 0) n f = qov (x.1 27 0) c n f)) i.toNat)) ?_ ?_
    · show ckI 1 5366 _ = _
      rw [ckI_t (by omega) (by omega)]; exact if_pos hN
    · rw [show i = qfc (x.1 27 0) by omega]; rfl
  · rintro k s i hN ⟨i0, i1, rfl⟩
    refine Or.inl ⟨b2i (qcp (x.1 27 0) c 0 n && qall (fun f => decide (qtv (x.1 27 0) n f = qov (x.1 27 0) c n f)) (i + 1).toNat), ?_, by omega, by omega, rfl⟩
    show ckI 1 5366 _ = _
    rw [ckI_t (by omega) (by omega), if_neg (show ¬ (x.1 27 0 (1 : Int).toNat ≤ i) from by show ¬ (qfc (x.1 27 0) ≤ i); omega), qall_s i0, ← Bool.and_assoc, e_value z n i x h2 h3 i0 (by omega), sbind, e_old z c n i x h0 h1 h2 h3 i0 (by omega), sbind, ckR_t (by omega) (by omega)]
    cases (qcp (x.1 27 0) c 0 n && qall (fun f => decide (qtv (x.1 27 0) n f = qov (x.1 27 0) c n f)) i.toNat)
    · rw [if_pos (show b2i false = 0 from rfl)]; rfl
    · rw [if_neg (show ¬ b2i true = 0 by decide)]
      by_cases h : qtv (x.1 27 0) n i = qov (x.1 27 0) c n i
      · rw [if_pos h, decide_eq_true h]; exact ckR_t (by omega) (by omega)
      · rw [if_neg h, decide_eq_false h]; rfl
theorem e_isTop (z : Nat) (c n : Int) (x : Mm) (hb : Wb (x.1 27 0)) (ht : Wt (x.1 27 0)) (h0 : 0 ≤ c) (h1 : c < 5) (h2 : 1 ≤ n) (h3 : n < qct (x.1 27 0)) : F_X8_isTop z 0 c n x = some (b2i (qtp (x.1 27 0) c n)) := by
  have hf := hb.2.2.2.1
  have hp := ht.2.2 n h2 h3
  unfold F_X8_isTop qtp
  rw [e_is z c 0 n x h0 h1 (by omega) (by omega) (by omega), sbind, e_is z c 60 n x h0 h1 (by omega) (by omega) (by omega), sbind, ckR_t (by omega) (by omega), ckI_t (by omega) (by omega)]
  have e := e_is z c 60 (qpa (x.1 27 0) n) x h0 h1 (by omega) (by omega) (by omega)
  rw [show F_X8_is z 0 c 60 (x.1 27 0 (11 + n).toNat) x = _ from e, sbind]
  cases qcp (x.1 27 0) c 0 n <;> cases qcp (x.1 27 0) c 60 n <;> cases qcp (x.1 27 0) c 60 (qpa (x.1 27 0) n) <;> rfl
