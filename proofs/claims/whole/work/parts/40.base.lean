/-! LAYER 2: what the functions F_ answer, without the machine. -/
/-- a result that is there and has a property -/
def Tt {α : Type} (o : Option α) (P : α → Prop) : Prop := ∃ a, o = some a ∧ P a
theorem Tt.ret {α : Type} {a : α} {P : α → Prop} (h : P a) : Tt (some a) P := ⟨a, rfl, h⟩
theorem Tt.bind {α β : Type} {o : Option α} {f : α → Option β} {P : α → Prop} {Q : β → Prop} (h : Tt o P) (k : ∀ a, P a → Tt (f a) Q) : Tt (o.bind f) Q := by
  obtain ⟨a, rfl, h⟩ := h
  exact k a h
theorem Tt.mono {α : Type} {o : Option α} {P Q : α → Prop} (h : Tt o P) (k : ∀ a, P a → Q a) : Tt o Q := by
  obtain ⟨a, e, h⟩ := h
  exact ⟨a, e, k a h⟩
theorem Tt.eq {α : Type} {o : Option α} {v : α} (h : Tt o (fun a => a = v)) : o = some v := by
  obtain ⟨a, e, rfl⟩ := h
  exact e
theorem Tt.of {α : Type} {o : Option α} {v : α} {P : α → Prop} (h : o = some v) (p : P v) : Tt o P := ⟨v, h, p⟩
theorem ckR_t {α : Type} {e : Int} {A : Option α} (h1 : -2147483648 ≤ e) (h2 : e ≤ 2147483647) : ckR e A = A := if_pos ⟨h1, h2⟩
theorem ckI_t {α : Type} {k : Int} {n : Nat} {A : Option α} (h1 : 0 ≤ k) (h2 : k < (n : Int)) : ckI k n A = A := if_pos ⟨h1, h2⟩
theorem ckZ_t {α : Type} {v : Int} {A : Option α} (h : v = 0 ∨ v = 1) : ckZ v A = A := if_pos h
theorem ckZ_b {α : Type} {b : Bool} {A : Option α} : ckZ (b2i b) A = A := if_pos (by cases b <;> simp [b2i])
theorem ckM_t {α : Type} {a b : Int} {A : Option α} (h1 : 0 ≤ a) (h2 : 0 < b) : ckM a b A = A := if_pos ⟨h1, h2⟩
theorem ckC_t {α : Type} {sp dp n : Int} {N : Nat} {A : Option α} (h1 : 0 ≤ sp) (h2 : 0 ≤ dp) (h3 : 0 ≤ n) (h4 : sp + n ≤ (N : Int)) (h5 : dp + n ≤ (N : Int)) : ckC sp dp n N A = A := if_pos ⟨h1, h2, h3, h4, h5⟩
theorem ckK_t {α : Type} {k : Nat} {A : Option α} (h : k < 22) : ckK k A = A := if_pos h
theorem sbind {α β : Type} {a : α} {f : α → Option β} : (some a).bind f = f a := rfl
theorem bi0 {b : Bool} : (b2i b = 0) = (b = false) := by cases b <;> simp [b2i]
theorem ib {b : Bool} {α : Type} {A B : α} : (if b2i b = 0 then A else B) = (if b = false then A else B) := by cases b <;> rfl
theorem bi1 {b : Bool} : (b2i b = 1) = (b = true) := by cases b <;> simp [b2i]
theorem bndXl {α β : Type} {v : α} {x : Mm} {f : α → Mm → Option ((β ⊕ String) × Mm)} : bndX (some (.inl v, x)) f = f v x := rfl
theorem bndXr {α β : Type} {E : String} {x : Mm} {f : α → Mm → Option ((β ⊕ String) × Mm)} : bndX (some (.inr E, x)) f = some (.inr E, x) := rfl
theorem bndEl {S R U : Type} {inj : R → U} {s : S} {f : S → Option U} : bndE inj (some (.inl s)) f = f s := rfl
theorem bndEr {S R U : Type} {inj : R → U} {r : R} {f : S → Option U} : bndE inj (some (.inr r)) f = some (inj r) := rfl
theorem iteS {p : Prop} [Decidable p] : (if p then some (0 : Int) else some 1) = some (b2i (!decide p)) := by
  by_cases h : p <;> simp [h, b2i]
theorem iteT {p : Prop} [Decidable p] : (if p then some (1 : Int) else some 0) = some (b2i (decide p)) := by
  by_cases h : p <;> simp [h, b2i]
/-- one place of the memory set as a whole -/
def pj (x : Mm) (C j : Nat) (f : Nat → Int) : Mm := ((fun C' j' => if C' = C ∧ j' = j then f else x.1 C' j'), x.2)
def pl (x : Mm) (C j : Nat) (f : Nat → BitVec 64) : Mm := (x.1, fun C' j' => if C' = C ∧ j' = j then f else x.2 C' j')
theorem pj_s {x : Mm} {C j : Nat} {f : Nat → Int} : (pj x C j f).1 C j = f := if_pos ⟨rfl, rfl⟩
theorem pj_C {x : Mm} {C j C' j' : Nat} {f : Nat → Int} (h : C' ≠ C) : (pj x C j f).1 C' j' = x.1 C' j' := if_neg (fun q => h q.1)
theorem pj_j {x : Mm} {C j C' j' : Nat} {f : Nat → Int} (h : j' ≠ j) : (pj x C j f).1 C' j' = x.1 C' j' := if_neg (fun q => h q.2)
theorem pj_2 {x : Mm} {C j : Nat} {f : Nat → Int} : (pj x C j f).2 = x.2 := rfl
theorem pl_s {x : Mm} {C j : Nat} {f : Nat → BitVec 64} : (pl x C j f).2 C j = f := if_pos ⟨rfl, rfl⟩
theorem pl_C {x : Mm} {C j C' j' : Nat} {f : Nat → BitVec 64} (h : C' ≠ C) : (pl x C j f).2 C' j' = x.2 C' j' := if_neg (fun q => h q.1)
theorem pl_j {x : Mm} {C j C' j' : Nat} {f : Nat → BitVec 64} (h : j' ≠ j) : (pl x C j f).2 C' j' = x.2 C' j' := if_neg (fun q => h q.2)
theorem pl_1 {x : Mm} {C j : Nat} {f : Nat → BitVec 64} : (pl x C j f).1 = x.1 := rfl
theorem pj_pj {x : Mm} {C j : Nat} {f g : Nat → Int} : pj (pj x C j f) C j g = pj x C j g := by
  refine Prod.ext (funext fun C' => funext fun j' => ?_) rfl
  simp only [pj]; by_cases h : C' = C ∧ j' = j <;> simp [h]
theorem pj_id {x : Mm} {C j : Nat} : pj x C j (x.1 C j) = x := by
  refine Prod.ext (funext fun C' => funext fun j' => ?_) rfl
  simp only [pj]; by_cases h : C' = C ∧ j' = j <;> simp [h]
theorem pl_pl {x : Mm} {C j : Nat} {f g : Nat → BitVec 64} : pl (pl x C j f) C j g = pl x C j g := by
  refine Prod.ext rfl (funext fun C' => funext fun j' => ?_)
  simp only [pl]; by_cases h : C' = C ∧ j' = j <;> simp [h]
def up {α : Type} (r : Nat → α) (k : Nat) (v : α) : Nat → α := fun k' => if k' = k then v else r k'
theorem wI_pj {x : Mm} {C j k : Nat} {v : Int} : wI x C j k v = pj x C j (up (x.1 C j) k v) := by
  refine Prod.ext (funext fun C' => funext fun j' => funext fun k' => ?_) rfl
  simp only [wI, up3, pj, up]
  by_cases h : C' = C ∧ j' = j
  · obtain ⟨rfl, rfl⟩ := h; simp [up]
  · rw [if_neg h, if_neg (fun q => h ⟨q.1, q.2.1⟩)]
theorem wL_pl {x : Mm} {C j k : Nat} {v : BitVec 64} : wL x C j k v = pl x C j (up (x.2 C j) k v) := by
  refine Prod.ext rfl (funext fun C' => funext fun j' => funext fun k' => ?_)
  simp only [wL, up3, pl, up]
  by_cases h : C' = C ∧ j' = j
  · obtain ⟨rfl, rfl⟩ := h; simp [up]
  · rw [if_neg h, if_neg (fun q => h ⟨q.1, q.2.1⟩)]
theorem up_s {α : Type} {r : Nat → α} {k : Nat} {v : α} : up r k v k = v := if_pos rfl
theorem up_n {α : Type} {r : Nat → α} {k k' : Nat} {v : α} (h : k' ≠ k) : up r k v k' = r k' := if_neg h
theorem up_e {α : Type} {r : Nat → α} {i e : Int} {v : α} (h : i = e) : up r e.toNat v i.toNat = v := if_pos (by rw [h])
theorem up_i {α : Type} {r : Nat → α} {i e : Int} {v : α} (h0 : 0 ≤ i) (h1 : 0 ≤ e) (h : i ≠ e) : up r e.toNat v i.toNat = r i.toNat := if_neg (by omega)
theorem up_up {α : Type} {r : Nat → α} {k : Nat} {v w : α} : up (up r k v) k w = up r k w := by
  funext k'; simp only [up]; by_cases h : k' = k <;> simp [h]
/-- a stretch of a row -/
def cpy {α : Type} (s : Nat → α) (sp : Nat) (d : Nat → α) (dp n : Nat) : Nat → α := fun k => if dp ≤ k ∧ k < dp + n then s (sp + (k - dp)) else d k
theorem wC_pj {x : Mm} {C js sp jd dp n : Nat} : wC x C js sp jd dp n = pj x C jd (cpy (x.1 C js) sp (x.1 C jd) dp n) := by
  refine Prod.ext (funext fun C' => funext fun j' => funext fun k' => ?_) rfl
  simp only [wC, pj, cpy]
  by_cases h : C' = C ∧ j' = jd
  · obtain ⟨rfl, rfl⟩ := h
    by_cases h2 : dp ≤ k' ∧ k' < dp + n <;> simp [h2, cpy]
  · rw [if_neg h, if_neg (fun q => h ⟨q.1, q.2.1⟩)]
theorem wCL_pl {x : Mm} {C js sp jd dp n : Nat} : wCL x C js sp jd dp n = pl x C jd (cpy (x.2 C js) sp (x.2 C jd) dp n) := by
  refine Prod.ext rfl (funext fun C' => funext fun j' => funext fun k' => ?_)
  simp only [wCL, pl, cpy]
  by_cases h : C' = C ∧ j' = jd
  · obtain ⟨rfl, rfl⟩ := h
    by_cases h2 : dp ≤ k' ∧ k' < dp + n <;> simp [h2, cpy]
  · rw [if_neg h, if_neg (fun q => h ⟨q.1, q.2.1⟩)]
theorem cpy_i {α : Type} {s d : Nat → α} {sp dp n i : Int} (h0 : 0 ≤ sp) (h1 : 0 ≤ dp) (h2 : dp ≤ i) (h3 : i < dp + n) : cpy s sp.toNat d dp.toNat n.toNat i.toNat = s (sp + (i - dp)).toNat := by
  have e : sp.toNat + (i.toNat - dp.toNat) = (sp + (i - dp)).toNat := by omega
  rw [← e]; exact if_pos (by omega)
theorem cpy_o {α : Type} {s d : Nat → α} {sp dp n i : Int} (h1 : 0 ≤ dp) (h0 : 0 ≤ i) (h : i < dp ∨ dp + n ≤ i) : cpy s sp.toNat d dp.toNat n.toNat i.toNat = d i.toNat := if_neg (by omega)
/-- a loop that goes up to N -/
theorem loopU {σ β : Type} (G : Nat → Int → σ → Option β) (N : Int) (I : Int → σ → Prop) (Q : β → Prop)
    (hend : ∀ k s i, N ≤ i → I i s → Tt (G (k + 1) i s) Q)
    (hstep : ∀ k s i, i < N → I i s → (∃ s', G (k + 1) i s = G k (i + 1) s' ∧ I (i + 1) s') ∨ Tt (G (k + 1) i s) Q) :
    ∀ (k : Nat) (i : Int) (s : σ), N - i < (k : Int) → 0 < k → I i s → Tt (G k i s) Q := by
  intro k
  induction k with
  | zero => intro i s h h0 hI; omega
  | succ k ih =>
    intro i s h _ hI
    by_cases hN : N ≤ i
    · exact hend k s i hN hI
    · rcases hstep k s i (by omega) hI with ⟨s', e, h'⟩ | h'
      · rw [e]; exact ih _ _ (by omega) (by omega) h'
      · exact h'
/-- a loop by a measure -/
theorem loopM {σ β : Type} (G : Nat → σ → Option β) (m : σ → Nat) (I : σ → Prop) (Q : β → Prop)
    (hstep : ∀ k s, I s → (∃ s', G (k + 1) s = G k s' ∧ I s' ∧ m s' < m s) ∨ Tt (G (k + 1) s) Q) :
    ∀ (k : Nat) (s : σ), m s < k → I s → Tt (G k s) Q := by
  intro k
  induction k with
  | zero => intro s h hI; omega
  | succ k ih =>
    intro s h hI
    rcases hstep k s hI with ⟨s', e, h', h2⟩ | h'
    · rw [e]; exact ih _ (by omega) h'
    · exact h'
/-- how many numbers below k have a property -/
def cn (p : Int → Bool) : Nat → Int
  | 0 => 0
  | k + 1 => cn p k + b2i (p (k : Int))
theorem cn_0 {p : Int → Bool} : cn p (0 : Int).toNat = 0 := rfl
theorem cn_s {p : Int → Bool} {i : Int} (h : 0 ≤ i) : cn p (i + 1).toNat = cn p i.toNat + b2i (p i) := by
  have e : (i + 1).toNat = i.toNat + 1 := by omega
  rw [e]
  show cn p i.toNat + b2i (p ((i.toNat : Nat) : Int)) = _
  rw [Int.toNat_of_nonneg h]
theorem b2i_le (b : Bool) : 0 ≤ b2i b ∧ b2i b ≤ 1 := by cases b <;> simp [b2i]
theorem cn_le (p : Int → Bool) (k : Nat) : 0 ≤ cn p k ∧ cn p k ≤ (k : Int) := by
  induction k with
  | zero => exact ⟨Int.le_refl _, Int.le_refl _⟩
  | succ k ih =>
    have h := b2i_le (p (k : Int))
    refine ⟨?_, ?_⟩
    · show 0 ≤ cn p k + b2i (p (k : Int)); omega
    · show cn p k + b2i (p (k : Int)) ≤ _; omega
theorem cn_leI (p : Int → Bool) (i : Int) (h : 0 ≤ i) : 0 ≤ cn p i.toNat ∧ cn p i.toNat ≤ i := by
  have := cn_le p i.toNat
  omega
theorem cn_congr {p q : Int → Bool} {k : Nat} (h : ∀ i : Int, 0 ≤ i → i < (k : Int) → p i = q i) : cn p k = cn q k := by
  induction k with
  | zero => rfl
  | succ k ih =>
    show cn p k + b2i (p (k : Int)) = cn q k + b2i (q (k : Int))
    rw [ih (fun i h0 h1 => h i h0 (by omega)), h (k : Int) (by omega) (by omega)]
theorem cn_congrI {p q : Int → Bool} {N : Int} (h : ∀ i : Int, 0 ≤ i → i < N → p i = q i) : cn p N.toNat = cn q N.toNat := cn_congr (fun i h0 h1 => h i h0 (by omega))
theorem cn_ext {p : Int → Bool} {k m : Nat} (hk : k ≤ m) (h : ∀ i : Int, (k : Int) ≤ i → i < (m : Int) → p i = false) : cn p m = cn p k := by
  induction m with
  | zero => rw [show k = 0 by omega]
  | succ m ih =>
    by_cases e : k = m + 1
    · rw [e]
    · show cn p m + b2i (p (m : Int)) = _
      rw [ih (by omega) (fun i h0 h1 => h i h0 (by omega)), h (m : Int) (by omega) (by omega)]
      simp [b2i]
theorem cn_none {p : Int → Bool} {N : Int} (h : ∀ i : Int, 0 ≤ i → i < N → p i = false) : cn p N.toNat = 0 := by
  have e := cn_ext (p := p) (k := 0) (m := N.toNat) (by omega) (fun i h0 h1 => h i (by omega) (by omega))
  rw [e]; rfl
theorem cn_one {p : Int → Bool} {k : Nat} {i : Int} (h0 : 0 ≤ i) (h1 : i < (k : Int)) (hp : p i = true) : 1 ≤ cn p k := by
  induction k with
  | zero => omega
  | succ k ih =>
    show 1 ≤ cn p k + b2i (p (k : Int))
    have hb := b2i_le (p (k : Int))
    have hc := cn_le p k
    by_cases e : i = (k : Int)
    · have e1 : b2i (p (k : Int)) = 1 := by rw [← e, hp]; rfl
      omega
    · have := ih (by omega); omega
/-- bits -/
theorem has_bt {n m : Int} (h0 : 0 ≤ n) (h1 : n < 64) (h2 : 0 ≤ m) : has (bt n) m = decide (m = n) := by
  show (1#64 <<< n.toNat).getLsbD m.toNat = _
  rw [BitVec.getLsbD_shiftLeft, BitVec.getLsbD_one]
  by_cases e : m = n
  · subst e
    have : m.toNat < 64 := by omega
    simp [this]
  · have h3 : ¬ (m.toNat = n.toNat) := by omega
    by_cases h4 : m.toNat < n.toNat
    · simp [h4, e]
    · have h5 : ¬ (m.toNat - n.toNat = 0) := by omega
      simp [h5, e]
theorem has_and {a b : BitVec 64} {n : Int} : has (a &&& b) n = (has a n && has b n) := BitVec.getLsbD_and
theorem has_or {a b : BitVec 64} {n : Int} : has (a ||| b) n = (has a n || has b n) := BitVec.getLsbD_or
theorem has_not {a : BitVec 64} {n : Int} (h0 : 0 ≤ n) (h1 : n < 64) : has (a ^^^ BitVec.ofInt 64 (-1)) n = !has a n := by
  have e : (BitVec.ofInt 64 (-1)) = BitVec.allOnes 64 := by decide
  show (a ^^^ BitVec.ofInt 64 (-1)).getLsbD n.toNat = _
  rw [e, BitVec.getLsbD_xor, BitVec.getLsbD_allOnes]
  have : n.toNat < 64 := by omega
  simp [this]
theorem has_0 {n : Int} : has (0#64) n = false := by simp [has]
theorem has_ext {a b : BitVec 64} (h : ∀ n : Int, 0 ≤ n → n < 64 → has a n = has b n) : a = b := by
  apply BitVec.eq_of_getLsbD_eq
  intro i hi
  have := h (i : Int) (by omega) (by omega)
  exact this
