/-! Readers of the model's row. -/
/-- parts of a row -/
def qal (r : Nat → Int) (n : Int) : Bool := decide (r (191 + n).toNat = 1)
def qcp (r : Nat → Int) (c p n : Int) : Bool := decide (r (866 + 900 * c + p + n).toNat = 1)
def qov (r : Nat → Int) (c n f : Int) : Int := r (866 + 900 * c + 180 + (6 * n + f)).toNat
def qnv (r : Nat → Int) (c n f : Int) : Int := r (866 + 900 * c + 540 + (6 * n + f)).toNat
def qtv (r : Nat → Int) (n f : Int) : Int := r (251 + 6 * n + f).toNat
def qpa (r : Nat → Int) (n : Int) : Int := r (11 + n).toNat
def qlb (r : Nat → Int) (n : Int) : Int := r (71 + n).toNat
def qrc (r : Nat → Int) (n : Int) : Bool := decide (r (131 + n).toNat = 1)
def qln (r : Nat → Int) (c : Int) : Int := r (611 + 3 * c).toNat
def qle (r : Nat → Int) (c : Int) : Int := r (611 + 3 * c + 1).toNat
def qlx (r : Nat → Int) (c : Int) : Int := r (611 + 3 * c + 2).toNat
def qhl (r : Nat → Int) (c : Int) : Bool := !decide (qln r c = -1)
def qtk (r : Nat → Int) : Int := r (0 : Int).toNat
def qfc (r : Nat → Int) : Int := r (1 : Int).toNat
def qcc (r : Nat → Int) : Int := r (2 : Int).toNat
def qct (r : Nat → Int) : Int := r (3 : Int).toNat
def qkc (r : Nat → Int) : Int := r (4 : Int).toNat
def qru (r : Nat → Int) (f : Int) : Int := r (5 + f).toNat
def qkp (r : Nat → Int) (i w : Int) : Int := r (626 + 6 * i + w).toNat
/-- the walk up -/
def qwk (r : Nat → Int) (m : Int) : Nat → Int → Int
  | 0, k => k
  | t + 1, k => if k ≤ m then k else qwk r m t (qpa r k)
def win (r : Nat → Int) (n m : Int) : Bool := decide (qwk r m 64 n = m)
/-- bounds of a row -/
def Wb (r : Nat → Int) : Prop := (0 ≤ qtk r ∧ qtk r ≤ 9999) ∧ (0 ≤ qfc r ∧ qfc r ≤ 6) ∧ (0 ≤ qcc r ∧ qcc r ≤ 5) ∧ (1 ≤ qct r ∧ qct r ≤ 60) ∧ (0 ≤ qkc r ∧ qkc r ≤ 40)
/-- the tree -/
def Wt (r : Nat → Int) : Prop := qpa r 0 = -1 ∧ qlb r 0 = -1 ∧ (∀ n, 1 ≤ n → n < qct r → 0 ≤ qpa r n ∧ qpa r n < n ∧ 0 ≤ qlb r n ∧ qlb r n ≤ 999)
theorem qwk_lt {r : Nat → Int} {m n : Int} {t : Nat} (h : n ≤ m) : qwk r m t n = n := by
  cases t with
  | zero => rfl
  | succ t => exact if_pos h
theorem qwk_st {r : Nat → Int} (ht : Wt r) {m : Int} (hm : 0 ≤ m) : ∀ (t s : Nat) (n : Int), n < qct r → n ≤ (t : Int) → n ≤ (s : Int) → qwk r m t n = qwk r m s n := by
  intro t
  induction t with
  | zero => intro s n h1 h2 h3; rw [qwk_lt (by omega), qwk_lt (by omega)]
  | succ t ih =>
    intro s n h1 h2 h3
    by_cases h : n ≤ m
    · rw [qwk_lt h, qwk_lt h]
    · cases s with
      | zero => omega
      | succ s =>
        have hp := ht.2.2 n (by omega) h1
        show (if n ≤ m then n else qwk r m t (qpa r n)) = (if n ≤ m then n else qwk r m s (qpa r n))
        rw [if_neg h, if_neg h]
        exact ih s _ (by omega) (by omega) (by omega)
theorem win_up {r : Nat → Int} (hb : Wb r) (ht : Wt r) {n m : Int} (hm : 0 ≤ m) (h1 : m < n) (h2 : n < qct r) : win r n m = win r (qpa r n) m := by
  have hp := ht.2.2 n (by omega) h2
  have e : qwk r m 64 n = qwk r m 64 (qpa r n) := by
    show (if n ≤ m then n else qwk r m 63 (qpa r n)) = _
    rw [if_neg (by omega)]
    exact qwk_st ht hm 63 64 _ (by omega) (by have := hb.2.2.2.1; omega) (by have := hb.2.2.2.1; omega)
  simp only [win, e]
theorem win_lt {r : Nat → Int} {n m : Int} (h : n < m) : win r n m = false := by
  have e : qwk r m 64 n = n := qwk_lt (by omega)
  simp only [win, e, decide_eq_false_iff_not]; omega
theorem win_rf {r : Nat → Int} {n : Int} : win r n n = true := by
  have e : qwk r n 64 n = n := qwk_lt (by omega)
  simp [win, e]
theorem win_le {r : Nat → Int} {n m : Int} (h : win r n m = true) : m ≤ n := by
  by_cases q : n < m
  · rw [win_lt q] at h; cases h
  · omega
/-- readers -/
theorem e_in (z : Nat) (v a b : Int) (x : Mm) : F_X8_in z v a b x = some (b2i (decide (a ≤ v ∧ v ≤ b))) := by
  unfold F_X8_in
  by_cases h1 : v < a
  · rw [if_pos h1, decide_eq_false (by omega)]; rfl
  · by_cases h2 : b < v
    · rw [if_neg h1, if_pos h2, decide_eq_false (by omega)]; rfl
    · rw [if_neg h1, if_neg h2, decide_eq_true (by omega)]; rfl
theorem e_isAlive (z : Nat) (n : Int) (x : Mm) (h0 : 0 ≤ n) (h1 : n < 60) : F_X8_isAlive z 0 n x = some (b2i (qal (x.1 27 0) n)) := by
  unfold F_X8_isAlive
  rw [ckR_t (by omega) (by omega), ckI_t (by omega) (by omega), iteT]; rfl
theorem e_partOf (z : Nat) (c p n : Int) (x : Mm) (h0 : 0 ≤ c) (h1 : c < 5) (h2 : 0 ≤ p) (h3 : 0 ≤ n) (h4 : p + n < 900) : F_X8_partOf z c p n x = some (866 + 900 * c + p + n) := by
  unfold F_X8_partOf
  rw [ckR_t (by omega) (by omega), ckR_t (by omega) (by omega), ckR_t (by omega) (by omega), ckR_t (by omega) (by omega)]
theorem e_is (z : Nat) (c p n : Int) (x : Mm) (h0 : 0 ≤ c) (h1 : c < 5) (h2 : 0 ≤ p) (h3 : 0 ≤ n) (h4 : p + n < 900) : F_X8_is z 0 c p n x = some (b2i (qcp (x.1 27 0) c p n)) := by
  unfold F_X8_is
  rw [e_partOf z c p n x h0 h1 h2 h3 h4, sbind, ckI_t (by omega) (by omega), iteT]; rfl
theorem e_old (z : Nat) (c n f : Int) (x : Mm) (h0 : 0 ≤ c) (h1 : c < 5) (h2 : 0 ≤ n) (h3 : n < 60) (h4 : 0 ≤ f) (h5 : f < 6) : F_X8_old z 0 c n f x = some (qov (x.1 27 0) c n f) := by
  unfold F_X8_old
  rw [ckR_t (by omega) (by omega), ckR_t (by omega) (by omega), e_partOf z c _ _ x h0 h1 (by omega) (by omega) (by omega), sbind, ckI_t (by omega) (by omega)]; rfl
theorem e_fresh (z : Nat) (c n f : Int) (x : Mm) (h0 : 0 ≤ c) (h1 : c < 5) (h2 : 0 ≤ n) (h3 : n < 60) (h4 : 0 ≤ f) (h5 : f < 6) : F_X8_fresh z 0 c n f x = some (qnv (x.1 27 0) c n f) := by
  unfold F_X8_fresh
  rw [ckR_t (by omega) (by omega), ckR_t (by omega) (by omega), e_partOf z c _ _ x h0 h1 (by omega) (by omega) (by omega), sbind, ckI_t (by omega) (by omega)]; rfl
theorem e_value (z : Nat) (n f : Int) (x : Mm) (h2 : 0 ≤ n) (h3 : n < 60) (h4 : 0 ≤ f) (h5 : f < 6) : F_X8_value z 0 n f x = some (qtv (x.1 27 0) n f) := by
  unfold F_X8_value
  rw [ckR_t (by omega) (by omega), ckR_t (by omega) (by omega), ckR_t (by omega) (by omega), ckI_t (by omega) (by omega)]; rfl
theorem e_hasLease (z : Nat) (c : Int) (x : Mm) (h0 : 0 ≤ c) (h1 : c < 5) : F_X8_hasLease z 0 c x = some (b2i (qhl (x.1 27 0) c)) := by
  unfold F_X8_hasLease
  rw [ckR_t (by omega) (by omega), ckR_t (by omega) (by omega), ckI_t (by omega) (by omega), iteS]; rfl
theorem e_isClient (z : Nat) (c : Int) (x : Mm) (hb : Wb (x.1 27 0)) : F_X8_isClient z 0 c x = some (b2i (decide (0 ≤ c ∧ c < qcc (x.1 27 0)))) := by
  have h : 0 ≤ x.1 27 0 (2 : Int).toNat ∧ x.1 27 0 (2 : Int).toNat ≤ 5 := hb.2.2.1
  unfold F_X8_isClient
  rw [ckI_t (by omega) (by omega), ckR_t (by omega) (by omega), e_in, sbind, ckZ_b]
  have e : (0 ≤ c ∧ c ≤ x.1 27 0 (2 : Int).toNat - 1) ↔ (0 ≤ c ∧ c < qcc (x.1 27 0)) := by
    show _ ↔ (0 ≤ c ∧ c < x.1 27 0 (2 : Int).toNat); omega
  simp only [e]
theorem e_isNode (z : Nat) (c : Int) (x : Mm) (hb : Wb (x.1 27 0)) : F_X8_isNode z 0 c x = some (b2i (decide (0 ≤ c ∧ c < qct (x.1 27 0)))) := by
  have h : 1 ≤ x.1 27 0 (3 : Int).toNat ∧ x.1 27 0 (3 : Int).toNat ≤ 60 := hb.2.2.2.1
  unfold F_X8_isNode
  rw [ckI_t (by omega) (by omega), ckR_t (by omega) (by omega), e_in, sbind, ckZ_b]
  have e : (0 ≤ c ∧ c ≤ x.1 27 0 (3 : Int).toNat - 1) ↔ (0 ≤ c ∧ c < qct (x.1 27 0)) := by
    show _ ↔ (0 ≤ c ∧ c < x.1 27 0 (3 : Int).toNat); omega
  simp only [e]
theorem e_isField (z : Nat) (c : Int) (x : Mm) (hb : Wb (x.1 27 0)) : F_X8_isField z 0 c x = some (b2i (decide (0 ≤ c ∧ c < qfc (x.1 27 0)))) := by
  have h : 0 ≤ x.1 27 0 (1 : Int).toNat ∧ x.1 27 0 (1 : Int).toNat ≤ 6 := hb.2.1
  unfold F_X8_isField
  rw [ckI_t (by omega) (by omega), ckR_t (by omega) (by omega), e_in, sbind, ckZ_b]
  have e : (0 ≤ c ∧ c ≤ x.1 27 0 (1 : Int).toNat - 1) ↔ (0 ≤ c ∧ c < qfc (x.1 27 0)) := by
    show _ ↔ (0 ≤ c ∧ c < x.1 27 0 (1 : Int).toNat); omega
  simp only [e]
theorem e_within2 (z : Nat) (n m : Int) (x : Mm) (ht : Wt (x.1 27 0)) (hb : Wb (x.1 27 0)) (hm : 0 ≤ m) : ∀ (k : Nat) (i : Int), i < qct (x.1 27 0) → i < (k : Int) → 0 < k → F_X8_isWithin_2 z 0 n m x k i = some (qwk (x.1 27 0) m k i) := by
  have h60 := hb.2.2.2.1
  intro k
  induction k with
  | zero => intro i h1 h2 h3; omega
  | succ k ih =>
    intro i h1 h2 _
    show (if i ≤ m then _ else _) = some (if i ≤ m then i else qwk (x.1 27 0) m k (qpa (x.1 27 0) i))
    by_cases h : i ≤ m
    · rw [if_pos h, if_pos h]
    · rw [if_neg h, if_neg h]
      have hp := ht.2.2 i (by omega) h1
      rw [ckR_t (by omega) (by omega), ckI_t (by omega) (by omega)]
      exact ih (qpa (x.1 27 0) i) (by omega) (by omega) (by omega)
theorem e_isWithin (z : Nat) (hz : 50000 ≤ z) (n m : Int) (x : Mm) (ht : Wt (x.1 27 0)) (hb : Wb (x.1 27 0)) (hm : 0 ≤ m) (hn : n < qct (x.1 27 0)) : F_X8_isWithin z 0 n m x = some (b2i (win (x.1 27 0) n m)) := by
  have h60 := hb.2.2.2.1
  unfold F_X8_isWithin
  rw [e_within2 z n m x ht hb hm z n hn (by omega) (by omega), sbind, iteT, qwk_st ht hm z 64 n hn (by omega) (by omega)]; rfl
