/-! What the steps of a merge do to the trunk. -/
def So (r r1 : Nat → Int) : Prop := ∀ i : Int, 0 ≤ i → i ≠ 4 → ¬ (626 ≤ i ∧ i < 866) → r1 i.toNat = r i.toNat
theorem So.al {r r1 : Nat → Int} (h : So r r1) {n : Int} (n0 : 0 ≤ n) (n1 : n < 60) : qal r1 n = qal r n := by
  unfold qal; rw [h (191 + n) (by omega) (by omega) (by omega)]
theorem So.tv {r r1 : Nat → Int} (h : So r r1) {n f : Int} (n0 : 0 ≤ n) (n1 : n < 60) (f0 : 0 ≤ f) (f1 : f < 6) : qtv r1 n f = qtv r n f := h _ (by omega) (by omega) (by omega)
theorem So.ct {r r1 : Nat → Int} (h : So r r1) : qct r1 = qct r := h 3 (by omega) (by omega) (by omega)
theorem So_qdr {r : Nat → Int} {d : Int} (hb : Wb r) (h0 : 0 ≤ d) : So r (qdr r d) := fun j j0 j1 j3 => by
  have := hb.2.2.2.2
  unfold qdr qdi
  rw [if_neg (by omega), if_neg (by omega)]
theorem So_qad {r : Nat → Int} {a b f v c : Int} (h0 : 0 ≤ qkc r) (h1 : qkc r < 40) : So r (qad r a b f v c) := fun j j0 j1 j3 => by
  unfold qad
  simp (disch := omega) only [up_i]
theorem So_qob {r : Nat → Int} {a b f v c : Int} (hb : Wb r) : So r (qob r a b f v c) := by
  have := hb.2.2.2.2
  unfold qob
  by_cases h : qkc r = 40
  · rw [if_pos h]
    exact fun i i0 i1 i2 => (So_qad (r := qdr r 0) (by rw [qkc_qdr]; omega) (by rw [qkc_qdr]; omega) i i0 i1 i2).trans (So_qdr hb (by omega) i i0 i1 i2)
  · rw [if_neg h]; exact So_qad (by omega) (by omega)
theorem qal_qaa {r : Nat → Int} {c n m : Int} (n0 : 0 ≤ n) (m0 : 0 ≤ m) (m1 : m < 60) : qal (qaa r c n) m = (decide (m = n) || qal r m) := by
  unfold qal qaa qai
  rw [if_neg (by omega)]
  by_cases h : m = n
  · subst h; rw [up_s]; simp
  · rw [up_i (by omega) (by omega) (by omega), decide_eq_false h, Bool.false_or]
theorem qtv_qaa {r : Nat → Int} {c n m f : Int} (n0 : 0 ≤ n) (m0 : 0 ≤ m) (m1 : m < 60) (n1 : n < 60) (f0 : 0 ≤ f) (f1 : f < 6) : qtv (qaa r c n) m f = if m = n then qnv r c n f else qtv r m f := by
  unfold qtv qaa qai qnv
  by_cases h : m = n
  · subst h
    rw [if_pos (by omega), if_pos rfl]
    congr 1; omega
  · rw [if_neg (by omega), if_neg h]
    exact up_i (by omega) (by omega) (by omega)
theorem qct_qaa {r : Nat → Int} {c n : Int} (n0 : 0 ≤ n) (n1 : n < 60) : qct (qaa r c n) = qct r := (Sm_qaa n0 n1).ct
theorem qal_upv {r : Nat → Int} {i v m : Int} (i0 : 251 ≤ i) (m0 : 0 ≤ m) (m1 : m < 60) : qal (up r i.toNat v) m = qal r m := by
  unfold qal; rw [up_i (by omega) (by omega) (by omega)]
theorem qtv_upv {r : Nat → Int} {v n f m g : Int} (n0 : 0 ≤ n) (m0 : 0 ≤ m) (f0 : 0 ≤ f) (f1 : f < 6) (g0 : 0 ≤ g) (g1 : g < 6) : qtv (up r (251 + 6 * n + f).toNat v) m g = if m = n ∧ g = f then v else qtv r m g := by
  unfold qtv
  by_cases h : m = n ∧ g = f
  · rw [if_pos h]; exact up_e (by omega)
  · rw [if_neg h]; exact up_i (by omega) (by omega) (by omega)
theorem qal_qkl {r : Nat → Int} {n m : Int} (n0 : 0 ≤ n) (m0 : 0 ≤ m) (m1 : m < 60) : qal (qkl r n) m = (qal r m && !(decide (m < qct r) && win r m n)) := by
  unfold qal qkl qki
  have e : (((191 + m).toNat : Nat) : Int) - 191 = m := by omega
  rw [e]
  by_cases h : m < qct r
  · cases hw : win r m n
    · rw [if_neg (by rintro ⟨_, _, q⟩; cases q)]; simp
    · have := win_le hw
      rw [if_pos ⟨by omega, by omega, rfl⟩, decide_eq_true h]; simp
  · rw [if_neg (by rintro ⟨_, q, _⟩; omega), decide_eq_false h]; simp
theorem qtv_qkl {r : Nat → Int} {n m f : Int} (h60 : qct r ≤ 60) (n0 : 0 ≤ n) (m0 : 0 ≤ m) (f0 : 0 ≤ f) : qtv (qkl r n) m f = qtv r m f := by
  unfold qtv qkl qki
  rw [if_neg (by omega)]
/-- fields that the setup doesn't have are 0 -/
def Wv (r : Nat → Int) : Prop := ∀ n f : Int, 0 ≤ n → n < 60 → qfc r ≤ f → f < 6 → qtv r n f = 0
theorem Wv.So {r r1 : Nat → Int} (h : Wv r) (hb : Wb r) (q : So r r1) : Wv r1 := fun n f n0 n1 f0 f1 => by
  have e : qfc r1 = qfc r := q 1 (by omega) (by omega) (by omega)
  have := hb.2.1
  rw [e] at f0
  rw [q.tv n0 n1 (by omega) f1]; exact h n f n0 n1 f0 f1
/-- what a client's lease holds besides -/
def Wc (r : Nat → Int) (c : Int) : Prop := qcp r c 120 0 = false ∧ (∀ n f : Int, 0 ≤ n → n < 60 → qfc r ≤ f → f < 6 → qov r c n f = 0 ∧ qnv r c n f = 0) ∧ (∀ n : Int, 0 ≤ n → n < 60 → qcp r c 60 n = true → qcp r c 0 n = true ∨ qcp r c 120 n = true)
theorem RB.obs {al : Nat → BitVec 64} {vs r r1 : Nat → Int} (h : RB al vs r) (q : So r r1) (h60 : qct r ≤ 60) : RB al vs r1 := by
  refine ⟨fun n n0 n1 => ?_, fun n f n0 n1 f0 f1 => ?_⟩
  · rw [h.1 n n0 n1, q.ct]
    by_cases e : n < qct r
    · rw [q.al n0 (by omega)]
    · simp [e]
  · rw [h.2 n f n0 n1 f0 f1, q.tv n0 n1 f0 f1]
theorem RB.add {al : Nat → BitVec 64} {vs r cv : Nat → Int} {c n : Int} (h : RB al vs r) (n0 : 0 ≤ n) (n1 : n < qct r) (h60 : qct r ≤ 60) (hc : ∀ f : Int, 0 ≤ f → f < 6 → cv (n * 6 + f).toNat = qnv r c n f) : RB (up al 0 (al 0 ||| bt n)) (cpy cv (n * 6).toNat vs (n * 6).toNat (6 : Int).toNat) (qaa r c n) := by
  refine ⟨fun m m0 m1 => ?_, fun m f m0 m1 f0 f1 => ?_⟩
  · rw [up_s, has_or, h.1 m m0 m1, has_bt n0 (by omega) m0, qct_qaa n0 (by omega)]
    by_cases e : m < qct r
    · rw [qal_qaa n0 m0 (by omega), decide_eq_true e, Bool.true_and, Bool.true_and, Bool.or_comm]
    · rw [decide_eq_false e, decide_eq_false (show ¬ m = n by omega)]; rfl
  · rw [qtv_qaa n0 m0 m1 (by omega) f0 f1]
    by_cases e : m = n
    · subst e
      rw [if_pos rfl, cpy_i (by omega) (by omega) (by omega) (by omega), ← hc f f0 f1]
      congr 1; omega
    · rw [if_neg e, cpy_o (by omega) (by omega) (by omega)]; exact h.2 m f m0 m1 f0 f1
theorem RB.put {al : Nat → BitVec 64} {vs r : Nat → Int} {n f v : Int} (h : RB al vs r) (n0 : 0 ≤ n) (n1 : n < 60) (f0 : 0 ≤ f) (f1 : f < 6) (h60 : qct r ≤ 60) : RB al (up vs (n * 6 + f).toNat v) (up r (251 + 6 * n + f).toNat v) := by
  have e3 : qct (up r (251 + 6 * n + f).toNat v) = qct r := up_i (by omega) (by omega) (by omega)
  refine ⟨fun m m0 m1 => ?_, fun m g m0 m1 g0 g1 => ?_⟩
  · rw [h.1 m m0 m1, e3]
    by_cases e : m < qct r
    · rw [qal_upv (by omega) m0 (by omega)]
    · simp [e]
  · rw [qtv_upv n0 m0 f0 f1 g0 g1]
    by_cases e : m = n ∧ g = f
    · rw [if_pos e]; exact up_e (by omega)
    · rw [if_neg e, up_i (by omega) (by omega) (by omega)]; exact h.2 m g m0 m1 g0 g1
theorem RB.putS {al : Nat → BitVec 64} {vs r : Nat → Int} {n f : Int} (h : RB al vs r) (n0 : 0 ≤ n) (n1 : n < 60) (f0 : 0 ≤ f) (f1 : f < 6) : RB al (up vs (n * 6 + f).toNat (qtv r n f)) r := by
  refine ⟨h.1, fun m g m0 m1 g0 g1 => ?_⟩
  by_cases e : m = n ∧ g = f
  · rw [e.1, e.2, up_s]
  · rw [up_i (by omega) (by omega) (by omega)]; exact h.2 m g m0 m1 g0 g1
theorem RB.kill {al : Nat → BitVec 64} {vs r : Nat → Int} {n : Int} {v : BitVec 64} (h : RB al vs r) (n0 : 0 ≤ n) (h60 : qct r ≤ 60) (hv : ∀ m : Int, 0 ≤ m → m < 64 → has v m = (decide (m < qct r) && win r m n)) : RB (up al 0 (al 0 &&& (v ^^^ BitVec.ofInt 64 (-1)))) vs (qkl r n) := by
  have e3 : qct (qkl r n) = qct r := (Sm_qki n0 h60).ct
  refine ⟨fun m m0 m1 => ?_, fun m f m0 m1 f0 f1 => ?_⟩
  · rw [up_s, has_and, has_not m0 m1, h.1 m m0 m1, hv m m0 m1, e3]
    by_cases e : m < qct r
    · rw [qal_qkl n0 m0 (by omega), Bool.and_assoc]
    · rw [decide_eq_false e]; rfl
  · rw [qtv_qkl h60 n0 m0 f0]; exact h.2 m f m0 m1 f0 f1
theorem RC.same {a ps r r1 : Nat → Int} (h : RC a ps r) (hk : qkc r ≤ 40) (q : ∀ i : Int, i = 4 ∨ (626 ≤ i ∧ i < 866) → r1 i.toNat = r i.toNat) : RC a ps r1 := by
  have e : qkc r1 = qkc r := q 4 (Or.inl rfl)
  refine ⟨by rw [e]; exact h.1, fun n w n0 n1 w0 w1 => ?_⟩
  rw [e] at n1
  rw [h.2 n w n0 n1 w0 w1]
  exact (q _ (by omega)).symm
theorem KC.same {real : Prop} {a ps r r1 : Nat → Int} (h : KC real a ps r) (hk : qkc r ≤ 40) (q : ∀ i : Int, i = 4 ∨ (626 ≤ i ∧ i < 866) → r1 i.toNat = r i.toNat) : KC real a ps r1 := ⟨h.1, h.2.1, fun w => (h.2.2 w).same hk q⟩
theorem qaa_k {r : Nat → Int} {c n i : Int} (n0 : 0 ≤ n) (n1 : n < 60) (h : i = 4 ∨ (626 ≤ i ∧ i < 866)) : qaa r c n i.toNat = r i.toNat := by
  unfold qaa qai
  rw [if_neg (by omega)]; exact up_i (by omega) (by omega) (by omega)
theorem qkl_k {r : Nat → Int} {n i : Int} (n0 : 0 ≤ n) (h60 : qct r ≤ 60) (h : i = 4 ∨ (626 ≤ i ∧ i < 866)) : qkl r n i.toNat = r i.toNat := by
  unfold qkl qki
  rw [if_neg (by omega)]
