/-! The model's merge. -/
def fo {σ : Type} (f : Int → σ → σ) : Nat → σ → σ
  | 0, s => s
  | k + 1, s => f (k : Int) (fo f k s)
theorem fo_0 {σ : Type} {f : Int → σ → σ} {s : σ} : fo f (0 : Int).toNat s = s := rfl
theorem fo_s {σ : Type} {f : Int → σ → σ} {s : σ} {i : Int} (h : 0 ≤ i) : fo f (i + 1).toNat s = f i (fo f i.toNat s) := by
  have e : (i + 1).toNat = i.toNat + 1 := by omega
  rw [e]
  show f ((i.toNat : Nat) : Int) (fo f i.toNat s) = _
  rw [Int.toNat_of_nonneg h]
abbrev Sp : Type := (Nat → Int) × Int
/-- the merged value -/
def qmv (rule b c t : Int) : Int := if rule = 0 then ((if (if (((BitVec.ofInt 64 t) + (BitVec.ofInt 64 c)) - (BitVec.ofInt 64 b)).toInt < (BitVec.ofInt 64 (1000000000)).toInt then (((BitVec.ofInt 64 t) + (BitVec.ofInt 64 c)) - (BitVec.ofInt 64 b)) else (BitVec.ofInt 64 (1000000000))).toInt < (BitVec.ofInt 64 (-1000000000)).toInt then (BitVec.ofInt 64 (-1000000000)) else (if (((BitVec.ofInt 64 t) + (BitVec.ofInt 64 c)) - (BitVec.ofInt 64 b)).toInt < (BitVec.ofInt 64 (1000000000)).toInt then (((BitVec.ofInt 64 t) + (BitVec.ofInt 64 c)) - (BitVec.ofInt 64 b)) else (BitVec.ofInt 64 (1000000000)))).setWidth 32).toInt else if rule = 1 then max t c else if rule = 2 then min t c else if rule = 3 then (bior (biand t (bixor (biand b (bixor c (-1 : Int))) (-1 : Int))) (biand c (bixor b (-1 : Int)))) else if rule = 4 then (if t = b then c else t) else c
def qai (r : Nat → Int) (c n i : Int) : Nat → Int := fun k => if 251 + 6 * n ≤ (k : Int) ∧ (k : Int) < 251 + 6 * n + i then r (866 + 900 * c + 540 + ((k : Int) - 251)).toNat else up r (191 + n).toNat 1 k
def qaa (r : Nat → Int) (c n : Int) : Nat → Int := qai r c n 6
def oA (c n : Int) (s : Sp) : Sp := if qal s.1 (qpa s.1 n) = false then (qob s.1 2 n (-1) 0 c, s.2 + 1) else if qcw s.1 (qpa s.1 n) (qlb s.1 n) = -1 then (qaa s.1 c n, s.2) else (qob s.1 3 n (-1) 0 c, s.2 + 1)
def oF (c n f : Int) (s : Sp) : Sp := if qru s.1 f = 4 ∧ ¬ qtv s.1 n f = qov s.1 c n f ∧ ¬ qtv s.1 n f = qnv s.1 c n f then (qob s.1 0 n f (qnv s.1 c n f) c, s.2 + 1) else (up s.1 (251 + 6 * n + f).toNat (qmv (qru s.1 f) (qov s.1 c n f) (qnv s.1 c n f) (qtv s.1 n f)), s.2)
def gFq (c n f : Int) (s : Sp) : Sp := if qch s.1 c n f = true then oF c n f s else s
def oC (c n : Int) (s : Sp) : Sp := if qco s.1 c n = 0 then s else if qal s.1 n = false then (qob s.1 1 n (-1) 0 c, s.2 + 1) else fo (gFq c n) (qfc s.1).toNat s
def qki (r : Nat → Int) (n i : Int) : Nat → Int := fun k => if 191 + n ≤ (k : Int) ∧ (k : Int) < 191 + i ∧ win r ((k : Int) - 191) n = true then 0 else r k
def qkl (r : Nat → Int) (n : Int) : Nat → Int := qki r n (qct r)
def qrm (r : Nat → Int) (c n : Int) : Bool := qall (fun j => !(qal r j && win r j n) || qab r c j) (qct r).toNat
def oR (c n : Int) (s : Sp) : Sp := if qal s.1 n = false then s else if qrm s.1 c n = true then (qkl s.1 n, s.2) else (qob s.1 4 n (-1) 0 c, s.2 + 1)
def gAq (c n : Int) (s : Sp) : Sp := if (qcp s.1 c 120 n && qcp s.1 c 60 n) = true then oA c n s else s
def gR (c n : Int) (s : Sp) : Sp := if (decide (1 ≤ n) && qtp s.1 c n) = true then oR c n s else s
def qen (r : Nat → Int) (c : Int) : Nat → Int := fun k => if 866 + 900 * c ≤ (k : Int) ∧ (k : Int) < 866 + 900 * c + 900 then 0 else up (up (up r (611 + 3 * c).toNat (-1)) (611 + 3 * c + 1).toNat 0) (611 + 3 * c + 2).toNat 0 k
/-- the merge but for the lease's end -/
def qm3 (c : Int) (s : Sp) : Sp := fo (gR c) (qct s.1).toNat (fo (oC c) (qct s.1).toNat (fo (gAq c) (qct s.1).toNat s))
/-- what a merge leaves as it was -/
def Sm (r0 r : Nat → Int) : Prop := ∀ i : Int, 0 ≤ i → i ≠ 4 → ¬ (191 ≤ i ∧ i < 611) → ¬ (626 ≤ i ∧ i < 866) → r i.toNat = r0 i.toNat
theorem Sm.rf {r : Nat → Int} : Sm r r := fun _ _ _ _ _ => rfl
theorem Sm.tr {r0 r1 r2 : Nat → Int} (a : Sm r0 r1) (b : Sm r1 r2) : Sm r0 r2 := fun i h0 h1 h2 h3 => (b i h0 h1 h2 h3).trans (a i h0 h1 h2 h3)
section
variable {r0 r : Nat → Int}
theorem Sm.tk (h : Sm r0 r) : qtk r = qtk r0 := h 0 (by omega) (by omega) (by omega) (by omega)
theorem Sm.fc (h : Sm r0 r) : qfc r = qfc r0 := h 1 (by omega) (by omega) (by omega) (by omega)
theorem Sm.cc (h : Sm r0 r) : qcc r = qcc r0 := h 2 (by omega) (by omega) (by omega) (by omega)
theorem Sm.ct (h : Sm r0 r) : qct r = qct r0 := h 3 (by omega) (by omega) (by omega) (by omega)
theorem Sm.ru (h : Sm r0 r) {f : Int} (h0 : 0 ≤ f) (h1 : f < 6) : qru r f = qru r0 f := h (5 + f) (by omega) (by omega) (by omega) (by omega)
theorem Sm.pa (h : Sm r0 r) {n : Int} (h0 : 0 ≤ n) (h1 : n < 60) : qpa r n = qpa r0 n := h (11 + n) (by omega) (by omega) (by omega) (by omega)
theorem Sm.lb (h : Sm r0 r) {n : Int} (h0 : 0 ≤ n) (h1 : n < 60) : qlb r n = qlb r0 n := h (71 + n) (by omega) (by omega) (by omega) (by omega)
theorem Sm.rc (h : Sm r0 r) {n : Int} (h0 : 0 ≤ n) (h1 : n < 60) : qrc r n = qrc r0 n := by
  unfold qrc; rw [h (131 + n) (by omega) (by omega) (by omega) (by omega)]
theorem Sm.cp (h : Sm r0 r) {c p n : Int} (h0 : 0 ≤ c) (h1 : 0 ≤ p) (h2 : 0 ≤ n) : qcp r c p n = qcp r0 c p n := by
  unfold qcp; rw [h (866 + 900 * c + p + n) (by omega) (by omega) (by omega) (by omega)]
theorem Sm.ov (h : Sm r0 r) {c n f : Int} (h0 : 0 ≤ c) (h1 : 0 ≤ n) (h2 : 0 ≤ f) : qov r c n f = qov r0 c n f := h _ (by omega) (by omega) (by omega) (by omega)
theorem Sm.nv (h : Sm r0 r) {c n f : Int} (h0 : 0 ≤ c) (h1 : 0 ≤ n) (h2 : 0 ≤ f) : qnv r c n f = qnv r0 c n f := h _ (by omega) (by omega) (by omega) (by omega)
theorem Sm.ch (h : Sm r0 r) {c n f : Int} (h0 : 0 ≤ c) (h1 : 0 ≤ n) (h2 : 0 ≤ f) : qch r c n f = qch r0 c n f := by
  unfold qch; rw [h.cp h0 (by omega) h1, h.cp h0 (by omega) h1, h.ov h0 h1 h2, h.nv h0 h1 h2]
theorem Sm.co (h : Sm r0 r) {c n : Int} (h0 : 0 ≤ c) (h1 : 0 ≤ n) : qco r c n = qco r0 c n := by
  unfold qco; rw [h.fc]; exact cn_congrI (fun i i0 i1 => h.ch h0 h1 i0)
theorem Sm.wk (h : Sm r0 r) {m : Int} (hm : 0 ≤ m) (hb : Wb r0) (ht : Wt r0) : ∀ (t : Nat) (n : Int), n < qct r0 → qwk r m t n = qwk r0 m t n := by
  intro t
  induction t with
  | zero => intro n _; rfl
  | succ t ih =>
    intro n hn
    show (if n ≤ m then n else qwk r m t (qpa r n)) = (if n ≤ m then n else qwk r0 m t (qpa r0 n))
    by_cases q : n ≤ m
    · rw [if_pos q, if_pos q]
    · have hp := ht.2.2 n (by omega) hn
      have := hb.2.2.2.1
      rw [if_neg q, if_neg q, h.pa (by omega) (by omega), ih _ (by omega)]
theorem Sm.wi (h : Sm r0 r) {m n : Int} (hm : 0 ≤ m) (hb : Wb r0) (ht : Wt r0) (hn : n < qct r0) : win r n m = win r0 n m := by
  unfold win; rw [h.wk hm hb ht 64 n hn]
theorem Sm.bb (h : Sm r0 r) (hb : Wb r0) (hk : 0 ≤ qkc r ∧ qkc r ≤ 40) : Wb r := by
  unfold Wb; rw [h.tk, h.fc, h.cc, h.ct]; exact ⟨hb.1, hb.2.1, hb.2.2.1, hb.2.2.2.1, hk⟩
theorem Sm.tt (h : Sm r0 r) (hb : Wb r0) (ht : Wt r0) : Wt r := by
  have := hb.2.2.2.1
  refine ⟨by rw [h.pa (by omega) (by omega)]; exact ht.1, by rw [h.lb (by omega) (by omega)]; exact ht.2.1, fun n h1 h2 => ?_⟩
  rw [h.ct] at h2
  rw [h.pa (by omega) (by omega), h.lb (by omega) (by omega)]; exact ht.2.2 n h1 h2
end
/-- the writes keep the rest -/
theorem Sm_up {r : Nat → Int} {i v : Int} (h0 : 0 ≤ i) (h : i = 4 ∨ (191 ≤ i ∧ i < 611) ∨ (626 ≤ i ∧ i < 866)) : Sm r (up r i.toNat v) := fun j j0 j1 j2 j3 => up_i j0 h0 (by omega)
theorem Sm_qdr {r : Nat → Int} {d : Int} (hb : Wb r) (h0 : 0 ≤ d) : Sm r (qdr r d) := fun j j0 j1 j2 j3 => by
  have := hb.2.2.2.2
  unfold qdr qdi
  rw [if_neg (by omega), if_neg (by omega)]
theorem Sm_qad {r : Nat → Int} {a b f v c : Int} (h0 : 0 ≤ qkc r) (h1 : qkc r < 40) : Sm r (qad r a b f v c) := fun j j0 j1 j2 j3 => by
  unfold qad
  simp (disch := omega) only [up_i]
theorem qkc_qad {r : Nat → Int} {a b f v c : Int} : qkc (qad r a b f v c) = qkc r + 1 := by
  show qad r a b f v c (4 : Int).toNat = _
  unfold qad; rw [up_s]
theorem Sm_qob {r : Nat → Int} {a b f v c : Int} (hb : Wb r) : Sm r (qob r a b f v c) := by
  have := hb.2.2.2.2
  unfold qob
  by_cases h : qkc r = 40
  · rw [if_pos h]; exact (Sm_qdr hb (by omega)).tr (Sm_qad (by rw [qkc_qdr]; omega) (by rw [qkc_qdr]; omega))
  · rw [if_neg h]; exact Sm_qad (by omega) (by omega)
theorem qkc_qob {r : Nat → Int} {a b f v c : Int} (hb : Wb r) : 0 ≤ qkc (qob r a b f v c) ∧ qkc (qob r a b f v c) ≤ 40 := by
  have := hb.2.2.2.2
  unfold qob
  by_cases h : qkc r = 40
  · rw [if_pos h, qkc_qad, qkc_qdr]; omega
  · rw [if_neg h, qkc_qad]; omega
theorem Sm_qaa {r : Nat → Int} {c n : Int} (h0 : 0 ≤ n) (h1 : n < 60) : Sm r (qaa r c n) := fun j j0 j1 j2 j3 => by
  unfold qaa qai
  rw [if_neg (by omega)]; exact up_i j0 (by omega) (by omega)
theorem qkc_qaa {r : Nat → Int} {c n : Int} (h0 : 0 ≤ n) (h1 : n < 60) : qkc (qaa r c n) = qkc r := by
  show qaa r c n (4 : Int).toNat = _
  unfold qaa qai
  rw [if_neg (by omega)]; exact up_i (by omega) (by omega) (by omega)
theorem Sm_qki {r : Nat → Int} {n i : Int} (h0 : 0 ≤ n) (h1 : i ≤ 60) : Sm r (qki r n i) := fun j j0 j1 j2 j3 => by
  unfold qki
  rw [if_neg (by omega)]
theorem qkc_qki {r : Nat → Int} {n i : Int} (h0 : 0 ≤ n) : qkc (qki r n i) = qkc r := by
  show qki r n i (4 : Int).toNat = _
  unfold qki
  rw [if_neg (by omega)]; rfl
/-- a state of a merge -/
def MI (r0 : Nat → Int) (B : Int) (s : Sp) : Prop := Sm r0 s.1 ∧ (0 ≤ qkc s.1 ∧ qkc s.1 ≤ 40) ∧ 0 ≤ s.2 ∧ s.2 ≤ B
theorem MI.w {r0 : Nat → Int} {B C : Int} {s : Sp} (h : MI r0 B s) (q : B ≤ C) : MI r0 C s := ⟨h.1, h.2.1, h.2.2.1, by have := h.2.2.2; omega⟩
section
variable {r0 : Nat → Int} {B c n : Int} {s : Sp}
theorem MI.wb (h : MI r0 B s) (hb : Wb r0) : Wb s.1 := h.1.bb hb h.2.1
theorem MI.wt (h : MI r0 B s) (hb : Wb r0) (ht : Wt r0) : Wt s.1 := h.1.tt hb ht
theorem MI.ob (h : MI r0 B s) (hb : Wb r0) {a b f v c : Int} : MI r0 (B + 1) (qob s.1 a b f v c, s.2 + 1) := ⟨h.1.tr (Sm_qob (h.wb hb)), qkc_qob (h.wb hb), by have := h.2.2; show 0 ≤ s.2 + 1; omega, by have := h.2.2; show s.2 + 1 ≤ B + 1; omega⟩
theorem MI.set (h : MI r0 B s) {r : Nat → Int} (h1 : Sm s.1 r) (h2 : qkc r = qkc s.1) : MI r0 B (r, s.2) := ⟨h.1.tr h1, by show 0 ≤ qkc r ∧ qkc r ≤ 40; rw [h2]; exact h.2.1, h.2.2⟩
theorem MI.kA (h : MI r0 B s) (hb : Wb r0) (h0 : 0 ≤ n) (h1 : n < 60) : MI r0 (B + 1) (oA c n s) := by
  unfold oA
  split
  · exact h.ob hb
  · split
    · exact (h.set (Sm_qaa h0 h1) (qkc_qaa h0 h1)).w (by omega)
    · exact h.ob hb
theorem MI.kF (h : MI r0 B s) (hb : Wb r0) (h0 : 0 ≤ n) (h1 : n < 60) {f : Int} (h2 : 0 ≤ f) (h3 : f < 6) : MI r0 (B + 1) (oF c n f s) := by
  unfold oF
  split
  · exact h.ob hb
  · exact (h.set (Sm_up (by omega) (by omega)) (qkc_up (by omega) (by omega))).w (by omega)
theorem MI.kgF (h : MI r0 B s) (hb : Wb r0) (h0 : 0 ≤ n) (h1 : n < 60) {f : Int} (h2 : 0 ≤ f) (h3 : f < 6) : MI r0 (B + 1) (gFq c n f s) := by
  unfold gFq
  split
  · exact h.kF hb h0 h1 h2 h3
  · exact h.w (by omega)
theorem MI.kfF (h : MI r0 B s) (hb : Wb r0) (h0 : 0 ≤ n) (h1 : n < 60) : ∀ k : Nat, k ≤ 6 → MI r0 (B + (k : Int)) (fo (gFq c n) k s) := by
  intro k
  induction k with
  | zero => intro _; exact h.w (by omega)
  | succ k ih =>
    intro hk
    exact ((ih (by omega)).kgF hb h0 h1 (by omega) (by omega)).w (by omega)
theorem MI.kC (h : MI r0 B s) (hb : Wb r0) (h0 : 0 ≤ n) (h1 : n < 60) : MI r0 (B + 6) (oC c n s) := by
  have hf := hb.2.1
  unfold oC
  split
  · exact h.w (by omega)
  · split
    · exact (h.ob hb).w (by omega)
    · have e := h.1.fc
      exact (h.kfF hb h0 h1 _ (by omega)).w (by omega)
theorem MI.kR (h : MI r0 B s) (hb : Wb r0) (h0 : 0 ≤ n) (h1 : n < 60) : MI r0 (B + 1) (oR c n s) := by
  have hf := hb.2.2.2.1
  have e := h.1.ct
  unfold oR
  split
  · exact h.w (by omega)
  · split
    · exact (h.set (Sm_qki h0 (by omega)) (qkc_qki h0)).w (by omega)
    · exact h.ob hb
theorem MI.kgA (h : MI r0 B s) (hb : Wb r0) (h0 : 0 ≤ n) (h1 : n < 60) : MI r0 (B + 1) (gAq c n s) := by
  unfold gAq
  split
  · exact h.kA hb h0 h1
  · exact h.w (by omega)
theorem MI.kgR (h : MI r0 B s) (hb : Wb r0) (h0 : 0 ≤ n) (h1 : n < 60) : MI r0 (B + 1) (gR c n s) := by
  unfold gR
  split
  · exact h.kR hb h0 h1
  · exact h.w (by omega)
theorem MI.kfA (h : MI r0 B s) (hb : Wb r0) : ∀ k : Nat, k ≤ 60 → MI r0 (B + (k : Int)) (fo (gAq c) k s) := by
  intro k
  induction k with
  | zero => intro _; exact h.w (by omega)
  | succ k ih =>
    intro hk
    exact ((ih (by omega)).kgA hb (by omega) (by omega)).w (by omega)
theorem MI.kfC (h : MI r0 B s) (hb : Wb r0) : ∀ k : Nat, k ≤ 60 → MI r0 (B + 6 * (k : Int)) (fo (oC c) k s) := by
  intro k
  induction k with
  | zero => intro _; exact h.w (by omega)
  | succ k ih =>
    intro hk
    exact ((ih (by omega)).kC hb (by omega) (by omega)).w (by omega)
theorem MI.kfR (h : MI r0 B s) (hb : Wb r0) : ∀ k : Nat, k ≤ 60 → MI r0 (B + (k : Int)) (fo (gR c) k s) := by
  intro k
  induction k with
  | zero => intro _; exact h.w (by omega)
  | succ k ih =>
    intro hk
    exact ((ih (by omega)).kgR hb (by omega) (by omega)).w (by omega)
end
