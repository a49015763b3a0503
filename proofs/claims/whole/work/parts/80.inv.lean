/-! What holds between two calls. -/
def TX (x : Mm) : Prop := x.1 5 0 0 = x.1 8 0 2 ∧ (0 ≤ x.1 8 0 2 ∧ x.1 8 0 2 ≤ 600) ∧ ∀ k : Int, 0 ≤ k → k < x.1 8 0 2 → x.1 25 0 k.toNat = x.1 26 0 k.toNat ∧ 1 ≤ x.1 26 0 k.toNat ∧ x.1 26 0 k.toNat ≤ 255
def SV (x : Mm) : Prop := x.1 7 0 2 = x.1 8 0 13 ∧ (x.1 8 0 13 = 0 ∨ x.1 8 0 13 = 1) ∧ (x.1 8 0 13 = 1 → Rs x 1 (x.1 27 2)) ∧ Zr (x.1 27 2)
def Inv (x : Mm) : Prop := Rs x 0 (x.1 27 0) ∧ Zr (x.1 27 0) ∧ SV x ∧ HI x (x.1 28 0) (x.1 8 0 12) ∧ TX x ∧ (0 ≤ x.1 1 11 0 ∧ x.1 1 11 0 ≤ 40)
/-- the model's field of what would be thrown -/
def th (x : Mm) (t : Int) : Mm := pj x 8 0 (up (x.1 8 0) 0 t)
theorem th_w {x : Mm} {t : Int} : wI x 8 0 0 t = th x t := wI_pj
theorem th_C {x : Mm} {t : Int} {C j : Nat} (h : C ≠ 8) : (th x t).1 C j = x.1 C j := pj_C h
theorem th_2 {x : Mm} {t : Int} : (th x t).2 = x.2 := rfl
theorem th_0 {x : Mm} {t : Int} : (th x t).1 8 0 0 = t := by unfold th; rw [pj_s, up_s]
theorem th_k {x : Mm} {t : Int} {k : Nat} (h : k ≠ 0) : (th x t).1 8 0 k = x.1 8 0 k := by unfold th; rw [pj_s, up_n h]
theorem th_th {x : Mm} {a t : Int} : th (th x a) t = th x t := by
  unfold th; rw [pj_s, pj_pj, up_up]
theorem own_8 {C j : Nat} (h : C = 2 ∨ C = 5 ∨ C = 7 ∨ C = 8 ∨ C = 25 ∨ C = 26 ∨ C = 27 ∨ C = 28 ∨ C = 31) : own C j = 100 + C := own_o (by omega) (by omega) (by omega)
/-- the class's part and the model's part of what always holds, told apart: x the class's memory, y the whole -/
theorem Inv_th {x : Mm} {t : Int} (h : Inv x) : Inv (th x t) := by
  obtain ⟨h1, h2, h3, h4, h5, h6⟩ := h
  have hF : Fo (fun o => o = 108) x (th x t) := fo_pj (own_8 (by omega))
  refine ⟨?_, ?_, ?_, ?_, ?_, ?_⟩
  · rw [th_C (by decide)]; exact Rs_fr h1 hF (by omega)
  · rw [th_C (by decide)]; exact h2
  · unfold SV
    rw [th_C (C := 7) (by decide), th_C (C := 27) (by decide), th_k (k := 13) (by decide)]
    exact ⟨h3.1, h3.2.1, fun w => Rs_fr (h3.2.2.1 w) hF (by omega), h3.2.2.2⟩
  · rw [th_C (by decide), th_k (by decide)]; exact HI_fr h4 hF (fun o _ _ => by omega) (by omega)
  · unfold TX
    rw [th_C (by decide), th_k (by decide), th_C (by decide), th_C (by decide)]; exact h5
  · rw [th_C (by decide)]; exact h6
/-- what a call answers, in class and model -/
def Ok (L : List String) (y : Int ⊕ String) (b t : Int) : Prop := (y = .inl b ∧ t = 0) ∨ (∃ E, y = .inr E ∧ hcode L E = some t ∧ t ≠ 0)
def Pr (L : List String) (F7 : Mm → Option ((Int ⊕ String) × Mm)) (F8 : Mm → Option (Int × Mm)) (x : Mm) : Prop := ∃ y x1 b x2, F7 x = some (y, x1) ∧ F8 x1 = some (b, x2) ∧ Inv x2 ∧ Ok L y b (x2.1 8 0 0)
abbrev sI : String := "java/lang/IndexOutOfBoundsException"
abbrev sA : String := "java/lang/IllegalArgumentException"
abbrev sS : String := "java/lang/IllegalStateException"
abbrev sN : String := "java/util/NoSuchElementException"
theorem Pr.get {L : List String} {F7 : Mm → Option ((Int ⊕ String) × Mm)} {F8 : Mm → Option (Int × Mm)} {x : Mm} {y : Int ⊕ String} {b t : Int} (h : Inv x) (e7 : F7 x = some (y, x)) (e8 : F8 x = some (b, th x t)) (ho : Ok L y b t) : Pr L F7 F8 x := ⟨y, x, b, _, e7, e8, Inv_th h, by rw [th_0]; exact ho⟩
theorem Ok.v {L : List String} {b : Int} : Ok L (.inl b) b 0 := Or.inl ⟨rfl, rfl⟩
theorem Ok.x {L : List String} {E : String} {b t : Int} (h : hcode L E = some t) (h0 : t ≠ 0) : Ok L (.inr E) b t := Or.inr ⟨E, rfl, h, h0⟩
section
variable {z : Nat} {x : Mm} {c n f t : Int}
theorem rqC_t (h0 : 0 ≤ c) (h1 : c < x.1 6 0 2) : F_X7_requireClient z 0 c x = some (.inl (), x) := by
  unfold F_X7_requireClient; rw [if_neg (by omega), if_pos h1]
theorem rqC_f (h : ¬ (0 ≤ c ∧ c < x.1 6 0 2)) : F_X7_requireClient z 0 c x = some (.inr sI, x) := by
  unfold F_X7_requireClient
  by_cases q : c < 0
  · rw [if_pos q]
  · rw [if_neg q, if_neg (by omega)]
theorem rqN_t (h0 : 0 ≤ n) (h1 : n < x.1 4 0 0) : F_X7_requireNode z 0 n x = some (.inl (), x) := by
  unfold F_X7_requireNode; rw [if_neg (by omega), if_pos h1]
theorem rqN_f (h : ¬ (0 ≤ n ∧ n < x.1 4 0 0)) : F_X7_requireNode z 0 n x = some (.inr sI, x) := by
  unfold F_X7_requireNode
  by_cases q : n < 0
  · rw [if_pos q]
  · rw [if_neg q, if_neg (by omega)]
theorem rqF_t (h0 : 0 ≤ f) (h1 : f < x.1 6 0 1) : F_X7_requireField z 0 f x = some (.inl (), x) := by
  unfold F_X7_requireField; rw [if_neg (by omega), if_pos h1]
theorem rqF_f (h : ¬ (0 ≤ f ∧ f < x.1 6 0 1)) : F_X7_requireField z 0 f x = some (.inr sI, x) := by
  unfold F_X7_requireField
  by_cases q : f < 0
  · rw [if_pos q]
  · rw [if_neg q, if_neg (by omega)]
theorem rqK_t (h0 : 0 ≤ n) (h1 : n < x.1 1 0 0) : F_X7_requireConflict z 0 n x = some (.inl (), x) := by
  unfold F_X7_requireConflict; rw [if_neg (by omega), if_pos h1]
theorem rqK_f (h : ¬ (0 ≤ n ∧ n < x.1 1 0 0)) : F_X7_requireConflict z 0 n x = some (.inr sI, x) := by
  unfold F_X7_requireConflict
  by_cases q : n < 0
  · rw [if_pos q]
  · rw [if_neg q, if_neg (by omega)]
theorem rqT_t (h0 : 1 ≤ t) (h1 : t ≤ 100) : F_X7_requireLeaseTicks z 0 t x = some (.inl (), x) := by
  unfold F_X7_requireLeaseTicks; rw [if_neg (by omega), if_pos h1]
theorem rqT_f (h : ¬ (1 ≤ t ∧ t ≤ 100)) : F_X7_requireLeaseTicks z 0 t x = some (.inr sA, x) := by
  unfold F_X7_requireLeaseTicks
  by_cases q : t < 1
  · rw [if_pos q]
  · rw [if_neg q, if_neg (by omega)]
theorem rqL_t (h0 : 0 ≤ c) (h1 : c < 5) (h : x.1 3 (5 * 0 + c.toNat) 0 = 1) : F_X7_requireLease z 0 c x = some (.inl (), x) := by
  unfold F_X7_requireLease; rw [ckI_t h0 (by omega), if_neg (by omega)]
theorem rqL_f (h0 : 0 ≤ c) (h1 : c < 5) (h : x.1 3 (5 * 0 + c.toNat) 0 = 0) : F_X7_requireLease z 0 c x = some (.inr sS, x) := by
  unfold F_X7_requireLease; rw [ckI_t h0 (by omega), if_pos h]
theorem rqP_t (h0 : 0 ≤ c) (h1 : c < 5) (n0 : 0 ≤ n) (n1 : n < 64) (h : has (x.2 0 (3 * (5 * 0 + c.toNat) + 2) 0) n = true) : F_X7_requireInCopy z 0 c n x = some (.inl (), x) := by
  unfold F_X7_requireInCopy; rw [ckI_t h0 (by omega), k_has z x n0 n1, sbind, ib, h, if_neg (by decide)]
theorem rqP_f (h0 : 0 ≤ c) (h1 : c < 5) (n0 : 0 ≤ n) (n1 : n < 64) (h : has (x.2 0 (3 * (5 * 0 + c.toNat) + 2) 0) n = false) : F_X7_requireInCopy z 0 c n x = some (.inr sS, x) := by
  unfold F_X7_requireInCopy; rw [ckI_t h0 (by omega), k_has z x n0 n1, sbind, ib, h, if_pos rfl]
/-- the model's checks -/
theorem e_fails1 {w : Int} : F_X8_fails z 0 1 w x = some (0, x) := rfl
theorem e_fails0 {w : Int} : F_X8_fails z 0 0 w x = some (1, th x w) := by
  unfold F_X8_fails; rw [if_pos rfl, sbind, if_pos rfl, th_w]
theorem it1 {α : Type} {y : Mm} {A B : α} : (if ((1 : Int), y).1 = 0 then A else B) = B := rfl
theorem it0 {α : Type} {y : Mm} {A B : α} : (if ((0 : Int), y).1 = 0 then A else B) = A := rfl
theorem e_failsT {w : Int} {p : Prop} [Decidable p] (h : p) : F_X8_fails z 0 (b2i (decide p)) w x = some (0, x) := by
  rw [decide_eq_true h]; exact e_fails1
theorem e_failsF {w : Int} {p : Prop} [Decidable p] (h : ¬ p) : F_X8_fails z 0 (b2i (decide p)) w x = some (1, th x w) := by
  rw [decide_eq_false h]; exact e_fails0
theorem e_failst {w : Int} {b : Bool} (h : b = true) : F_X8_fails z 0 (b2i b) w x = some (0, x) := by
  rw [h]; exact e_fails1
theorem e_failsf {w : Int} {b : Bool} (h : b = false) : F_X8_fails z 0 (b2i b) w x = some (1, th x w) := by
  rw [h]; exact e_fails0
end
theorem p_tick {z : Nat} {x : Mm} (h : Inv x) : ∃ v x2, F_X7_tick z 0 x = some v ∧ F_X8_tick z 0 x = some (v, x2) ∧ Inv x2 := by
  refine ⟨_, th x 0, rfl, ?_, Inv_th h⟩
  unfold F_X8_tick
  rw [sbind, th_w, ckI_t (by omega) (by omega), th_C (by decide), h.1.2.1.1]; rfl
theorem p_nodeCount {z : Nat} {x : Mm} (h : Inv x) : ∃ v x2, F_X7_nodeCount z 0 x = some v ∧ F_X8_nodeCount z 0 x = some (v, x2) ∧ Inv x2 := by
  refine ⟨_, th x 0, rfl, ?_, Inv_th h⟩
  unfold F_X8_nodeCount
  rw [sbind, th_w, ckI_t (by omega) (by omega), th_C (by decide), h.1.2.2.1.1]; rfl
theorem p_conflictCount {z : Nat} {x : Mm} (h : Inv x) : ∃ v x2, F_X7_conflictCount z 0 x = some v ∧ F_X8_conflictCount z 0 x = some (v, x2) ∧ Inv x2 := by
  refine ⟨_, th x 0, rfl, ?_, Inv_th h⟩
  unfold F_X8_conflictCount
  rw [sbind, th_w, ckI_t (by omega) (by omega), th_C (by decide), h.1.2.2.2.2.2.1]; rfl
theorem p_undoCount {z : Nat} {x : Mm} (h : Inv x) : ∃ v x2, F_X7_undoCount z 0 x = some v ∧ F_X8_undoCount z 0 x = some (v, x2) ∧ Inv x2 := by
  refine ⟨_, th x 0, rfl, ?_, Inv_th h⟩
  unfold F_X8_undoCount
  rw [sbind, th_w, th_k (by decide), h.2.2.2.1.1]
theorem p_setup {z : Nat} {x : Mm} (h : Inv x) (v : Int) : Pr [sA] (F_X7_setup z 0 v) (F_X8_setup z 0 v) x := by
  have hH := h.1.2.1
  have e8 : F_X8_setup z 0 v x = if 0 ≤ v ∧ v ≤ 1 then some ((if v = 0 then qfc (x.1 27 0) else qcc (x.1 27 0)), th x 0) else some (0, th x 1) := by
    unfold F_X8_setup
    rw [sbind, th_w, e_in, sbind]
    by_cases q : 0 ≤ v ∧ v ≤ 1
    · rw [e_failsT q, sbind, it0, if_pos q, ckI_t (by omega) (by omega), ckI_t (by omega) (by omega), th_C (by decide)]
      by_cases w : v = 0
      · rw [if_pos w, if_pos w]; rfl
      · rw [if_neg w, if_neg w]; rfl
    · rw [e_failsF q, sbind, it1, if_neg q, th_th]
  by_cases q0 : v = 0
  · rw [if_pos (by omega), if_pos q0] at e8
    refine Pr.get h ?_ e8 Ok.v
    unfold F_X7_setup; rw [if_pos q0, hH.2.1]
  · by_cases q1 : v = 1
    · rw [if_pos (by omega), if_neg q0] at e8
      refine Pr.get h ?_ e8 Ok.v
      unfold F_X7_setup; rw [if_neg q0, if_pos q1, hH.2.2.1]
    · rw [if_neg (by omega)] at e8
      refine Pr.get h (y := .inr sA) ?_ e8 (Ok.x rfl (by decide))
      unfold F_X7_setup; rw [if_neg q0, if_neg q1]
theorem p_rule {z : Nat} {x : Mm} (h : Inv x) (v : Int) : Pr [sI] (F_X7_rule z 0 v) (F_X8_rule z 0 v) x := by
  have hH := h.1.2.1
  have hb := h.1.1.1
  have hf := hb.2.1
  have E : F_X8_isField z 0 v (th x 0) = _ := e_isField z v (th x 0) (by rw [th_C (by decide)]; exact hb)
  rw [th_C (by decide)] at E
  by_cases q : 0 ≤ v ∧ v < qfc (x.1 27 0)
  · refine Pr.get h (y := .inl (qru (x.1 27 0) v)) ?_ (b := qru (x.1 27 0) v) (t := 0) ?_ Ok.v
    · unfold F_X7_rule
      rw [rqF_t q.1 (by rw [hH.2.1]; exact q.2), bndXl, ckI_t q.1 (by omega), hH.2.2.2 v q.1 q.2]
    · unfold F_X8_rule
      rw [sbind, th_w, E, sbind, e_failsT q, sbind, it0, ckR_t (by omega) (by omega), ckI_t (by omega) (by omega), th_C (by decide)]; rfl
  · refine Pr.get h (y := .inr sI) ?_ (b := 0) (t := 1) ?_ (Ok.x rfl (by decide))
    · unfold F_X7_rule
      rw [rqF_f (by rw [hH.2.1]; exact q), bndXr]
    · unfold F_X8_rule
      rw [sbind, th_w, E, sbind, e_failsF q, sbind, it1, th_th]
