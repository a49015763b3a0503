/-! Copies of a State; frames. -/
def Fg (P : Nat → Nat → Prop) (x y : Mm) : Prop := ∀ C j : Nat, ¬ P C j → y.1 C j = x.1 C j ∧ y.2 C j = x.2 C j
theorem Fg.rf {P : Nat → Nat → Prop} {x : Mm} : Fg P x x := fun _ _ _ => ⟨rfl, rfl⟩
theorem Fg.tr {P : Nat → Nat → Prop} {x y w : Mm} (a : Fg P x y) (b : Fg P y w) : Fg P x w := fun C j h => ⟨(b C j h).1.trans (a C j h).1, (b C j h).2.trans (a C j h).2⟩
theorem Fg.mono {P Q : Nat → Nat → Prop} {x y : Mm} (a : Fg P x y) (h : ∀ C j, P C j → Q C j) : Fg Q x y := fun C j q => a C j (fun w => q (h C j w))
theorem Fg.pj {P : Nat → Nat → Prop} {x y : Mm} {C j : Nat} {f : Nat → Int} (a : Fg P x y) (h : P C j) : Fg P x (pj y C j f) := fun C' j' q => by
  have hn : ¬ (C' = C ∧ j' = j) := fun w => q (by rw [w.1, w.2]; exact h)
  refine ⟨?_, (a C' j' q).2⟩
  rw [← (a C' j' q).1]; exact if_neg hn
theorem Fg.pl {P : Nat → Nat → Prop} {x y : Mm} {C j : Nat} {f : Nat → BitVec 64} (a : Fg P x y) (h : P C j) : Fg P x (pl y C j f) := fun C' j' q => by
  have hn : ¬ (C' = C ∧ j' = j) := fun w => q (by rw [w.1, w.2]; exact h)
  refine ⟨(a C' j' q).1, ?_⟩
  rw [← (a C' j' q).2]; exact if_neg hn
theorem Fg.mk {P : Nat → Nat → Prop} {x : Mm} {b l : Nat} {al : Nat → BitVec 64} {vs a ps : Nat → Int} (h0 : P 0 b) (h1 : P 23 b) (h2 : P 1 l) (h3 : P 24 l) : Fg P x (mk x b l al vs a ps) := (((Fg.rf.pl h0).pj h1).pj h2).pj h3
theorem cpy0 {α : Type} {s d : Nat → α} {n i : Int} (h2 : 0 ≤ i) (h3 : i < n) : cpy s (0 : Int).toNat d (0 : Int).toNat n.toNat i.toNat = s i.toNat := by
  rw [cpy_i (by omega) (by omega) (by omega) (by omega), show (0 : Int) + (i - 0) = i by omega]
theorem RH_fr {x y : Mm} {j : Nat} {r : Nat → Int} (h : RH x j r) (e6 : y.1 6 j = x.1 6 j) (e20 : y.1 20 j = x.1 20 j) : RH y j r := by
  unfold RH; rw [e6, e20]; exact h
theorem RN_fr {x y : Mm} {j : Nat} {r : Nat → Int} (h : RN x j r) (e4 : y.1 4 j = x.1 4 j) (e4' : y.2 4 j = x.2 4 j) (e21 : y.1 21 j = x.1 21 j) (e22 : y.1 22 j = x.1 22 j) (e30 : y.2 30 j = x.2 30 j) : RN y j r := by
  unfold RN; rw [e4, e4', e21, e22, e30]; exact h
theorem RL_fr {x y : Mm} {q : Nat} {c : Int} {r : Nat → Int} (h : RLs x q c r) (e3 : y.1 3 q = x.1 3 q) (e3' : y.2 3 q = x.2 3 q) (e1 : y.2 0 (3 * q + 1) = x.2 0 (3 * q + 1)) (e2 : y.2 0 (3 * q + 2) = x.2 0 (3 * q + 2)) (v1 : y.1 23 (3 * q + 1) = x.1 23 (3 * q + 1)) (v2 : y.1 23 (3 * q + 2) = x.1 23 (3 * q + 2)) : RLs y q c r := by
  unfold RLs; rw [e3, e3', e1, e2, v1, v2]; exact h
/-- a State of the class and a row -/
def Rs (x : Mm) (j : Nat) (r : Nat → Int) : Prop := Wq r ∧ RH x j r ∧ RN x j r ∧ RB (x.2 0 (3 * j)) (x.1 23 (3 * j)) r ∧ (∀ c : Int, 0 ≤ c → c < 5 → RLs x (5 * j + c.toNat) c r) ∧ RC (x.1 1 j) (x.1 24 j) r
/-- whose a place is -/
def own (C j : Nat) : Nat := if C = 6 ∨ C = 20 ∨ C = 4 ∨ C = 21 ∨ C = 22 ∨ C = 30 ∨ C = 1 ∨ C = 24 then j else if C = 0 ∨ C = 23 then (if j % 3 = 0 then j / 3 else j / 3 / 5) else if C = 3 then j / 5 else 100 + C
theorem own_t {C j : Nat} (h : C = 0 ∨ C = 23) : own C (3 * j) = j := by
  unfold own; rw [if_neg (by omega), if_pos h, if_pos (by omega)]; omega
theorem own_b {C j c : Nat} (h : C = 0 ∨ C = 23) (hc : c < 5) : own C (3 * (5 * j + c) + 1) = j ∧ own C (3 * (5 * j + c) + 2) = j := by
  unfold own; rw [if_neg (by omega), if_pos h, if_neg (by omega), if_neg (by omega), if_pos h, if_neg (by omega)]; omega
theorem own_l {j c : Nat} (hc : c < 5) : own 3 (5 * j + c) = j := by
  unfold own; rw [if_neg (by omega), if_neg (by omega), if_pos rfl]; omega
theorem own_s {C j : Nat} (h : C = 6 ∨ C = 20 ∨ C = 4 ∨ C = 21 ∨ C = 22 ∨ C = 30 ∨ C = 1 ∨ C = 24) : own C j = j := if_pos h
theorem own_o {C j : Nat} (h : ¬ (C = 6 ∨ C = 20 ∨ C = 4 ∨ C = 21 ∨ C = 22 ∨ C = 30 ∨ C = 1 ∨ C = 24)) (h2 : ¬ (C = 0 ∨ C = 23)) (h3 : C ≠ 3) : own C j = 100 + C := by
  unfold own; rw [if_neg h, if_neg h2, if_neg h3]
def Fo (p : Nat → Prop) (x y : Mm) : Prop := Fg (fun C j => p (own C j)) x y
theorem Rs_fr {x y : Mm} {j : Nat} {r : Nat → Int} {p : Nat → Prop} (h : Rs x j r) (hF : Fo p x y) (hp : ¬ p j) : Rs y j r := by
  obtain ⟨hW, hH, hN, hB, hL, hC⟩ := h
  have s : ∀ C, (C = 6 ∨ C = 20 ∨ C = 4 ∨ C = 21 ∨ C = 22 ∨ C = 30 ∨ C = 1 ∨ C = 24) → y.1 C j = x.1 C j ∧ y.2 C j = x.2 C j := fun C h => hF C j (by show ¬ p (own C j); rw [own_s h]; exact hp)
  have t : ∀ C, (C = 0 ∨ C = 23) → y.1 C (3 * j) = x.1 C (3 * j) ∧ y.2 C (3 * j) = x.2 C (3 * j) := fun C h => hF C (3 * j) (by show ¬ p (own C (3 * j)); rw [own_t h]; exact hp)
  refine ⟨hW, RH_fr hH (s 6 (by omega)).1 (s 20 (by omega)).1, RN_fr hN (s 4 (by omega)).1 (s 4 (by omega)).2 (s 21 (by omega)).1 (s 22 (by omega)).1 (s 30 (by omega)).2, by rw [(t 0 (by omega)).2, (t 23 (by omega)).1]; exact hB, fun c c0 c1 => ?_, by rw [(s 1 (by omega)).1, (s 24 (by omega)).1]; exact hC⟩
  have u : ∀ C, (C = 0 ∨ C = 23) → (y.1 C (3 * (5 * j + c.toNat) + 1) = x.1 C (3 * (5 * j + c.toNat) + 1) ∧ y.2 C (3 * (5 * j + c.toNat) + 1) = x.2 C (3 * (5 * j + c.toNat) + 1)) ∧ (y.1 C (3 * (5 * j + c.toNat) + 2) = x.1 C (3 * (5 * j + c.toNat) + 2) ∧ y.2 C (3 * (5 * j + c.toNat) + 2) = x.2 C (3 * (5 * j + c.toNat) + 2)) := fun C h => ⟨hF C _ (by show ¬ p (own C _); rw [(own_b h (by omega)).1]; exact hp), hF C _ (by show ¬ p (own C _); rw [(own_b h (by omega)).2]; exact hp)⟩
  have w := hF 3 (5 * j + c.toNat) (by show ¬ p (own 3 _); rw [own_l (by omega)]; exact hp)
  exact RL_fr (hL c c0 c1) w.1 w.2 (u 0 (by omega)).1.2 (u 0 (by omega)).2.2 (u 23 (by omega)).1.1 (u 23 (by omega)).2.1
section
variable {z : Nat} {x : Mm} {v0 v1 : Nat} {r : Nat → Int}
theorem k_copyN (hne : v0 ≠ v1) (hb : Wb r) (h : RN x v1 r) : Tt (F_X4_copyFrom z v0 v1 x) (fun y => RN y v0 r ∧ Fg (fun C j => (C = 4 ∨ C = 21 ∨ C = 22 ∨ C = 30) ∧ j = v0) x y) := by
  have h60 := hb.2.2.2.1
  unfold F_X4_copyFrom
  have cC : ∀ {α : Type} {A : Option α}, ckC 0 0 60 60 A = A := fun {α} {A} => ckC_t (by omega) (by omega) (by omega) (by omega) (by omega)
  rw [sbind, sbind, cC, sbind, cC, sbind, cC, sbind, wI_pj, wL_pl, wC_pj, wC_pj, wCL_pl]
  have hne' : v1 ≠ v0 := fun w => hne w.symm
  simp only [pj_2, pl_1, pj_s, pl_s, pj_C (show (21 : Nat) ≠ 4 by decide), pj_C (show (22 : Nat) ≠ 21 by decide), pj_C (show (22 : Nat) ≠ 4 by decide), pl_C (show (30 : Nat) ≠ 4 by decide), pj_j hne', pl_j hne']
  refine Tt.ret ⟨?_, ?_⟩
  · obtain ⟨h1, h2, h3⟩ := h
    refine ⟨?_, ?_, ?_⟩
    · simp only [pl_1, pj_C (show (4 : Nat) ≠ 21 by decide), pj_C (show (4 : Nat) ≠ 22 by decide), pj_s, up_s]; exact h1
    · intro n n0 n1
      obtain ⟨q1, q2, q3⟩ := h2 n n0 n1
      refine ⟨?_, ?_, ?_⟩
      · simp only [pl_1, pj_C (show (21 : Nat) ≠ 22 by decide), pj_s]
        rw [cpy0 n0 (by omega)]; exact q1
      · simp only [pl_1, pj_s]
        rw [cpy0 n0 (by omega)]; exact q2
      · intro m m0 m1
        rw [← q3 m m0 m1]
        simp only [pl_s]
        rw [cpy0 n0 (by omega)]
    · intro n n0 n1
      simp only [pl_C (show (4 : Nat) ≠ 30 by decide), pj_2, pl_s, up_s]
      exact h3 n n0 n1
  · exact ((((Fg.rf.pj ⟨by omega, rfl⟩).pl ⟨by omega, rfl⟩).pj ⟨by omega, rfl⟩).pj ⟨by omega, rfl⟩).pl ⟨by omega, rfl⟩
theorem k_copyC (hne : v0 ≠ v1) (hb : Wb r) (h : RC (x.1 1 v1) (x.1 24 v1) r) : Tt (F_X1_copyFrom z v0 v1 x) (fun y => RC (y.1 1 v0) (y.1 24 v0) r ∧ Fg (fun C j => (C = 1 ∨ C = 24) ∧ j = v0) x y) := by
  have hk := hb.2.2.2.2
  unfold F_X1_copyFrom
  rw [sbind, ckC_t (by omega) (by omega) (by omega) (by omega) (by omega), sbind, wI_pj, wC_pj]
  refine Tt.ret ⟨?_, (Fg.rf.pj ⟨by omega, rfl⟩).pj ⟨by omega, rfl⟩⟩
  rw [pj_s, pj_C (by decide), pj_s, pj_C (by decide)]
  refine ⟨by rw [up_s]; exact h.1, fun i w i0 i1 w0 w1 => ?_⟩
  rw [cpy0 (by omega) (by omega)]; exact h.2 i w i0 i1 w0 w1
theorem k_copyL {p q : Nat} {c : Int} (hne : p ≠ q) (hx : qhl r c = true → qlx r c = 0 ∨ qlx r c = 1) (h : RLs x q c r) : Tt (F_X3_copyFrom z p q x) (fun y => RLs y p c r ∧ Fg (fun C j => (C = 3 ∧ j = p) ∨ ((C = 0 ∨ C = 23) ∧ (j = 3 * p + 1 ∨ j = 3 * p + 2))) x y) := by
  obtain ⟨h1, h2⟩ := h
  have hne' : q ≠ p := fun w => hne w.symm
  unfold F_X3_copyFrom
  rw [ckZ_t (by rw [h1]; have := b2i_le (qhl r c); omega), sbind, wI_pj, pj_s, up_s, h1, ib]
  by_cases hl : qhl r c = false
  · rw [if_pos hl]
    refine Tt.ret ⟨⟨by rw [pj_s, up_s], fun w => by rw [hl] at w; cases w⟩, Fg.rf.pj (Or.inl ⟨rfl, rfl⟩)⟩
  · rw [if_neg hl]
    have hl' : qhl r c = true := by simpa using hl
    obtain ⟨⟨a1, a2, a3⟩, hlr, hlv⟩ := h2 hl'
    rw [sbind, sbind]
    simp only [wI_pj, pj_s, pj_pj, pj_j hne']
    rw [ckZ_t (by rw [a3]; exact hx hl'), sbind, sbind]
    simp only [wI_pj, pj_s, pj_pj, pj_j hne', wL_pl, pl_1, pj_2, k_copyB, sbind]
    refine Tt.ret ⟨⟨?_, fun _ => ⟨⟨?_, ?_, ?_⟩, fun n n0 n1 => ?_, fun n f n0 n1 f0 f1 => ?_⟩⟩, ?_⟩
    · simp only [pl_1, pj_C (show (3 : Nat) ≠ 23 by decide), pj_s]
      rw [up_n (by decide), up_n (by decide), up_n (by decide), up_s]
    · simp only [pl_1, pj_C (show (3 : Nat) ≠ 23 by decide), pj_s]
      rw [up_n (by decide), up_n (by decide), up_s, a1]
    · simp only [pl_1, pj_C (show (3 : Nat) ≠ 23 by decide), pj_s]
      rw [up_n (by decide), up_s, a2]
    · simp only [pl_1, pj_C (show (3 : Nat) ≠ 23 by decide), pj_s]
      rw [up_s, a3]
    · obtain ⟨b1, b2, b3⟩ := hlr n n0 n1
      refine ⟨?_, ?_, ?_⟩
      · simp only [pj_2, pl_C (show (3 : Nat) ≠ 0 by decide), pl_s]
        rw [up_s]; exact b1
      · simp only [pj_2, pl_j (show 3 * p + 1 ≠ 3 * p + 2 by omega), pl_s, up_s, pl_C (show (0 : Nat) ≠ 3 by decide), pl_j (show 3 * q + 1 ≠ 3 * p + 1 by omega)]
        exact b2
      · simp only [pj_2, pl_s, up_s, pl_C (show (0 : Nat) ≠ 3 by decide), pl_j (show 3 * q + 2 ≠ 3 * p + 1 by omega)]
        exact b3
    · obtain ⟨w1, w2⟩ := hlv n f n0 n1 f0 f1
      refine ⟨fun hq => ?_, fun hq => ?_⟩
      · simp only [pl_1, pj_j (show 3 * p + 1 ≠ 3 * p + 2 by omega), pj_s, pj_C (show (23 : Nat) ≠ 3 by decide)]
        rw [cpy0 (by omega) (by omega)]; exact w1 hq
      · simp only [pl_1, pj_s, pj_C (show (23 : Nat) ≠ 3 by decide), pj_j (show 3 * q + 2 ≠ 3 * p + 1 by omega)]
        rw [cpy0 (by omega) (by omega)]; exact w2 hq
    · exact (((((Fg.rf.pj (Or.inl ⟨rfl, rfl⟩)).pl (Or.inl ⟨rfl, rfl⟩)).pl (Or.inr ⟨Or.inl rfl, Or.inl rfl⟩)).pj (Or.inr ⟨Or.inr rfl, Or.inl rfl⟩)).pl (Or.inr ⟨Or.inl rfl, Or.inr rfl⟩)).pj (Or.inr ⟨Or.inr rfl, Or.inr rfl⟩)
end
