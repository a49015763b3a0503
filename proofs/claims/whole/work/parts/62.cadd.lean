/-! The class's memory in a merge. -/
def mk (x : Mm) (b l : Nat) (al : Nat → BitVec 64) (vs a ps : Nat → Int) : Mm := pj (pj (pj (pl x 0 b al) 23 b vs) 1 l a) 24 l ps
section
variable {x : Mm} {b l : Nat} {al : Nat → BitVec 64} {vs a ps : Nat → Int}
theorem mk_al : (mk x b l al vs a ps).2 0 b = al := pl_s
theorem mk_vs : (mk x b l al vs a ps).1 23 b = vs := by
  unfold mk; rw [pj_C (by decide), pj_C (by decide), pj_s]
theorem mk_a : (mk x b l al vs a ps).1 1 l = a := by
  unfold mk; rw [pj_C (by decide), pj_s]
theorem mk_ps : (mk x b l al vs a ps).1 24 l = ps := pj_s
theorem mk_2C {C j : Nat} (h : C ≠ 0) : (mk x b l al vs a ps).2 C j = x.2 C j := pl_C h
theorem mk_2j {C j : Nat} (h : j ≠ b) : (mk x b l al vs a ps).2 C j = x.2 C j := pl_j h
theorem mk_1C {C j : Nat} (h1 : C ≠ 23) (h2 : C ≠ 1) (h3 : C ≠ 24) : (mk x b l al vs a ps).1 C j = x.1 C j := by
  unfold mk; rw [pj_C h3, pj_C h2, pj_C h1, pl_1]
theorem mk_1v {j : Nat} (h : j ≠ b) : (mk x b l al vs a ps).1 23 j = x.1 23 j := by
  unfold mk; rw [pj_C (by decide), pj_C (by decide), pj_j h, pl_1]
theorem mk_pal {al' : Nat → BitVec 64} : pl (mk x b l al vs a ps) 0 b al' = mk x b l al' vs a ps := by
  show pj (pj (pj (pl (pl x 0 b al) 0 b al') 23 b vs) 1 l a) 24 l ps = _
  rw [pl_pl]; rfl
theorem mk_pvs {vs' : Nat → Int} : pj (mk x b l al vs a ps) 23 b vs' = mk x b l al vs' a ps := by
  unfold mk; rw [pj_cm (C := 24) (C' := 23) (by omega), pj_cm (C := 1) (C' := 23) (by omega), pj_pj]
theorem mk_pa {a' : Nat → Int} : pj (mk x b l al vs a ps) 1 l a' = mk x b l al vs a' ps := by
  unfold mk; rw [pj_cm (C := 24) (C' := 1) (by omega), pj_pj]
theorem mk_pps {ps' : Nat → Int} : pj (mk x b l al vs a ps) 24 l ps' = mk x b l al vs a ps' := by
  unfold mk; rw [pj_pj]
theorem pl_id {C j : Nat} : pl x C j (x.2 C j) = x := by
  refine Prod.ext rfl (funext fun C' => funext fun j' => ?_)
  simp only [pl]; by_cases h : C' = C ∧ j' = j <;> simp [h]
theorem mk_id : x = mk x b l (x.2 0 b) (x.1 23 b) (x.1 1 l) (x.1 24 l) := by
  unfold mk; rw [pl_id, pj_id, pj_id, pj_id]
end
/-- the list of conflicts: within its bounds, and the model's where it is the real one -/
def KC (real : Prop) (a ps : Nat → Int) (r : Nat → Int) : Prop := 0 ≤ a 0 ∧ a 0 ≤ 40 ∧ (real → RC a ps r)
def cps (ps : Nat → Int) (k : Int) (e f g h i j : Int) : Nat → Int := up (up (up (up (up (up ps (k * 6 + 0).toNat e) (k * 6 + 1).toNat f) (k * 6 + 2).toNat g) (k * 6 + 3).toNat h) (k * 6 + 4).toNat i) (k * 6 + 5).toNat j
theorem k_add41 (z : Nat) {x : Mm} {b l : Nat} {al : Nat → BitVec 64} {vs a ps : Nat → Int} {e f g h i j : Int} (h0 : 0 ≤ a 0) (h1 : a 0 < 40) : F_X1_add_41 z l e f g h i j (mk x b l al vs a ps) = some (mk x b l al vs (up a 0 (a 0 + 1)) (cps ps (a 0) e f g h i j)) := by
  unfold F_X1_add_41
  simp (disch := omega) only [mk_a, wI_pj, mk_ps, mk_pps, mk_pa, ckR_t, ckI_t, sbind]
  rfl
theorem qkp_qad {r : Nat → Int} {e f g h i : Int} (k0 : 0 ≤ qkc r) (k1 : qkc r < 40) : (∀ n w : Int, 0 ≤ n → n < qkc r → 0 ≤ w → w < 6 → qkp (qad r e f g h i) n w = qkp r n w) ∧ qkp (qad r e f g h i) (qkc r) 0 = e ∧ qkp (qad r e f g h i) (qkc r) 1 = f ∧ qkp (qad r e f g h i) (qkc r) 2 = g ∧ qkp (qad r e f g h i) (qkc r) 3 = h ∧ qkp (qad r e f g h i) (qkc r) 4 = i ∧ qkp (qad r e f g h i) (qkc r) 5 = qtk r := by
  refine ⟨fun n w n0 n1 w0 w1 => ?_, ?_, ?_, ?_, ?_, ?_, ?_⟩ <;> unfold qkp qad <;> simp (disch := omega) only [up_i, up_s]
theorem RC_add {a ps r : Nat → Int} {e f g h i : Int} (hR : RC a ps r) (k0 : 0 ≤ qkc r) (k1 : qkc r < 40) : RC (up a 0 (a 0 + 1)) (cps ps (a 0) e f g h i (qtk r)) (qad r e f g h i) := by
  obtain ⟨q, q0, q1, q2, q3, q4, q5⟩ := qkp_qad (r := r) (e := e) (f := f) (g := g) (h := h) (i := i) k0 k1
  refine ⟨by rw [up_s, qkc_qad, hR.1], fun n w n0 n1 w0 w1 => ?_⟩
  rw [qkc_qad] at n1
  rw [hR.1]
  by_cases hn : n < qkc r
  · rw [q n w n0 hn w0 w1, ← hR.2 n w n0 hn w0 w1]
    unfold cps
    simp (disch := omega) only [up_i]
  · have : n = qkc r := by omega
    subst this
    rcases (by omega : w = 0 ∨ w = 1 ∨ w = 2 ∨ w = 3 ∨ w = 4 ∨ w = 5) with rfl | rfl | rfl | rfl | rfl | rfl
    · rw [q0]; unfold cps; simp (disch := omega) only [up_i, up_s]
    · rw [q1]; unfold cps; simp (disch := omega) only [up_i, up_s]
    · rw [q2]; unfold cps; simp (disch := omega) only [up_i, up_s]
    · rw [q3]; unfold cps; simp (disch := omega) only [up_i, up_s]
    · rw [q4]; unfold cps; simp (disch := omega) only [up_i, up_s]
    · rw [q5]; unfold cps; simp (disch := omega) only [up_i, up_s]
theorem qkp_qdr {r : Nat → Int} {d n w : Int} (d0 : 0 ≤ d) (n0 : 0 ≤ n) (n1 : n < qkc r - 1) (w0 : 0 ≤ w) (w1 : w < 6) : qkp (qdr r d) n w = if n < d then qkp r n w else qkp r (n + 1) w := by
  unfold qkp qdr qdi
  rw [if_neg (by omega)]
  by_cases h : n < d
  · rw [if_pos h, if_neg (by omega)]
  · rw [if_neg h, if_pos (by omega)]
    congr 1; omega
/-- the class's drop of a conflict: the list -/
def cdr (ps : Nat → Int) (d m : Int) : Nat → Int := cpy ps ((d + 1) * 6).toNat ps (d * 6).toNat ((m - d - 1) * 6).toNat
theorem RC_drop {a ps r : Nat → Int} {d : Int} (hR : RC a ps r) (d0 : 0 ≤ d) (d1 : d < qkc r) : RC (up a 0 (a 0 - 1)) (cdr ps d (qkc r)) (qdr r d) := by
  refine ⟨by rw [up_s, qkc_qdr, hR.1], fun n w n0 n1 w0 w1 => ?_⟩
  rw [qkc_qdr] at n1
  rw [qkp_qdr d0 n0 n1 w0 w1]
  unfold cdr
  by_cases h : n < d
  · rw [if_pos h, cpy_o (by omega) (by omega) (by omega)]; exact hR.2 n w n0 (by omega) w0 w1
  · rw [if_neg h, cpy_i (by omega) (by omega) (by omega) (by omega)]
    have := hR.2 (n + 1) w (by omega) (by omega) w0 w1
    rw [← this]; congr 1; omega
theorem qtk_qdr {r : Nat → Int} {d : Int} (d0 : 0 ≤ d) : qtk (qdr r d) = qtk r := by
  show qdr r d (0 : Int).toNat = _
  unfold qdr qdi; rw [if_neg (by omega), if_neg (by omega)]; rfl
theorem k_add (z : Nat) {x : Mm} {b l : Nat} {al : Nat → BitVec 64} {vs a ps : Nat → Int} {real : Prop} {r : Nat → Int} {e f g h i j : Int} (hb : Wb r) (hK : KC real a ps r) (hj : j = qtk r) : Tt (F_X1_add z l e f g h i j (mk x b l al vs a ps)) (fun y => ∃ a' ps', y = mk x b l al vs a' ps' ∧ KC real a' ps' (qob r e f g h i)) := by
  obtain ⟨h0, h1, hR⟩ := hK
  have hk := hb.2.2.2.2
  unfold F_X1_add
  rw [mk_a]
  by_cases q : a 0 < 40
  · rw [if_pos q, k_add41 z h0 q]
    refine Tt.ret ⟨_, _, rfl, by rw [up_s]; omega, by rw [up_s]; omega, fun w => ?_⟩
    have hR' := hR w
    unfold qob
    rw [if_neg (by rw [← hR'.1]; omega), hj]
    exact RC_add hR' (by omega) (by rw [← hR'.1]; exact q)
  · have ha : a 0 = 40 := by omega
    rw [if_neg q, ckC_t (by omega) (by omega) (by omega) (by omega) (by omega), sbind, wC_pj, mk_ps, mk_pps, mk_a, ckR_t (by omega) (by omega), sbind, wI_pj, mk_a, mk_pa, k_add41 z (by rw [up_s]; omega) (by rw [up_s]; omega)]
    refine Tt.ret ⟨_, _, rfl, by rw [up_s, up_s]; omega, by rw [up_s, up_s]; omega, fun w => ?_⟩
    have hR' := hR w
    have e40 : qkc r = 40 := by rw [← hR'.1]; exact ha
    unfold qob
    rw [if_pos e40, hj, ← qtk_qdr (r := r) (d := 0) (by omega)]
    have hd := RC_drop hR' (d := 0) (by omega) (by omega)
    have e : cdr ps 0 (qkc r) = cpy ps (6 : Int).toNat ps (0 : Int).toNat ((240 : Int) - 6).toNat := by
      unfold cdr; rw [e40]; rfl
    rw [e] at hd
    exact RC_add hd (by rw [qkc_qdr]; omega) (by rw [qkc_qdr]; omega)
