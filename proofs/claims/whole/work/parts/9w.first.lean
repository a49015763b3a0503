/-! The first State, and what holds before the first call. -/
def mv (C j : Nat) : Nat := if C = 0 ∨ C = 23 then (if j = 30 then 0 else j - 150) else if C = 3 then j - 50 else j - 10
/-- State 0's places, read as State 10's -/
def mvm (y : Mm) : Mm := (fun C j => y.1 C (mv C j), fun C j => y.2 C (mv C j))
theorem mv3 {k : Nat} : mv 3 (5 * 10 + k) = 5 * 0 + k := by
  show 5 * 10 + k - 50 = _; omega
theorem mv01 {C k : Nat} (hC : C = 0 ∨ C = 23) : mv C (3 * (5 * 10 + k) + 1) = 3 * (5 * 0 + k) + 1 := by
  unfold mv; rw [if_pos hC, if_neg (by omega)]; omega
theorem mv02 {C k : Nat} (hC : C = 0 ∨ C = 23) : mv C (3 * (5 * 10 + k) + 2) = 3 * (5 * 0 + k) + 2 := by
  unfold mv; rw [if_pos hC, if_neg (by omega)]; omega
section
variable {y : Mm} {r : Nat → Int}
theorem E0_mv (h : E0 y 0) : E0 (mvm y) 10 := by
  obtain ⟨a, b, c, d, e⟩ := h
  refine ⟨a, b, c, fun k k0 k1 => ?_, e⟩
  show y.1 3 (mv 3 (5 * 10 + k.toNat)) 0 = 0
  rw [mv3]; exact d k k0 k1
theorem Rs_mv (h : Rs (mvm y) 10 r) : Rs y 0 r := by
  obtain ⟨h1, h2, h3, h4, h5, h6⟩ := h
  refine ⟨h1, h2, h3, h4, fun c c0 c1 => ?_, h6⟩
  have q := h5 c c0 c1
  have e3 : (mvm y).1 3 (5 * 10 + c.toNat) = y.1 3 (5 * 0 + c.toNat) := congrArg (y.1 3) mv3
  have l3 : (mvm y).2 3 (5 * 10 + c.toNat) = y.2 3 (5 * 0 + c.toNat) := congrArg (y.2 3) mv3
  have e1 : (mvm y).2 0 (3 * (5 * 10 + c.toNat) + 1) = y.2 0 (3 * (5 * 0 + c.toNat) + 1) := congrArg (y.2 0) (mv01 (by omega))
  have e2 : (mvm y).2 0 (3 * (5 * 10 + c.toNat) + 2) = y.2 0 (3 * (5 * 0 + c.toNat) + 2) := congrArg (y.2 0) (mv02 (by omega))
  have f1 : (mvm y).1 23 (3 * (5 * 10 + c.toNat) + 1) = y.1 23 (3 * (5 * 0 + c.toNat) + 1) := congrArg (y.1 23) (mv01 (by omega))
  have f2 : (mvm y).1 23 (3 * (5 * 10 + c.toNat) + 2) = y.1 23 (3 * (5 * 0 + c.toNat) + 2) := congrArg (y.1 23) (mv02 (by omega))
  unfold RLs at q ⊢
  rw [e3, l3, e1, e2, f1, f2] at q
  exact q
end
abbrev x0m : Mm := (fun _ _ _ => 0, fun _ _ _ => 0#64)
theorem first_inv : ∃ y y1 y2, F_X6_reset 50000 0 x0m = some y ∧ F_X8_forgetRead 50000 0 y = some y1 ∧ F_X8_takeRead 50000 0 y1 = some y2 ∧ Inv y2 := by
  obtain ⟨y, ey, hE, hF⟩ := k_reset (z := 50000) (X := x0m) (by decide) (j := 0)
  obtain ⟨V, eV, g, rfl, hg⟩ := e_forgetRead (z := 50000) (W := y) (by decide)
  have zo : ∀ C j, own C j ≠ 0 → y.1 C j = fun _ => 0 := fun C j q => (hF C j q).1
  have hD : DR (mvm y) (cp5 g (y.1 27 0)) := ((E0_mv hE).DR hg).same (fun i i0 i1 => by unfold cp5; rw [if_pos (by omega)])
  have hR : Rs y 0 (cp5 g (y.1 27 0)) := Rs_mv hD.Rs
  have e8 : F_X8_takeRead 50000 0 (pj y 27 1 g) = some (pj (pj (pj y 27 1 g) 27 0 (cp5 g (y.1 27 0))) 8 0 (up (up (y.1 8 0) 12 0) 13 0)) := by
    have ec := e_copy (z := 50000) (x := pj y 27 1 g) (by decide) (show (1 : Nat) ≠ 0 by decide)
    rw [pj_s, pj_j (by decide)] at ec
    unfold F_X8_takeRead
    rw [ec, sbind, sbind, sbind]
    simp only [wI_pj, pj_s, pj_pj, pj_C (show (8 : Nat) ≠ 27 by decide)]
  have hFV : Fo (fun o => o = 108 ∨ o = 127) y (pj (pj (pj y 27 1 g) 27 0 (cp5 g (y.1 27 0))) 8 0 (up (up (y.1 8 0) 12 0) 13 0)) :=
    Fg.pj (Fg.pj (Fg.pj Fg.rf (Or.inr (own_8 (by omega)))) (Or.inr (own_8 (by omega)))) (Or.inl (own_8 (by omega)))
  have g8 : ∀ k, y.1 8 0 k = 0 := fun k => congrFun (zo 8 0 (by rw [own_8 (by omega)]; omega)) k
  have g27 : ∀ j k, y.1 27 j k = 0 := fun j k => congrFun (zo 27 j (by rw [own_8 (by omega)]; omega)) k
  have gC : ∀ C j, C ≠ 8 → C ≠ 27 → (pj (pj (pj y 27 1 g) 27 0 (cp5 g (y.1 27 0))) 8 0 (up (up (y.1 8 0) 12 0) 13 0)).1 C j = y.1 C j := fun C j q1 q2 => by
    rw [pj_C q1, pj_C q2, pj_C q2]
  have r27 : (pj (pj (pj y 27 1 g) 27 0 (cp5 g (y.1 27 0))) 8 0 (up (up (y.1 8 0) 12 0) 13 0)).1 27 0 = cp5 g (y.1 27 0) := by rw [pj_C (by decide), pj_s]
  have r2 : (pj (pj (pj y 27 1 g) 27 0 (cp5 g (y.1 27 0))) 8 0 (up (up (y.1 8 0) 12 0) 13 0)).1 27 2 = y.1 27 2 := by rw [pj_C (by decide), pj_j (by decide), pj_j (by decide)]
  have r8 : (pj (pj (pj y 27 1 g) 27 0 (cp5 g (y.1 27 0))) 8 0 (up (up (y.1 8 0) 12 0) 13 0)).1 8 0 = up (up (y.1 8 0) 12 0) 13 0 := pj_s
  have u12 : up (up (y.1 8 0) 12 0) 13 0 12 = 0 := by rw [up_n (by decide), up_s]
  have u13 : up (up (y.1 8 0) 12 0) 13 0 13 = 0 := up_s
  have u2 : up (up (y.1 8 0) 12 0) 13 0 2 = 0 := by rw [up_n (by decide), up_n (by decide)]; exact g8 2
  have z7 : y.1 7 0 2 = 0 := congrFun (zo 7 0 (by rw [own_8 (by omega)]; omega)) 2
  have z5 : y.1 5 0 0 = 0 := congrFun (zo 5 0 (by rw [own_8 (by omega)]; omega)) 0
  have z20 : y.1 2 0 0 = 0 := congrFun (zo 2 0 (by rw [own_8 (by omega)]; omega)) 0
  have z21 : y.1 2 0 1 = 0 := congrFun (zo 2 0 (by rw [own_8 (by omega)]; omega)) 1
  have z1 : y.1 1 11 0 = 0 := congrFun (zo 1 11 (by decide)) 0
  refine ⟨y, _, _, ey, eV, e8, ?_, ?_, ?_, ?_, ?_, ?_⟩
  · rw [r27]; exact Rs_fr hR hFV (by omega)
  · rw [r27]; intro k hk
    unfold cp5
    rw [if_neg (by omega)]; exact g27 0 k
  · unfold SV
    rw [gC 7 0 (by decide) (by decide), r8, r2, u13, z7]
    exact ⟨rfl, Or.inl rfl, fun w => by omega, fun k _ => g27 2 k⟩
  · unfold HI
    rw [gC 2 0 (by decide) (by decide), r8, u12, z20, z21]
    exact ⟨rfl, by omega, by omega, fun i i0 i1 => by omega⟩
  · unfold TX
    rw [gC 5 0 (by decide) (by decide), r8, u2, z5]
    exact ⟨rfl, by omega, fun k k0 k1 => by omega⟩
  · rw [gC 1 11 (by decide) (by decide), z1]; omega
