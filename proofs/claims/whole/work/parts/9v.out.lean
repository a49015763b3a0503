/-! The law's own place for an answer is no part of the invariant. -/
section
variable {x : Mm}
theorem Inv_out {k : Nat} {v : BitVec 64} (h : Inv x) : Inv (wL x 31 0 k v) := by
  rw [wL_pl]
  have hF : Fo (fun o => o = 131) x (pl x 31 0 (up (x.2 31 0) k v)) := Fg.pl Fg.rf (own_8 (by omega))
  obtain ⟨a1, a2, a3, a4, a5, a6⟩ := h
  exact ⟨Rs_fr a1 hF (by omega), a2, ⟨a3.1, a3.2.1, fun q => Rs_fr (a3.2.2.1 q) hF (by omega), a3.2.2.2⟩, HI_fr a4 hF (fun o _ _ => by omega) (by omega), a5, a6⟩
end
