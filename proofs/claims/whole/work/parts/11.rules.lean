theorem W_mono {p : Program} {l : Launch} {e : Env} {R : Room} {s : State} {m : MethodId} {args : Array Value} {below : List Frame} {meth : Method} {c : Code} {H : Heap} {locs : List Loc} {cells slots : Nat} {Q1 Q2 : State → Prop} {g : JFrame} (hq : ∀ t, Q1 t → Q2 t) (k : W p l e R s m args below meth c H locs cells slots Q1 g) : W p l e R s m args below meth c H locs cells slots Q2 g := fun T hT X => by
  obtain ⟨t, a, b⟩ := k T hT X
  exact ⟨t, a, hq t b⟩
theorem PoQ.ext {Θ : GC} {ρ ρ1 : Rn} {h h1 : Hp} {Q : Ro → Hp → Prop} (e : Ext ρ ρ1 h h1) {a : Array Value} {st t : State} {o : Outcome} (k : PoQ Θ ρ1 h1 Q a st o t) : PoQ Θ ρ h Q a st o t := by
  obtain ⟨r, h', ρ', k1, k2, k3, k4⟩ := k
  exact ⟨r, h', ρ', k1, k2, e.trans k3, k4⟩
theorem PoX.ext {Θ : GC} {ρ ρ1 : Rn} {h h1 : Hp} {Q : Ro → Hp → Prop} (e : Ext ρ ρ1 h h1) {E : String} {st t : State} (k : PoX Θ ρ1 h1 Q E st t) : PoX Θ ρ h Q E st t := by
  obtain ⟨h', ρ', k2, k3, k4⟩ := k
  exact ⟨h', ρ', k2, e.trans k3, k4⟩
theorem vx_Q_mono {Qc Qd : Array Value → State → Outcome → State → Prop} {XC XD : String → State → State → Prop} {mc ms : Nat} {free : Addr → Prop} {a : Array Value} {s t : State} {o : Outcome} (hq : Qc a s o t → Qd a s o t) (hx : ∀ E, XC E s t → XD E s t) (k : vx_Q Qc XC mc ms free a s o t) : vx_Q Qd XD mc ms free a s o t := by
  rcases k with ⟨k1, k2⟩ | ⟨q, k1, E, ce, L, k2, k3⟩
  · exact Or.inl ⟨hq k1, k2⟩
  · exact Or.inr ⟨q, k1, E, ce, L, hx E k2, k3⟩
theorem vx_MQ_mono {below : List Frame} {Qc Qd : Array Value → State → Outcome → State → Prop} {XC XD : String → State → State → Prop} {mc ms : Nat} {free : Addr → Prop} {a : Array Value} {s t : State} (hq : ∀ o, Qc a s o t → Qd a s o t) (hx : ∀ E, XC E s t → XD E s t) (k : vx_MQ below Qc XC a s mc ms free t) : vx_MQ below Qd XD a s mc ms free t := by
  obtain ⟨o, k1, k2, k3⟩ := k
  exact ⟨o, k1, k2, vx_Q_mono (hq o) hx k3⟩
section
variable {Θ : GC} {M : MD} {fr lc mc ms pc pc' : Nat} {ls : List (Nat × Vv)} {st : List Vv} {h : Hp} {Q : Ro → Hp → Prop}
theorem Ev.fin {p : Program} {l : Launch} {e : Env} {R : Room} {s : State} {m : MethodId} {args : Array Value} {below : List Frame} {meth : Method} {c : Code} {H : Heap} {locs : List Loc} {cells slots k n : Nat} {ρ ρ1 : Rn} {h1 : Hp} {g : JFrame} {free : Addr → Prop} (x : Ext ρ ρ1 h h1) (kk : W p l e R s m args below meth c H locs cells slots (vx_MQ below (PoQ Θ ρ1 h1 Q) (PoX Θ ρ1 h1 Q) args s k n free) g) : W p l e R s m args below meth c H locs cells slots (vx_MQ below (PoQ Θ ρ h Q) (PoX Θ ρ h Q) args s k n free) g :=
  W_mono (fun t z => vx_MQ_mono (fun o y => PoQ.ext x y) (fun E y => PoX.ext x y) z) kk
/-- an instruction at its place: the next place named -/
abbrev Dq (cc : ByteArray) (pc : Nat) (i : Instr) (n pc' : Nat) : Prop := decode cc pc = .ok (i, n) ∧ pc + n = pc'
abbrev Dj (cc : ByteArray) (pc : Nat) (i : Instr) (off : Int) (n pc' tg : Nat) : Prop := decode cc pc = .ok (i, n) ∧ pc + n = pc' ∧ (pc : Int) + off = (tg : Int)
def w32 (x : Int) : Int := x.bmod 4294967296
theorem w32_id {x : Int} (hx : inR x) : w32 x = x := by
  unfold w32; unfold inR at hx
  exact Int.bmod_eq_of_le (by omega) (by omega)
theorem i32 {x : Int} (hx : inR x) : (Int32.ofInt x).toInt = x := by
  rw [Int32.toInt_ofInt]; exact w32_id hx
theorem inR_toInt (x : Int32) : inR x.toInt := ⟨by have := Int32.le_toInt x; simpa using this, by have := Int32.toInt_lt x; omega⟩
theorem ofi (x : Int32) : Int32.ofInt x.toInt = x := Int32.ofInt_toInt x
theorem i32_inj {x y : Int} (hx : inR x) (hy : inR y) : Int32.ofInt x = Int32.ofInt y ↔ x = y := ⟨fun q => by rw [← i32 hx, ← i32 hy, q], fun q => by rw [q]⟩
theorem i32_le {x y : Int} (hx : inR x) (hy : inR y) : Int32.ofInt x ≤ Int32.ofInt y ↔ x ≤ y := by rw [Int32.le_iff_toInt_le, i32 hx, i32 hy]
theorem i32_lt {x y : Int} (hx : inR x) (hy : inR y) : Int32.ofInt x < Int32.ofInt y ↔ x < y := by rw [Int32.lt_iff_toInt_lt, i32 hx, i32 hy]
theorem vok1 {a : Vv} (hst : ∀ v ∈ a :: st, vok h v) : vok h a ∧ ∀ v ∈ st, vok h v := ⟨hst a List.mem_cons_self, fun v q => hst v (List.mem_cons_of_mem _ q)⟩
theorem vokc {a : Vv} (ha : vok h a) (hst : ∀ v ∈ st, vok h v) : ∀ v ∈ a :: st, vok h v := fun v q => by
  rcases List.mem_cons.mp q with e | e
  · rw [e]; exact ha
  · exact hst v e
theorem Ev.iadd {a b : Int} (d : Dq (mB M) pc .iadd 1 pc') (hr : inR (a + b)) (k : Ev Θ M fr lc mc ms pc' ls (vi (a + b) :: st) h Q) : Ev Θ M fr lc mc ms pc ls (vi b :: vi a :: st) h Q := by
  intro p e R s m args below meth c H locs cells slots ρ la hF hR hS0 hS1 hc hs hl hlv hst
  obtain ⟨d, rfl⟩ := d
  have kk := k p e R s m args below meth c H locs cells slots ρ la hF hR hS0 hS1 hc hs hl hlv (vokc (a := vi (a + b)) hr (vok1 (vok1 hst).2).2)
  refine lv_iadd hF.1 hF.2.1 d ?_
  rw [← Int32.ofInt_add]
  exact kk
end
