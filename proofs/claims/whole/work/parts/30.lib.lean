/-- contracts that return one value, or nothing, or throw unless a condition holds -/
abbrev Ret (v : Vv) (h1 : Hp) : Ro → Hp → Prop := fun o h' => o = .inl (some v) ∧ h' = h1
abbrev RetN (h1 : Hp) : Ro → Hp → Prop := fun o h' => o = .inl none ∧ h' = h1
abbrev Req (ok : Prop) (E : String) (h1 : Hp) : Ro → Hp → Prop := fun o h' => (ok ∧ o = .inl none ∧ h' = h1) ∨ (¬ ok ∧ o = .inr E ∧ h' = h1)
def b2i (b : Bool) : Int := if b then 1 else 0
theorem b2i_t : b2i true = 1 := rfl
theorem b2i_f : b2i false = 0 := rfl
theorem b2i_0 {b : Bool} : b2i b = 0 ↔ b = false := by cases b <;> simp [b2i]
theorem b2i_1 {b : Bool} : ¬ b2i b = 0 ↔ b = true := by cases b <;> simp [b2i]
theorem b2i_R (b : Bool) : 0 ≤ b2i b ∧ b2i b ≤ 1 := by cases b <;> simp [b2i]
/-- going up to N -/
theorem upto {P : Nat → Prop} (N : Nat) (he : P N) (hs : ∀ i, i < N → P (i + 1) → P i) : ∀ i, i ≤ N → P i := by
  have h : ∀ k i, k + i = N → P i := by
    intro k
    induction k with
    | zero => intro i hi; rw [show i = N by omega]; exact he
    | succ k ih => intro i hi; exact hs i (by omega) (ih (i + 1) (by omega))
  exact fun i hi => h (N - i) i (by omega)
section
variable {Θ : GC} {M : MD} {fr lc mc ms pc pc' : Nat} {ls ls' : List (Nat × Vv)} {st st' st0 : List Vv} {h h1 h2 : Hp} {Q : Ro → Hp → Prop}
theorem Ev.cast (k : Ev Θ M fr lc mc ms pc ls' st' h2 Q) (e1 : ls = ls') (e2 : st = st') (e3 : h = h2) : Ev Θ M fr lc mc ms pc ls st h Q := by
  subst e1 e2 e3; exact k
theorem Ev.ofQ {Q' : Ro → Hp → Prop} (hq : ∀ o h', Q' o h' → Q o h') (k : Ev Θ M fr lc mc ms pc ls st h Q') : Ev Θ M fr lc mc ms pc ls st h Q := by
  intro p e R s m args below meth c H locs cells slots ρ la hF hR hS0 hS1 hc hs hl hlv hst
  refine W_mono (fun t z => vx_MQ_mono (fun o y => ?_) (fun E y => ?_) z) (k p e R s m args below meth c H locs cells slots ρ la hF hR hS0 hS1 hc hs hl hlv hst)
  · obtain ⟨r, h', ρ', k1, k2, k3⟩ := y
    exact ⟨r, h', ρ', k1, hq _ _ k2, k3⟩
  · obtain ⟨h', ρ', k2, k3⟩ := y
    exact ⟨h', ρ', hq _ _ k2, k3⟩
theorem Cal.ofQ {as : List Vv} {Qa Qb : Ro → Hp → Prop} (hq : ∀ o h', Qa o h' → Qb o h') (k : Cal Θ M fr lc mc ms as h Qa) : Cal Θ M fr lc mc ms as h Qb := fun ρ hav => by
  refine MetFree.mono (k ρ hav) (fun _ _ q => q) (fun _ _ _ _ _ q => q) (fun a s o t _ z => vx_Q_mono (fun y => ?_) (fun E y => ?_) z)
  · obtain ⟨r, h', ρ', k1, k2, k3⟩ := y
    exact ⟨r, h', ρ', k1, hq _ _ k2, k3⟩
  · obtain ⟨h', ρ', k2, k3⟩ := y
    exact ⟨h', ρ', hq _ _ k2, k3⟩
abbrev Bud (N : MD) (fr lc mc ms fr' lc' mc' ms' mc1 ms1 : Nat) (st : List Vv) : Prop := fr' + 1 ≤ fr ∧ 8 + (mX N + 11) + lc' ≤ lc ∧ mc' + mc1 ≤ mc ∧ ms' + ms1 ≤ ms ∧ csum st ≤ 8
theorem Ev.callV1 {N : MD} {ix C j n fr' lc' mc' ms' mc1 ms1 : Nat} {Cn : String} {T : u_T} {nf : Nat} {as : List Vv} {v : Vv} (f : VOK (mO M) ix N Cn n) (hM : Cal Θ N fr' lc' mc' ms' (vr C (j + 1) :: as) h (Ret v h1)) (hst0 : st0 = as.reverse ++ vr C (j + 1) :: st) (hc0 : vwCl[C]? = some (Cn, T, nf)) (h9 : C < 9) (hn : as.length = n) (hb : Bud N fr lc mc ms fr' lc' mc' ms' mc1 ms1 st) (d : Dq (mB M) pc (.invokevirtual ix) 3 pc')
    (k : Ev Θ M fr lc mc1 ms1 pc' ls (v :: st) h1 Q) : Ev Θ M fr lc mc ms pc ls st0 h Q :=
  Ev.callV f hc0 h9 hst0 hn hM hb.1 hb.2.1 hb.2.2.1 hb.2.2.2.1 hb.2.2.2.2 d (fun r h' q => by cases q.1; cases q.2; exact k) (fun E h' q => by cases q.1)
theorem Ev.callVN {N : MD} {ix C j n fr' lc' mc' ms' mc1 ms1 : Nat} {Cn : String} {T : u_T} {nf : Nat} {as : List Vv} (f : VOK (mO M) ix N Cn n) (hM : Cal Θ N fr' lc' mc' ms' (vr C (j + 1) :: as) h (RetN h1)) (hst0 : st0 = as.reverse ++ vr C (j + 1) :: st) (hc0 : vwCl[C]? = some (Cn, T, nf)) (h9 : C < 9) (hn : as.length = n) (hb : Bud N fr lc mc ms fr' lc' mc' ms' mc1 ms1 st) (d : Dq (mB M) pc (.invokevirtual ix) 3 pc')
    (k : Ev Θ M fr lc mc1 ms1 pc' ls st h1 Q) : Ev Θ M fr lc mc ms pc ls st0 h Q :=
  Ev.callV f hc0 h9 hst0 hn hM hb.1 hb.2.1 hb.2.2.1 hb.2.2.2.1 hb.2.2.2.2 d (fun r h' q => by cases q.1; cases q.2; exact k) (fun E h' q => by cases q.1)
theorem Ev.callVQ {N : MD} {ix C j n fr' lc' mc' ms' mc1 ms1 : Nat} {Cn : String} {T : u_T} {nf : Nat} {as : List Vv} {ok : Prop} {E : String} (f : VOK (mO M) ix N Cn n) (hM : Cal Θ N fr' lc' mc' ms' (vr C (j + 1) :: as) h (Req ok E h1)) (hst0 : st0 = as.reverse ++ vr C (j + 1) :: st) (hc0 : vwCl[C]? = some (Cn, T, nf)) (h9 : C < 9) (hn : as.length = n) (hb : Bud N fr lc mc ms fr' lc' mc' ms' mc1 ms1 st) (hE : mE M = []) (d : Dq (mB M) pc (.invokevirtual ix) 3 pc')
    (kx : ¬ ok → Q (.inr E) h1) (k : ok → Ev Θ M fr lc mc1 ms1 pc' ls st h1 Q) : Ev Θ M fr lc mc ms pc ls st0 h Q :=
  Ev.callV f hc0 h9 hst0 hn hM hb.1 hb.2.1 hb.2.2.1 hb.2.2.2.1 hb.2.2.2.2 d (fun r h' q => by
    rcases q with ⟨q, q1, q2⟩ | ⟨q, q1, q2⟩
    · cases q1; cases q2; exact k q
    · cases q1) (fun E h' q => by
    rcases q with ⟨q, q1, q2⟩ | ⟨q, q1, q2⟩
    · cases q1
    · cases q1; cases q2; exact Exn.out hE (kx q))
theorem Ev.callS1 {N : MD} {ix n fr' lc' mc' ms' mc1 ms1 : Nat} {as : List Vv} {v : Vv} (f : SOK (mO M) ix N n) (hM : Cal Θ N fr' lc' mc' ms' as h (Ret v h1)) (hst0 : st0 = as.reverse ++ st) (hn : as.length = n) (hb : Bud N fr lc mc ms fr' lc' mc' ms' mc1 ms1 st) (d : Dq (mB M) pc (.invokestatic ix) 3 pc')
    (k : Ev Θ M fr lc mc1 ms1 pc' ls (v :: st) h1 Q) : Ev Θ M fr lc mc ms pc ls st0 h Q :=
  Ev.callS f hst0 hn hM hb.1 hb.2.1 hb.2.2.1 hb.2.2.2.1 hb.2.2.2.2 d (fun r h' q => by cases q.1; cases q.2; exact k) (fun E h' q => by cases q.1)
theorem Ev.callSV {N : MD} {ix n fr' lc' mc' ms' mc1 ms1 : Nat} {as : List Vv} (f : SOK (mO M) ix N n) (hM : Cal Θ N fr' lc' mc' ms' as h (RetN h1)) (hst0 : st0 = as.reverse ++ st) (hn : as.length = n) (hb : Bud N fr lc mc ms fr' lc' mc' ms' mc1 ms1 st) (d : Dq (mB M) pc (.invokestatic ix) 3 pc')
    (k : Ev Θ M fr lc mc1 ms1 pc' ls st h1 Q) : Ev Θ M fr lc mc ms pc ls st0 h Q :=
  Ev.callS f hst0 hn hM hb.1 hb.2.1 hb.2.2.1 hb.2.2.2.1 hb.2.2.2.2 d (fun r h' q => by cases q.1; cases q.2; exact k) (fun E h' q => by cases q.1)
theorem Ev.callN1 {N : MD} {ix n fr' lc' mc' ms' mc1 ms1 : Nat} {host : String} {as : List Vv} {v : Vv} (f : NOK (mO M) host ix N n) (hM : Cal Θ N fr' lc' mc' ms' as h (Ret v h1)) (hst0 : st0 = as.reverse ++ st) (hn : as.length = n) (hb : Bud N fr lc mc ms fr' lc' mc' ms' mc1 ms1 st) (d : Dq (mB M) pc (.invokestatic ix) 3 pc')
    (k : Ev Θ M fr lc mc1 ms1 pc' ls (v :: st) h1 Q) : Ev Θ M fr lc mc ms pc ls st0 h Q :=
  Ev.callSN f hst0 hn hM (fun E h' q => by cases q.1) hb.1 hb.2.1 hb.2.2.1 hb.2.2.2.1 hb.2.2.2.2 d (fun r h' q => by cases q.1; cases q.2; exact k)
theorem Ev.callI1 {N : MD} {ix C j n fr' lc' mc' ms' mc1 ms1 : Nat} {host : Option String} {as : List Vv} (f : IOK (mO M) host ix N n) (hM : Cal Θ N fr' lc' mc' ms' (vr C (j + 1) :: as) h (RetN h1)) (hst0 : st0 = as.reverse ++ vr C (j + 1) :: st) (h9 : C < 9) (hn : as.length = n) (hb : Bud N fr lc mc ms fr' lc' mc' ms' mc1 ms1 st) (d : Dq (mB M) pc (.invokespecial ix) 3 pc')
    (k : Ev Θ M fr lc mc1 ms1 pc' ls st h1 Q) : Ev Θ M fr lc mc ms pc ls st0 h Q :=
  Ev.callI f h9 hst0 hn hM (fun E h' q => by cases q.1) hb.1 hb.2.1 hb.2.2.1 hb.2.2.2.1 hb.2.2.2.2 d (fun r h' q => by cases q.1; cases q.2; exact k)
/-- a reference that is known -/
theorem Ev.getRk {C j ix k C2 r : Nat} {fin : Bool} (f : FOK (mO M) ix C k (C2 + 2) fin) (hr : hR h C j k = r + 1) (hC2 : noS C2) (h98 : C2 ≠ 98) (d : Dq (mB M) pc (.getfield ix) 3 pc') (kk : Ev Θ M fr lc mc ms pc' ls (vr C2 (r + 1) :: st) h Q) : Ev Θ M fr lc mc ms pc ls (vr C (j + 1) :: st) h Q := by
  refine Ev.getR f hC2 h98 d ?_
  rw [hr]; exact kk
theorem Ev.aaloadk {CA C j r : Nat} {k : Int} (hCA : (CA = 11 ∧ C = 3) ∨ (CA = 12 ∧ C = 6)) (h0 : 0 ≤ k) (hk : k < hN h CA j) (hr : hR h CA j k.toNat = r + 1) (d : Dq (mB M) pc .aaload 1 pc') (kk : Ev Θ M fr lc mc ms pc' ls (vr C (r + 1) :: st) h Q) : Ev Θ M fr lc mc ms pc ls (vi k :: vr CA (j + 1) :: st) h Q := by
  refine Ev.aaload hCA h0 hk d ?_
  rw [hr]; exact kk
end
/-- the heap in the law's loop: what never changes there -/
def SR (C j k : Nat) : Nat := match C, k with
  | 0, 1 => j + 1
  | 1, 1 => j + 1
  | 2, 2 => 1
  | 3, 5 => 3 * j + 1 + 1
  | 3, 6 => 3 * j + 2 + 1
  | 4, 2 => j + 1
  | 4, 3 => j + 1
  | 4, 4 => j + 1
  | 5, 1 => 10 + 1
  | 5, 2 => 1
  | 6, 3 => j + 1
  | 6, 4 => j + 1
  | 6, 5 => 3 * j + 1
  | 6, 6 => j + 1
  | 6, 7 => j + 1
  | 7, 0 => 0 + 1
  | 7, 1 => 1 + 1
  | 7, 3 => 0 + 1
  | 7, 4 => 0 + 1
  | 7, 5 => 33 + 1
  | 7, 6 => 36 + 1
  | 7, 7 => 11 + 1
  | 8, 1 => 0 + 1
  | 8, 8 => 0 + 1
  | 8, 9 => 1 + 1
  | 8, 10 => 0 + 1
  | 8, 11 => 2 + 1
  | 8, 15 => 3 + 1
  | 8, 16 => 4 + 1
  | 11, c => if c < 5 then 5 * j + c + 1 else 0
  | 12, i => if i < 8 then 2 + i + 1 else 0
  | _, _ => 0
def SN (C _j : Nat) : Nat := match C with
  | 11 => 5
  | 12 => 8
  | 20 => 6
  | 21 => 60
  | 22 => 60
  | 23 => 360
  | 24 => 240
  | 25 => 600
  | 26 => 600
  | 27 => 5366
  | 28 => 42928
  | 30 => 60
  | 31 => 1
  | _ => 0
abbrev hp (D : Nat → Nat → Prop) (I : Nat → Nat → Nat → Int) (L : Nat → Nat → Nat → BitVec 64) : Hp := (I, L, SR, D, SN)
/-- whole numbers and longs of the heap: what changes in the law's loop -/
abbrev Mm : Type := (Nat → Nat → Nat → Int) × (Nat → Nat → Nat → BitVec 64)
abbrev hq (D : Nat → Nat → Prop) (x : Mm) : Hp := (x.1, x.2, SR, D, SN)
def wI (x : Mm) (C j k : Nat) (v : Int) : Mm := (up3 x.1 C j k v, x.2)
def wL (x : Mm) (C j k : Nat) (v : BitVec 64) : Mm := (x.1, up3 x.2 C j k v)
def wC (x : Mm) (C js sp jd dp n : Nat) : Mm := ((fun C' j k => if C' = C ∧ j = jd ∧ dp ≤ k ∧ k < dp + n then x.1 C js (sp + (k - dp)) else x.1 C' j k), x.2)
def wCL (x : Mm) (C js sp jd dp n : Nat) : Mm := (x.1, fun C' j k => if C' = C ∧ j = jd ∧ dp ≤ k ∧ k < dp + n then x.2 C js (sp + (k - dp)) else x.2 C' j k)
abbrev bt (n : Int) : BitVec 64 := 1#64 <<< n.toNat
abbrev has (s : BitVec 64) (n : Int) : Bool := s.getLsbD n.toNat
theorem has_lcm {s : BitVec 64} {k : Nat} : lcm ((s >>> k) &&& BitVec.ofInt 64 1) (BitVec.ofInt 64 0) = b2i (s.getLsbD k) := by
  have e : (s >>> k) &&& BitVec.ofInt 64 1 = BitVec.ofNat 64 (s.getLsbD k).toNat := by
    ext i hi
    simp only [BitVec.getElem_and, BitVec.getElem_ushiftRight]
    by_cases h : i = 0
    · subst h; cases hs : s.getLsbD k <;> simp [hs] <;> decide
    · have e1 : (BitVec.ofInt 64 1)[i] = false := by
        rw [show BitVec.ofInt 64 1 = 1#64 from rfl]; simp [BitVec.getElem_one, h]
      rw [e1]
      cases hs : s.getLsbD k <;> simp [BitVec.getElem_one, h]
  rw [e]
  cases s.getLsbD k <;> decide
theorem inRd {x : Int} (h : (decide (-2147483648 ≤ x) && decide (x ≤ 2147483647)) = true) : inR x := by
  simp only [Bool.and_eq_true, decide_eq_true_eq] at h; exact h
theorem nb (b : Bool) : narrow .boolean (.int (Int32.ofInt (b2i b))) = .int (Int32.ofInt (b2i b)) := by cases b <;> rfl
/-- checks, and what follows from a result -/
def ckR {α : Type} (e : Int) (A : Option α) : Option α := if -2147483648 ≤ e ∧ e ≤ 2147483647 then A else none
def ckI {α : Type} (k : Int) (n : Nat) (A : Option α) : Option α := if 0 ≤ k ∧ k < (n : Int) then A else none
def ckZ {α : Type} (v : Int) (A : Option α) : Option α := if v = 0 ∨ v = 1 then A else none
def ckM {α : Type} (a b : Int) (A : Option α) : Option α := if 0 ≤ a ∧ 0 < b then A else none
def ckC {α : Type} (sp dp n : Int) (N : Nat) (A : Option α) : Option α := if 0 ≤ sp ∧ 0 ≤ dp ∧ 0 ≤ n ∧ sp + n ≤ (N : Int) ∧ dp + n ≤ (N : Int) then A else none
theorem it_s {α : Type} {c : Prop} [Decidable c] {A : Option α} {y : α} (h : (if c then A else none) = some y) : c ∧ A = some y := by
  by_cases hc : c
  · rw [if_pos hc] at h; exact ⟨hc, h⟩
  · rw [if_neg hc] at h; cases h
theorem ckR_s {α : Type} {e : Int} {A : Option α} {y : α} (h : ckR e A = some y) : inR e ∧ A = some y := it_s (c := -2147483648 ≤ e ∧ e ≤ 2147483647) h
theorem ckI_s {α : Type} {k : Int} {n : Nat} {A : Option α} {y : α} (h : ckI k n A = some y) : (0 ≤ k ∧ k < (n : Int)) ∧ A = some y := it_s h
theorem ckZ_s {α : Type} {v : Int} {A : Option α} {y : α} (h : ckZ v A = some y) : (v = 0 ∨ v = 1) ∧ A = some y := it_s h
theorem ckM_s {α : Type} {a b : Int} {A : Option α} {y : α} (h : ckM a b A = some y) : (0 ≤ a ∧ 0 < b) ∧ A = some y := it_s h
theorem ckC_s {α : Type} {sp dp n : Int} {N : Nat} {A : Option α} {y : α} (h : ckC sp dp n N A = some y) : (0 ≤ sp ∧ 0 ≤ dp ∧ 0 ≤ n ∧ sp + n ≤ (N : Int) ∧ dp + n ≤ (N : Int)) ∧ A = some y := it_s h
theorem bnd_s {α β : Type} {o : Option α} {f : α → Option β} {y : β} (h : o.bind f = some y) : ∃ v, o = some v ∧ f v = some y := by
  cases o with
  | none => cases h
  | some v => exact ⟨v, rfl, h⟩
def bndX {α β : Type} (o : Option ((α ⊕ String) × Mm)) (f : α → Mm → Option ((β ⊕ String) × Mm)) : Option ((β ⊕ String) × Mm) := o.bind fun p => match p with
  | (.inl v, x) => f v x
  | (.inr E, x) => some (.inr E, x)
theorem bndX_s {α β : Type} {o : Option ((α ⊕ String) × Mm)} {f : α → Mm → Option ((β ⊕ String) × Mm)} {y : (β ⊕ String) × Mm} (h : bndX o f = some y) : (∃ v x1, o = some (.inl v, x1) ∧ f v x1 = some y) ∨ (∃ E x1, o = some (.inr E, x1) ∧ y = (.inr E, x1)) := by
  obtain ⟨⟨p, x1⟩, h1, h2⟩ := bnd_s h
  cases p with
  | inl v => exact Or.inl ⟨v, x1, h1, h2⟩
  | inr E => exact Or.inr ⟨E, x1, h1, (Option.some.inj h2).symm⟩
def bndE {S R T : Type} (inj : R → T) (o : Option (S ⊕ R)) (f : S → Option T) : Option T := o.bind fun p => match p with
  | .inl s => f s
  | .inr r => some (inj r)
theorem bndE_s {S R T : Type} {inj : R → T} {o : Option (S ⊕ R)} {f : S → Option T} {y : T} (h : bndE inj o f = some y) : (∃ s, o = some (.inl s) ∧ f s = some y) ∨ (∃ r, o = some (.inr r) ∧ y = inj r) := by
  obtain ⟨p, h1, h2⟩ := bnd_s h
  cases p with
  | inl v => exact Or.inl ⟨v, h1, h2⟩
  | inr r => exact Or.inr ⟨r, h1, (Option.some.inj h2).symm⟩
theorem hqI {D : Nat → Nat → Prop} {x x1 : Mm} {C j k : Nat} {v : Int} (h : some (wI x C j k v) = some x1) : setI (hq D x) C j k v = hq D x1 := by cases h; rfl
theorem hqL {D : Nat → Nat → Prop} {x x1 : Mm} {C j k : Nat} {v : BitVec 64} (h : some (wL x C j k v) = some x1) : setL (hq D x) C j k v = hq D x1 := by cases h; rfl
theorem hqC {D : Nat → Nat → Prop} {x x1 : Mm} {C js sp jd dp n : Nat} (h : some (wC x C js sp jd dp n) = some x1) : cpI (hq D x) C js sp C jd dp n = hq D x1 := by cases h; rfl
theorem hqCL {D : Nat → Nat → Prop} {x x1 : Mm} {C js sp jd dp n : Nat} (h : some (wCL x C js sp jd dp n) = some x1) : cpL (hq D x) C js sp C jd dp n = hq D x1 := by cases h; rfl
theorem sr11 {D : Nat → Nat → Prop} {x : Mm} {j : Nat} {k : Int} (h : 0 ≤ k ∧ k < ((5 : Nat) : Int)) : hR (hq D x) 11 j k.toNat = (5 * j + k.toNat) + 1 := by
  show SR 11 j k.toNat = _
  unfold SR; exact if_pos (by omega)
theorem sr12 {D : Nat → Nat → Prop} {x : Mm} {j : Nat} {k : Int} (h : 0 ≤ k ∧ k < ((8 : Nat) : Int)) : hR (hq D x) 12 j k.toNat = (2 + k.toNat) + 1 := by
  show SR 12 j k.toNat = _
  unfold SR; exact if_pos (by omega)
theorem nz {v : Int} (h : v = 0 ∨ v = 1) : narrow .boolean (.int (Int32.ofInt v)) = .int (Int32.ofInt v) := by
  rcases h with rfl | rfl <;> rfl
abbrev ThrI (D : Nat → Nat → Prop) (y : (Int ⊕ String) × Mm) : Ro → Hp → Prop := fun o h' => o = (match y.1 with | .inl v => .inl (some (vi v)) | .inr E => .inr E) ∧ h' = hq D y.2
abbrev ThrL (D : Nat → Nat → Prop) (y : (BitVec 64 ⊕ String) × Mm) : Ro → Hp → Prop := fun o h' => o = (match y.1 with | .inl v => .inl (some (vl v)) | .inr E => .inr E) ∧ h' = hq D y.2
abbrev ThrU (D : Nat → Nat → Prop) (y : (Unit ⊕ String) × Mm) : Ro → Hp → Prop := fun o h' => o = (match y.1 with | .inl _ => .inl none | .inr E => .inr E) ∧ h' = hq D y.2
section
variable {Θ : GC} {M : MD} {fr lc mc ms pc pc' : Nat} {ls ls' : List (Nat × Vv)} {st st' st0 : List Vv} {h h1 h2 : Hp} {Q : Ro → Hp → Prop}
theorem Ev.callVE {N : MD} {ix C j n fr' lc' mc' ms' mc1 ms1 : Nat} {Cn : String} {T : u_T} {nf : Nat} {as : List Vv} {E : String} (f : VOK (mO M) ix N Cn n) (hM : Cal Θ N fr' lc' mc' ms' (vr C (j + 1) :: as) h (fun o h' => o = .inr E ∧ h' = h1)) (hst0 : st0 = as.reverse ++ vr C (j + 1) :: st) (hc0 : vwCl[C]? = some (Cn, T, nf)) (h9 : C < 9) (hn : as.length = n) (hb : Bud N fr lc mc ms fr' lc' mc' ms' mc1 ms1 st) (d : Dq (mB M) pc (.invokevirtual ix) 3 pc')
    (hE : mE M = []) (kx : Q (.inr E) h1) : Ev Θ M fr lc mc ms pc ls st0 h Q :=
  Ev.callV f hc0 h9 hst0 hn hM hb.1 hb.2.1 hb.2.2.1 hb.2.2.2.1 hb.2.2.2.2 d (fun r h' q => by cases q.1) (fun E' h' q => by cases q.1; cases q.2; exact Exn.out hE kx)
end
def ckK {α : Type} (k : Nat) (A : Option α) : Option α := if k < 22 then A else none
theorem ckK_s {α : Type} {k : Nat} {A : Option α} {y : α} (h : ckK k A = some y) : k < 22 ∧ A = some y := it_s h
section
variable {Θ : GC} {M : MD} {fr lc mc ms pc pc' : Nat} {ls ls' : List (Nat × Vv)} {st st' st0 : List Vv} {h h1 h2 : Hp} {Q : Ro → Hp → Prop}
theorem Ev.callT1 {N : MD} {ix k n fr' lc' mc' ms' mc1 ms1 : Nat} {as : List Vv} {v : Vv} (f : VOK (mO M) ix N "java/lang/String" n) (hM : Cal Θ N fr' lc' mc' ms' (vt k :: as) h (Ret v h1)) (hst0 : st0 = as.reverse ++ vt k :: st) (hk : k < 22) (hn : as.length = n) (hb : Bud N fr lc mc ms fr' lc' mc' ms' mc1 ms1 st) (d : Dq (mB M) pc (.invokevirtual ix) 3 pc')
    (kk : Ev Θ M fr lc mc1 ms1 pc' ls (v :: st) h1 Q) : Ev Θ M fr lc mc ms pc ls st0 h Q :=
  Ev.callT f hk hst0 hn hM hb.1 hb.2.1 hb.2.2.1 hb.2.2.2.1 hb.2.2.2.2 d (fun r h' q => by cases q.1; cases q.2; exact kk) (fun E h' q => by cases q.1)
end
theorem wbB : ∀ k, k < 22 → ∀ i, i < (wby k).length → biand ((wby k).getD i 0) 255 = (wby k).getD i 0 ∧ 0 ≤ (wby k).getD i 0 ∧ (wby k).getD i 0 ≤ 255 ∧ inR ((wby k).getD i 0) := by
  have e : ∀ k, k < 22 → ∀ i, i < (wby k).length → biand ((wby k).getD i 0) 255 = (wby k).getD i 0 ∧ 0 ≤ (wby k).getD i 0 ∧ (wby k).getD i 0 ≤ 255 := by decide +kernel
  intro k hk i hi
  obtain ⟨a, b, c⟩ := e k hk i hi
  exact ⟨a, b, c, ⟨by omega, by omega⟩⟩
theorem nch : ∀ v : Nat, v < 256 → narrow .char (.int (Int32.ofInt (v : Int))) = .int (Int32.ofInt (v : Int)) := by decide +kernel
theorem nchI {v : Int} (h0 : 0 ≤ v) (h1 : v ≤ 255) : narrow .char (.int (Int32.ofInt v)) = .int (Int32.ofInt v) := by
  obtain ⟨n, rfl⟩ := Int.eq_ofNat_of_zero_le h0
  exact nch n (by omega)
def bc1 (i : BitVec 64) : BitVec 64 := i - ((i >>> 1) &&& BitVec.ofInt 64 (6148914691236517205))
def bc2 (i : BitVec 64) : BitVec 64 := (i &&& BitVec.ofInt 64 (3689348814741910323)) + ((i >>> 2) &&& BitVec.ofInt 64 (3689348814741910323))
def bc3 (i : BitVec 64) : BitVec 64 := (i + (i >>> 4)) &&& BitVec.ofInt 64 (1085102592571150095)
def bc4 (k : Nat) (i : BitVec 64) : BitVec 64 := i + (i >>> k)
def pcnt (s : BitVec 64) : Int := biand ((bc4 32 (bc4 16 (bc4 8 (bc3 (bc2 (bc1 s)))))).setWidth 32).toInt 127
