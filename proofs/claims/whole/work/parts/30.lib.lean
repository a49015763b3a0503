/-- contracts that return one value, or nothing, or throw unless a condition holds -/
abbrev Ret (v : Vv) (h1 : Hp) : Ro → Hp → Prop := fun o h' => o = .inl (some v) ∧ h' = h1
abbrev RetN (h1 : Hp) : Ro → Hp → Prop := fun o h' => o = .inl none ∧ h' = h1
abbrev Req (ok : Prop) (E : String) (h1 : Hp) : Ro → Hp → Prop := fun o h' => (ok ∧ o = .inl none ∧ h' = h1) ∨ (¬ ok ∧ o = .inr E ∧ h' = h1)
def b2i (b : Bool) : Int := if b then 1 else 0
theorem b2i_t : b2i true = 1 := rfl
theorem b2i_f : b2i false = 0 := rfl
theorem b2i_0 {b : Bool} : b2i b = 0 ↔ b = false := by cases b <;> simp [b2i]
theorem b2i_1 {b : Bool} : ¬ b2i b = 0 ↔ b = true := by cases b <;> simp [b2i]
theorem b2i_R (b : Bool) : 0 ≤ b2i b ∧ b2i b ≤ 1 := by cases b <;> simp [b2i]
/-- going up to N -/
theorem upto {P : Nat → Prop} (N : Nat) (he : P N) (hs : ∀ i, i < N → P (i + 1) → P i) : ∀ i, i ≤ N → P i := by
  have h : ∀ k i, k + i = N → P i := by
    intro k
    induction k with
    | zero => intro i hi; rw [show i = N by omega]; exact he
    | succ k ih => intro i hi; exact hs i (by omega) (ih (i + 1) (by omega))
  exact fun i hi => h (N - i) i (by omega)
section
variable {Θ : GC} {M : MD} {fr lc mc ms pc pc' : Nat} {ls ls' : List (Nat × Vv)} {st st' st0 : List Vv} {h h1 h2 : Hp} {Q : Ro → Hp → Prop}
theorem Ev.cast (k : Ev Θ M fr lc mc ms pc ls' st' h2 Q) (e1 : ls = ls') (e2 : st = st') (e3 : h = h2) : Ev Θ M fr lc mc ms pc ls st h Q := by
  subst e1 e2 e3; exact k
theorem Ev.ofQ {Q' : Ro → Hp → Prop} (hq : ∀ o h', Q' o h' → Q o h') (k : Ev Θ M fr lc mc ms pc ls st h Q') : Ev Θ M fr lc mc ms pc ls st h Q := by
  intro p e R s m args below meth c H locs cells slots ρ la hF hR hS0 hS1 hc hs hl hlv hst
  refine W_mono (fun t z => vx_MQ_mono (fun o y => ?_) (fun E y => ?_) z) (k p e R s m args below meth c H locs cells slots ρ la hF hR hS0 hS1 hc hs hl hlv hst)
  · obtain ⟨r, h', ρ', k1, k2, k3⟩ := y
    exact ⟨r, h', ρ', k1, hq _ _ k2, k3⟩
  · obtain ⟨h', ρ', k2, k3⟩ := y
    exact ⟨h', ρ', hq _ _ k2, k3⟩
theorem Cal.ofQ {as : List Vv} {Qa Qb : Ro → Hp → Prop} (hq : ∀ o h', Qa o h' → Qb o h') (k : Cal Θ M fr lc mc ms as h Qa) : Cal Θ M fr lc mc ms as h Qb := fun ρ hav => by
  refine MetFree.mono (k ρ hav) (fun _ _ q => q) (fun _ _ _ _ _ q => q) (fun a s o t _ z => vx_Q_mono (fun y => ?_) (fun E y => ?_) z)
  · obtain ⟨r, h', ρ', k1, k2, k3⟩ := y
    exact ⟨r, h', ρ', k1, hq _ _ k2, k3⟩
  · obtain ⟨h', ρ', k2, k3⟩ := y
    exact ⟨h', ρ', hq _ _ k2, k3⟩
abbrev Bud (N : MD) (fr lc mc ms fr' lc' mc' ms' mc1 ms1 : Nat) (st : List Vv) : Prop := fr' + 1 ≤ fr ∧ 8 + (mX N + 11) + lc' ≤ lc ∧ mc' + mc1 ≤ mc ∧ ms' + ms1 ≤ ms ∧ csum st ≤ 8
theorem Ev.callV1 {N : MD} {ix C j n fr' lc' mc' ms' mc1 ms1 : Nat} {Cn : String} {T : u_T} {nf : Nat} {as : List Vv} {v : Vv} (f : VOK (mO M) ix N Cn n) (hM : Cal Θ N fr' lc' mc' ms' (vr C (j + 1) :: as) h (Ret v h1)) (hst0 : st0 = as.reverse ++ vr C (j + 1) :: st) (hc0 : vwCl[C]? = some (Cn, T, nf)) (h9 : C < 9) (hn : as.length = n) (hb : Bud N fr lc mc ms fr' lc' mc' ms' mc1 ms1 st) (d : Dq (mB M) pc (.invokevirtual ix) 3 pc')
    (k : Ev Θ M fr lc mc1 ms1 pc' ls (v :: st) h1 Q) : Ev Θ M fr lc mc ms pc ls st0 h Q :=
  Ev.callV f hc0 h9 hst0 hn hM hb.1 hb.2.1 hb.2.2.1 hb.2.2.2.1 hb.2.2.2.2 d (fun r h' q => by cases q.1; cases q.2; exact k) (fun E h' q => by cases q.1)
theorem Ev.callVN {N : MD} {ix C j n fr' lc' mc' ms' mc1 ms1 : Nat} {Cn : String} {T : u_T} {nf : Nat} {as : List Vv} (f : VOK (mO M) ix N Cn n) (hM : Cal Θ N fr' lc' mc' ms' (vr C (j + 1) :: as) h (RetN h1)) (hst0 : st0 = as.reverse ++ vr C (j + 1) :: st) (hc0 : vwCl[C]? = some (Cn, T, nf)) (h9 : C < 9) (hn : as.length = n) (hb : Bud N fr lc mc ms fr' lc' mc' ms' mc1 ms1 st) (d : Dq (mB M) pc (.invokevirtual ix) 3 pc')
    (k : Ev Θ M fr lc mc1 ms1 pc' ls st h1 Q) : Ev Θ M fr lc mc ms pc ls st0 h Q :=
  Ev.callV f hc0 h9 hst0 hn hM hb.1 hb.2.1 hb.2.2.1 hb.2.2.2.1 hb.2.2.2.2 d (fun r h' q => by cases q.1; cases q.2; exact k) (fun E h' q => by cases q.1)
theorem Ev.callVQ {N : MD} {ix C j n fr' lc' mc' ms' mc1 ms1 : Nat} {Cn : String} {T : u_T} {nf : Nat} {as : List Vv} {ok : Prop} {E : String} (f : VOK (mO M) ix N Cn n) (hM : Cal Θ N fr' lc' mc' ms' (vr C (j + 1) :: as) h (Req ok E h1)) (hst0 : st0 = as.reverse ++ vr C (j + 1) :: st) (hc0 : vwCl[C]? = some (Cn, T, nf)) (h9 : C < 9) (hn : as.length = n) (hb : Bud N fr lc mc ms fr' lc' mc' ms' mc1 ms1 st) (hE : mE M = []) (d : Dq (mB M) pc (.invokevirtual ix) 3 pc')
    (kx : ¬ ok → Q (.inr E) h1) (k : ok → Ev Θ M fr lc mc1 ms1 pc' ls st h1 Q) : Ev Θ M fr lc mc ms pc ls st0 h Q :=
  Ev.callV f hc0 h9 hst0 hn hM hb.1 hb.2.1 hb.2.2.1 hb.2.2.2.1 hb.2.2.2.2 d (fun r h' q => by
    rcases q with ⟨q, q1, q2⟩ | ⟨q, q1, q2⟩
    · cases q1; cases q2; exact k q
    · cases q1) (fun E h' q => by
    rcases q with ⟨q, q1, q2⟩ | ⟨q, q1, q2⟩
    · cases q1
    · cases q1; cases q2; exact Exn.out hE (kx q))
theorem Ev.callS1 {N : MD} {ix n fr' lc' mc' ms' mc1 ms1 : Nat} {as : List Vv} {v : Vv} (f : SOK (mO M) ix N n) (hM : Cal Θ N fr' lc' mc' ms' as h (Ret v h1)) (hst0 : st0 = as.reverse ++ st) (hn : as.length = n) (hb : Bud N fr lc mc ms fr' lc' mc' ms' mc1 ms1 st) (d : Dq (mB M) pc (.invokestatic ix) 3 pc')
    (k : Ev Θ M fr lc mc1 ms1 pc' ls (v :: st) h1 Q) : Ev Θ M fr lc mc ms pc ls st0 h Q :=
  Ev.callS f hst0 hn hM hb.1 hb.2.1 hb.2.2.1 hb.2.2.2.1 hb.2.2.2.2 d (fun r h' q => by cases q.1; cases q.2; exact k) (fun E h' q => by cases q.1)
theorem Ev.callSV {N : MD} {ix n fr' lc' mc' ms' mc1 ms1 : Nat} {as : List Vv} (f : SOK (mO M) ix N n) (hM : Cal Θ N fr' lc' mc' ms' as h (RetN h1)) (hst0 : st0 = as.reverse ++ st) (hn : as.length = n) (hb : Bud N fr lc mc ms fr' lc' mc' ms' mc1 ms1 st) (d : Dq (mB M) pc (.invokestatic ix) 3 pc')
    (k : Ev Θ M fr lc mc1 ms1 pc' ls st h1 Q) : Ev Θ M fr lc mc ms pc ls st0 h Q :=
  Ev.callS f hst0 hn hM hb.1 hb.2.1 hb.2.2.1 hb.2.2.2.1 hb.2.2.2.2 d (fun r h' q => by cases q.1; cases q.2; exact k) (fun E h' q => by cases q.1)
theorem Ev.callN1 {N : MD} {ix n fr' lc' mc' ms' mc1 ms1 : Nat} {host : String} {as : List Vv} {v : Vv} (f : NOK (mO M) host ix N n) (hM : Cal Θ N fr' lc' mc' ms' as h (Ret v h1)) (hst0 : st0 = as.reverse ++ st) (hn : as.length = n) (hb : Bud N fr lc mc ms fr' lc' mc' ms' mc1 ms1 st) (d : Dq (mB M) pc (.invokestatic ix) 3 pc')
    (k : Ev Θ M fr lc mc1 ms1 pc' ls (v :: st) h1 Q) : Ev Θ M fr lc mc ms pc ls st0 h Q :=
  Ev.callSN f hst0 hn hM (fun E h' q => by cases q.1) hb.1 hb.2.1 hb.2.2.1 hb.2.2.2.1 hb.2.2.2.2 d (fun r h' q => by cases q.1; cases q.2; exact k)
theorem Ev.callI1 {N : MD} {ix C j n fr' lc' mc' ms' mc1 ms1 : Nat} {host : Option String} {as : List Vv} (f : IOK (mO M) host ix N n) (hM : Cal Θ N fr' lc' mc' ms' (vr C (j + 1) :: as) h (RetN h1)) (hst0 : st0 = as.reverse ++ vr C (j + 1) :: st) (h9 : C < 9) (hn : as.length = n) (hb : Bud N fr lc mc ms fr' lc' mc' ms' mc1 ms1 st) (d : Dq (mB M) pc (.invokespecial ix) 3 pc')
    (k : Ev Θ M fr lc mc1 ms1 pc' ls st h1 Q) : Ev Θ M fr lc mc ms pc ls st0 h Q :=
  Ev.callI f h9 hst0 hn hM (fun E h' q => by cases q.1) hb.1 hb.2.1 hb.2.2.1 hb.2.2.2.1 hb.2.2.2.2 d (fun r h' q => by cases q.1; cases q.2; exact k)
/-- a reference that is known -/
theorem Ev.getRk {C j ix k C2 r : Nat} {fin : Bool} (f : FOK (mO M) ix C k (C2 + 2) fin) (hr : hR h C j k = r + 1) (hC2 : noS C2) (h98 : C2 ≠ 98) (d : Dq (mB M) pc (.getfield ix) 3 pc') (kk : Ev Θ M fr lc mc ms pc' ls (vr C2 (r + 1) :: st) h Q) : Ev Θ M fr lc mc ms pc ls (vr C (j + 1) :: st) h Q := by
  refine Ev.getR f hC2 h98 d ?_
  rw [hr]; exact kk
theorem Ev.aaloadk {CA C j r : Nat} {k : Int} (hCA : (CA = 11 ∧ C = 3) ∨ (CA = 12 ∧ C = 6)) (h0 : 0 ≤ k) (hk : k < hN h CA j) (hr : hR h CA j k.toNat = r + 1) (d : Dq (mB M) pc .aaload 1 pc') (kk : Ev Θ M fr lc mc ms pc' ls (vr C (r + 1) :: st) h Q) : Ev Θ M fr lc mc ms pc ls (vi k :: vr CA (j + 1) :: st) h Q := by
  refine Ev.aaload hCA h0 hk d ?_
  rw [hr]; exact kk
end
/-- the heap in the law's loop: what never changes there -/
def SR (C j k : Nat) : Nat := match C, k with
  | 0, 1 => j + 1
  | 1, 1 => j + 1
  | 2, 2 => 1
  | 3, 5 => 3 * j + 1 + 1
  | 3, 6 => 3 * j + 2 + 1
  | 4, 2 => j + 1
  | 4, 3 => j + 1
  | 4, 4 => j + 1
  | 5, 1 => 10 + 1
  | 5, 2 => 1
  | 6, 3 => j + 1
  | 6, 4 => j + 1
  | 6, 5 => 3 * j + 1
  | 6, 6 => j + 1
  | 6, 7 => j + 1
  | 7, 0 => 0 + 1
  | 7, 1 => 1 + 1
  | 7, 3 => 0 + 1
  | 7, 4 => 0 + 1
  | 7, 5 => 33 + 1
  | 7, 6 => 36 + 1
  | 7, 7 => 11 + 1
  | 8, 1 => 0 + 1
  | 8, 8 => 0 + 1
  | 8, 9 => 1 + 1
  | 8, 10 => 0 + 1
  | 8, 11 => 2 + 1
  | 8, 15 => 3 + 1
  | 8, 16 => 4 + 1
  | 11, c => if c < 5 then 5 * j + c + 1 else 0
  | 12, i => if i < 8 then 2 + i + 1 else 0
  | _, _ => 0
def SN (C _j : Nat) : Nat := match C with
  | 11 => 5
  | 12 => 8
  | 20 => 6
  | 21 => 60
  | 22 => 60
  | 23 => 360
  | 24 => 240
  | 25 => 600
  | 26 => 600
  | 27 => 5366
  | 28 => 42928
  | 30 => 60
  | 31 => 1
  | _ => 0
abbrev hp (D : Nat → Nat → Prop) (I : Nat → Nat → Nat → Int) (L : Nat → Nat → Nat → BitVec 64) : Hp := (I, L, SR, D, SN)
