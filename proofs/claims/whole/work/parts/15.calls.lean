theorem vok_ext {ρ ρ' : Rn} {h h' : Hp} (x : Ext ρ ρ' h h') {v : Vv} (hv : vok h v) : vok h' v := by
  rcases v with i | b | ⟨C, r⟩ | k
  · exact hv
  · trivial
  · rcases hv with h1 | h1
    · exact Or.inl h1
    · exact Or.inr (h1.imp id (x.2 _ _))
  · trivial
def csum (st : List Vv) : Nat := (st.map fun v => if isL v then 2 else 1).sum
theorem csum_tr {Θ : GC} {ρ : Rn} {st : List Vv} : ((st.map (tr Θ ρ)).map fun v => v.category).sum = csum st := by
  unfold csum
  rw [List.map_map]
  congr 1
  exact List.map_congr_left fun v _ => tr_c2
theorem blindI {Θ : GC} {ρ : Rn} {h : Hp} {av : List Value} : FrameBlind (va_Pc av (PoI Θ ρ h)) := fun a U g mk q => by
  obtain ⟨q0, q1, q2, q3⟩ := q
  exact ⟨q0, Cx.moved (s := U) (U := U.calling g mk a) (State.WarmedH.refl U) q1, q2, q3⟩
theorem preI {Θ : GC} {ρ : Rn} {h : Hp} {s U : State} {H : Heap} {locs : List Loc} {av : List Value} (hC : Cx Θ s) (hR : Rel Θ ρ h H) (hS0 : va_S (gA Θ) (gH Θ) s.heap []) (hS1 : va_S (gA Θ) s.heap H locs) (hU : U.heap = H) (hW : s.WarmedH U.vm) : va_Pc av (PoI Θ ρ h) av.toArray U :=
  ⟨rfl, Cx.moved hW hC, by rw [hU]; exact hR, by rw [hU]; exact (hS0.tr hS1).nil⟩
/-- something is thrown here, of class E -/
def Exn (Θ : GC) (M : MD) (fr lc mc ms pc : Nat) (ls : List (Nat × Vv)) (h : Hp) (E : String) (Q : Ro → Hp → Prop) : Prop :=
  ∀ (p : Program) (e : Env) (R : Room) (s : State) (m : MethodId) (args : Array Value) (below : List Frame) (meth : Method) (c : Code) (H : Heap) (locs : List Loc) (cells slots : Nat) (ρ : Rn) (la : Array Slot) (q : Addr) (ce : Cell) (rest : List Value),
    Fr Θ M fr lc p R s m meth c → Rel Θ ρ h H → va_S (gA Θ) (gH Θ) s.heap [] → va_S (gA Θ) s.heap H locs → cells + mc ≤ R.cells → slots + ms ≤ R.slots → lv_has la (mX M) (trl Θ ρ ls) → (∀ q ∈ ls, vok h q.2) → H[q]? = some ce → ce.vm = .none → s.vm.findClass E = some ce.cls →
    vx_W p (gL Θ) e R s m args below meth c H locs cells slots (vx_MQ below (PoQ Θ ρ h Q) (PoX Θ ρ h Q) args s R.cells R.slots (gA Θ)) (F0 m pc la rest) q
theorem vx_Wmono {p : Program} {l : Launch} {e : Env} {R : Room} {s : State} {m : MethodId} {args : Array Value} {below : List Frame} {meth : Method} {c : Code} {H : Heap} {locs : List Loc} {cells slots : Nat} {Q1 Q2 : State → Prop} {g : JFrame} {q : Addr} (hq : ∀ t, Q1 t → Q2 t) (k : vx_W p l e R s m args below meth c H locs cells slots Q1 g q) : vx_W p l e R s m args below meth c H locs cells slots Q2 g q := fun T hT X => by
  obtain ⟨t, a, b⟩ := k T hT X
  exact ⟨t, a, hq t b⟩
section
variable {Θ : GC} {M : MD} {fr lc mc ms pc pc' : Nat} {ls : List (Nat × Vv)} {st : List Vv} {h : Hp} {Q : Ro → Hp → Prop}
theorem Exn.out {E : String} (hE : mE M = []) (hq : Q (.inr E) h) : Exn Θ M fr lc mc ms pc ls h E Q := by
  intro p e R s m args below meth c H locs cells slots ρ la q ce rest hF hR hS0 hS1 hc hs hl hlv hce hcv hcl
  refine vx_out (E := E) (ce := ce) (fun x hx => ?_) hF.2.2.2.2.2.1 hce hcv hcl (fun t ht hal => ⟨h, ρ, hq, Ext.rf ρ h, by rw [ht]; exact hR, by rw [ht]; exact hS1.nil⟩) hS1.2.2 (by omega) (by omega)
  rw [hF.2.2.2.2.2.2.1, hE] at hx
  cases hx
theorem Ev.after {p : Program} {e : Env} {R : Room} {s : State} {m : MethodId} {args a : Array Value} {below : List Frame} {meth : Method} {c : Code} {H : Heap} {locs : List Loc} {cells slots mc' ms' mc1 ms1 : Nat} {ρ : Rn} {la : Array Slot} {Qc : Ro → Hp → Prop} {st0 : List Value}
    (hr : vx_Run p (gL Θ) e R s m args below meth c H locs cells slots mc' ms' (F0 m pc la st0) (st.map (tr Θ ρ)) (PoQ Θ ρ h Qc a) (PoX Θ ρ h Qc) (gA Θ))
    (hF : Fr Θ M fr lc p R s m meth c) (hS0 : va_S (gA Θ) (gH Θ) s.heap []) (hS1 : va_S (gA Θ) s.heap H locs) (hc : cells + mc' + mc1 ≤ R.cells) (hs : slots + ms' + ms1 ≤ R.slots) (hl : lv_has la (mX M) (trl Θ ρ ls)) (hlv : ∀ q ∈ ls, vok h q.2) (hst : ∀ v ∈ st, vok h v)
    (k1 : ∀ r h', Qc (.inl r) h' → Ev Θ M fr lc mc1 ms1 (pc + 3) ls (r.toList ++ st) h' Q) (k2 : ∀ E h', Qc (.inr E) h' → Exn Θ M fr lc mc1 ms1 pc ls h' E Q) :
    W p (gL Θ) e R s m args below meth c H locs cells slots (vx_MQ below (PoQ Θ ρ h Q) (PoX Θ ρ h Q) args s R.cells R.slots (gA Θ)) (F0 m pc la st0) := by
  intro T hT X
  have keep : ∀ {st₀ t T' : State} {L : List Loc}, st₀.heap = H → T'.heap = t.heap → va_S (gA Θ) st₀.heap t.heap [] → (∀ q ∈ L, gA Θ q.base) → va_S (gA Θ) s.heap T'.heap (locs ++ L) := fun h0 e1 hz hL => by
    rw [h0] at hz
    rw [e1]
    refine ⟨Nat.le_trans hS1.1 hz.1, fun q q1 q2 => (hz.2.1 q (Nat.lt_of_lt_of_le q1 hS1.1) q2).trans (hS1.2.1 q q1 q2), fun z hz2 => ?_⟩
    rcases List.mem_append.mp hz2 with y | y
    · exact hS1.2.2 z y
    · exact hL z y
  rcases hr T hT X with ⟨v, st₀, t, T', L, h0, X', hL, e1, e2, hq, stp⟩ | ⟨q, st₀, t, T', L, E, ce, h0, X', hL, e1, e2, hx, hce, hcv, hcl, stp⟩
  · obtain ⟨r, h', ρ', ho, hqc, hext, hok, hrel, hz⟩ := hq
    cases ho
    have hS1' := keep h0 e1 hz hL
    have kw := Ev.fin hext (k1 r h' hqc p e R s m args below meth c T'.heap (locs ++ L) (cells + mc') (slots + ms') ρ' la hF (by rw [e1]; exact hrel) hS0 hS1' hc hs (by rw [trl_ext hext.1 hlv]; exact hl) (fun z hz => vok_ext hext (hlv z hz)) (fun w hw => by
      rcases List.mem_append.mp hw with y | y
      · exact hok w (by simpa using y)
      · exact vok_ext hext (hst w y)))
    rw [List.map_append, trm_ext hext.1 hst] at kw
    have e9 : r.toList.map (tr Θ ρ') = (r.map (tr Θ ρ')).toList := by cases r <;> rfl
    rw [e9] at kw
    obtain ⟨t2, a1, b1⟩ := kw T' rfl X'
    exact ⟨t2, stp t2 a1, b1⟩
  · obtain ⟨h', ρ', hqc, hext, hrel, hz⟩ := hx
    have hS1' := keep h0 e1 hz hL
    obtain ⟨t2, a1, b1⟩ := vx_Wmono (fun t z => vx_MQ_mono (fun o y => PoQ.ext hext y) (fun E y => PoX.ext hext y) z) (k2 E h' hqc p e R s m args below meth c T'.heap (locs ++ L) (cells + mc') (slots + ms') ρ' la q ce (st.map (tr Θ ρ)) hF (by rw [e1]; exact hrel) hS0 hS1' hc hs (by rw [trl_ext hext.1 hlv]; exact hl) (fun z hz => vok_ext hext (hlv z hz)) (by rw [e1]; exact hce) hcv hcl) T' rfl X'
    exact ⟨t2, stp.trans a1, b1⟩
/-- what a call site rests on: virtual -/
def VOK (own : String) (ix : Nat) (N : MD) (C : String) (n : Nat) : Prop := mE N = [] ∧ (∀ w ∈ wsV own ix C (mY N) [mW N], w ∈ GW) ∧ (mY N).cls = C ∧ (mY N).cls ≠ "java/lang/invoke/MethodHandle" ∧ (mY N).cls ≠ "java/lang/invoke/VarHandle" ∧ (parseMethodDescriptor (mY N).desc).map (fun d => d.parameters.length) = some n
def SOK (own : String) (ix : Nat) (N : MD) (n : Nat) : Prop := mE N = [] ∧ (∀ w ∈ va_wsS own ix (mY N) [mW N], w ∈ GW) ∧ (mY N).cls ≠ "java/lang/invoke/MethodHandle" ∧ (mY N).cls ≠ "java/lang/invoke/VarHandle" ∧ (parseMethodDescriptor (mY N).desc).map (fun d => d.parameters.length) = some n
theorem VOK.mk {own : String} {ix : Nat} {N : MD} {C : String} {n : Nat} (h : mE N = []) (a1 : Cond.methodLink own ix (mY N) ∈ GW) (a2 : Cond.instanceMethod (mY N) ∈ GW) (a3 : Cond.selects C (mY N) (mY N) ∈ GW) (a4 : Cond.initialized C ∈ GW) (a5 : Cond.code (mY N) (mB N) (mX N) (mR N) ∈ GW) (c : (mY N).cls = C) (n1 : (mY N).cls ≠ "java/lang/invoke/MethodHandle" ∧ (mY N).cls ≠ "java/lang/invoke/VarHandle") (n3 : (parseMethodDescriptor (mY N).desc).map (fun d => d.parameters.length) = some n) : VOK own ix N C n :=
  ⟨h, by unfold wsV mW; rw [if_pos h]; exact List.forall_mem_cons.mpr ⟨a1, List.forall_mem_cons.mpr ⟨a2, List.forall_mem_cons.mpr ⟨a3, List.forall_mem_cons.mpr ⟨a4, List.forall_mem_cons.mpr ⟨a5, fun _ q => nomatch q⟩⟩⟩⟩⟩, c, n1.1, n1.2, n3⟩
theorem SOK.mk {own : String} {ix : Nat} {N : MD} {n : Nat} (h : mE N = []) (a1 : Cond.methodLink own ix (mY N) ∈ GW) (a2 : Cond.static (mY N) ∈ GW) (a4 : Cond.initialized (mY N).cls ∈ GW) (a5 : Cond.code (mY N) (mB N) (mX N) (mR N) ∈ GW) (n1 : (mY N).cls ≠ "java/lang/invoke/MethodHandle" ∧ (mY N).cls ≠ "java/lang/invoke/VarHandle") (n3 : (parseMethodDescriptor (mY N).desc).map (fun d => d.parameters.length) = some n) : SOK own ix N n :=
  ⟨h, by unfold va_wsS mW; rw [if_pos h]; exact List.forall_mem_cons.mpr ⟨a1, List.forall_mem_cons.mpr ⟨a2, List.forall_mem_cons.mpr ⟨a4, List.forall_mem_cons.mpr ⟨a5, fun _ q => nomatch q⟩⟩⟩⟩, n1.1, n1.2, n3⟩
theorem good_of {ws : List Cond} (h : ∀ w ∈ ws, w ∈ GW) : GoodIn GW ws := fun w hw => ⟨h w hw, good_of_word (List.mem_filter.mp (h w hw)).2⟩
theorem mW0 {N : MD} (h : mE N = []) : mW N = Cond.code (mY N) (mB N) (mX N) (mR N) := by unfold mW; rw [if_pos h]
theorem fixed {p : Program} {R : Room} {s : State} {m : MethodId} {meth : Method} {c : Code} {args : Array Value} (hF : Fr Θ M fr lc p R s m meth c) : CallFix p m c (mB M) (mX M) s args GW (mO M) := ⟨hF.1, hF.2.1, hF.2.2.2.1, hF.2.2.2.2.1, hts hF⟩
theorem recvR {s : State} {H : Heap} {ρ : Rn} {C j : Nat} {Cn : String} {T : u_T} {N : Nat} (hc : vwCl[C]? = some (Cn, T, N)) (h9 : C < 9) (hCx : Cx Θ s) (hR : Rel Θ ρ h H) (hj : hC h C j) : ∃ cell : Cell, H[ρ C j]? = some cell ∧ cell.vm.isStatics = false ∧ s.vm.findClass Cn = some cell.cls := by
  obtain ⟨ws, pos, hP, hD, hE, hJ, hw⟩ := hR
  have he := hE C j hj
  rw [ent_obj h9] at he
  exact va_recv hCx.1 hP hc he
theorem Ev.callV {N : MD} {ix C j n fr' lc' mc' ms' mc1 ms1 : Nat} {Cn : String} {T : u_T} {nf : Nat} {as st0 : List Vv} {Qc : Ro → Hp → Prop} (f : VOK (mO M) ix N Cn n) (hc0 : vwCl[C]? = some (Cn, T, nf)) (h9 : C < 9) (hst0 : st0 = as.reverse ++ vr C (j + 1) :: st) (hn : as.length = n) (hM : Cal Θ N fr' lc' mc' ms' (vr C (j + 1) :: as) h Qc)
    (hfr : fr' + 1 ≤ fr) (hlc : 8 + (mX N + 11) + lc' ≤ lc) (hmc : mc' + mc1 ≤ mc) (hms : ms' + ms1 ≤ ms) (hcs : csum st ≤ 8) (d : Dq (mB M) pc (.invokevirtual ix) 3 pc')
    (k1 : ∀ r h', Qc (.inl r) h' → Ev Θ M fr lc mc1 ms1 pc' ls (r.toList ++ st) h' Q) (k2 : ∀ E h', Qc (.inr E) h' → Exn Θ M fr lc mc1 ms1 pc ls h' E Q) : Ev Θ M fr lc mc ms pc ls st0 h Q := by
  intro p e R s m args below meth c H locs cells slots ρ la hF hR hS0 hS1 hc hs hl hlv hst
  obtain ⟨d, rfl⟩ := d
  obtain ⟨f1, f2, f3, f4, f5, f6⟩ := f
  have hCx := hF.2.2.2.2.2.2.2.2.1
  have hfR := hF.2.2.2.2.2.2.2.2.2.1
  have hlR := hF.2.2.2.2.2.2.2.2.2.2
  have hav : ∀ v ∈ vr C (j + 1) :: as, vok h v := fun v hv => hst v (by
    rw [hst0]
    rcases List.mem_cons.mp hv with y | y
    · rw [y]; exact List.mem_append_right _ List.mem_cons_self
    · exact List.mem_append_left _ (List.mem_reverse.mpr y))
  have hst1 : ∀ v ∈ st, vok h v := fun v hv => hst v (by rw [hst0]; exact List.mem_append_right _ (List.mem_cons_of_mem _ hv))
  have hj : hC h C j := vok_lt (nS9 h9) (hav _ List.mem_cons_self)
  have e1 : (vr C (j + 1) :: as).map (tr Θ ρ) = .ref (ρ C j) :: as.map (tr Θ ρ) := by rw [List.map_cons, tr_r (nS9 h9)]
  have hm := hM ρ hav
  rw [e1] at hm
  have hG := good_of f2
  rw [mW0 f1] at hm hG
  refine Ev.after (mc' := mc') (ms' := ms') (st := st) (vx_runV (rest := st.map (tr Θ ρ)) (As := as.map (tr Θ ρ)) (fixed hF) hm (cwV n (hts hF) hG rfl rfl rfl ⟨f3, f4, f5, f6⟩ ⟨by rw [hfR]; exact hfr, by rw [hlR]; exact hlc⟩) ⟨blindI, recvR hc0 h9 hCx hR hj, fun U hU hW => preI hCx hR hS0 hS1 hU hW⟩ rfl (by rw [List.length_map]; exact hn) hl.1 ?_ (lv_room (by rw [csum_tr]; exact hcs)) d ⟨by omega, by omega⟩) hF hS0 hS1 (by omega) (by omega) hl hlv hst1 k1 k2
  show st0.map (tr Θ ρ) = _
  rw [hst0, List.map_append, List.map_cons, List.map_reverse, tr_r (nS9 h9)]
theorem Ev.callS {N : MD} {ix n fr' lc' mc' ms' mc1 ms1 : Nat} {as st0 : List Vv} {Qc : Ro → Hp → Prop} (f : SOK (mO M) ix N n) (hst0 : st0 = as.reverse ++ st) (hn : as.length = n) (hM : Cal Θ N fr' lc' mc' ms' as h Qc)
    (hfr : fr' + 1 ≤ fr) (hlc : 8 + (mX N + 11) + lc' ≤ lc) (hmc : mc' + mc1 ≤ mc) (hms : ms' + ms1 ≤ ms) (hcs : csum st ≤ 8) (d : Dq (mB M) pc (.invokestatic ix) 3 pc')
    (k1 : ∀ r h', Qc (.inl r) h' → Ev Θ M fr lc mc1 ms1 pc' ls (r.toList ++ st) h' Q) (k2 : ∀ E h', Qc (.inr E) h' → Exn Θ M fr lc mc1 ms1 pc ls h' E Q) : Ev Θ M fr lc mc ms pc ls st0 h Q := by
  intro p e R s m args below meth c H locs cells slots ρ la hF hR hS0 hS1 hc hs hl hlv hst
  obtain ⟨d, rfl⟩ := d
  obtain ⟨f1, f2, f4, f5, f6⟩ := f
  have hCx := hF.2.2.2.2.2.2.2.2.1
  have hfR := hF.2.2.2.2.2.2.2.2.2.1
  have hlR := hF.2.2.2.2.2.2.2.2.2.2
  have hav : ∀ v ∈ as, vok h v := fun v hv => hst v (by rw [hst0]; exact List.mem_append_left _ (List.mem_reverse.mpr hv))
  have hst1 : ∀ v ∈ st, vok h v := fun v hv => hst v (by rw [hst0]; exact List.mem_append_right _ hv)
  have hm := hM ρ hav
  have hG := good_of f2
  rw [mW0 f1] at hm hG
  refine Ev.after (mc' := mc') (ms' := ms') (st := st) (vx_runS (rest := st.map (tr Θ ρ)) (As := as.map (tr Θ ρ)) (fixed hF) hm (va_cwS n (hts hF) hG rfl rfl rfl ⟨f4, f5, f6⟩ ⟨by rw [hfR]; exact hfr, by rw [hlR]; exact hlc⟩) ⟨blindI, fun U hU hW => preI hCx hR hS0 hS1 hU hW⟩ rfl (by rw [List.length_map]; exact hn) hl.1 ?_ (lv_room (by rw [csum_tr]; exact hcs)) d ⟨by omega, by omega⟩) hF hS0 hS1 (by omega) (by omega) hl hlv hst1 k1 k2
  show st0.map (tr Θ ρ) = _
  rw [hst0, List.map_append, List.map_reverse]
theorem Cal.met {N : MD} {fr' lc' mc' ms' : Nat} {as : List Vv} {Qc : Ro → Hp → Prop} (hM : Cal Θ N fr' lc' mc' ms' as h Qc) (hne : ∀ E h', ¬ Qc (.inr E) h') (ρ : Rn) (hav : ∀ v ∈ as, vok h v) : Met (gL Θ) (mY N) [mW N] { frames := fr', cells := mc', slots := ms', locals := lc' } (va_Pc (as.map (tr Θ ρ)) (PoI Θ ρ h)) (PoQ Θ ρ h Qc) mc' ms' (gA Θ) := by
  refine MetFree.mono (hM ρ hav) (fun _ _ q => q) (fun _ _ _ _ _ q => q) (fun a s o t _ q => ?_)
  rcases q with q | ⟨z, -, E, ce, L, ⟨h', ρ', hq, -⟩, -⟩
  · exact q
  · exact absurd hq (hne E h')
theorem runX {p : Program} {l : Launch} {e : Env} {R : Room} {s : State} {m : MethodId} {args : Array Value} {below : List Frame} {meth : Method} {c : Code} {H : Heap} {locs : List Loc} {cells slots mc ms : Nat} {g : JFrame} {rest : List Value} {Qa : State → Outcome → State → Prop} {XC : String → State → State → Prop} {free : Addr → Prop} (k : va_Run p l e R s m args below meth c H locs cells slots mc ms g rest Qa free) : vx_Run p l e R s m args below meth c H locs cells slots mc ms g rest Qa XC free := fun T hT X => Or.inl (k T hT X)
/-- a static method of a nest mate -/
def NOK (own host : String) (ix : Nat) (N : MD) (n : Nat) : Prop := mE N = [] ∧ (∀ w ∈ [mW N, .static (mY N), .initialized (mY N).cls], w ∈ GW) ∧ Cond.methodLinkNest own ix (mY N) host ∈ lw_tbl ∧ (mY N).cls ≠ "java/lang/invoke/MethodHandle" ∧ (mY N).cls ≠ "java/lang/invoke/VarHandle" ∧ (parseMethodDescriptor (mY N).desc).map (fun d => d.parameters.length) = some n
theorem NOK.mk {own host : String} {ix : Nat} {N : MD} {n : Nat} (h : mE N = []) (a1 : Cond.methodLinkNest own ix (mY N) host ∈ lw_tbl) (a2 : Cond.static (mY N) ∈ GW) (a4 : Cond.initialized (mY N).cls ∈ GW) (a5 : Cond.code (mY N) (mB N) (mX N) (mR N) ∈ GW) (n1 : (mY N).cls ≠ "java/lang/invoke/MethodHandle" ∧ (mY N).cls ≠ "java/lang/invoke/VarHandle") (n3 : (parseMethodDescriptor (mY N).desc).map (fun d => d.parameters.length) = some n) : NOK own host ix N n :=
  ⟨h, by unfold mW; rw [if_pos h]; exact List.forall_mem_cons.mpr ⟨a5, List.forall_mem_cons.mpr ⟨a2, List.forall_mem_cons.mpr ⟨a4, fun _ q => nomatch q⟩⟩⟩, a1, n1.1, n1.2, n3⟩
theorem Ev.callSN {N : MD} {ix n fr' lc' mc' ms' mc1 ms1 : Nat} {host : String} {as st0 : List Vv} {Qc : Ro → Hp → Prop} (f : NOK (mO M) host ix N n) (hst0 : st0 = as.reverse ++ st) (hn : as.length = n) (hM : Cal Θ N fr' lc' mc' ms' as h Qc) (hne : ∀ E h', ¬ Qc (.inr E) h')
    (hfr : fr' + 1 ≤ fr) (hlc : 8 + (mX N + 11) + lc' ≤ lc) (hmc : mc' + mc1 ≤ mc) (hms : ms' + ms1 ≤ ms) (hcs : csum st ≤ 8) (d : Dq (mB M) pc (.invokestatic ix) 3 pc')
    (k1 : ∀ r h', Qc (.inl r) h' → Ev Θ M fr lc mc1 ms1 pc' ls (r.toList ++ st) h' Q) : Ev Θ M fr lc mc ms pc ls st0 h Q := by
  intro p e R s m args below meth c H locs cells slots ρ la hF hR hS0 hS1 hc hs hl hlv hst
  obtain ⟨d, rfl⟩ := d
  obtain ⟨f1, f2, f3, f4, f5, f6⟩ := f
  have hCx := hF.2.2.2.2.2.2.2.2.1
  have hfR := hF.2.2.2.2.2.2.2.2.2.1
  have hlR := hF.2.2.2.2.2.2.2.2.2.2
  have hav : ∀ v ∈ as, vok h v := fun v hv => hst v (by rw [hst0]; exact List.mem_append_left _ (List.mem_reverse.mpr hv))
  have hst1 : ∀ v ∈ st, vok h v := fun v hv => hst v (by rw [hst0]; exact List.mem_append_right _ hv)
  have hm := hM.met hne ρ hav
  rw [mW0 f1] at hm f2
  have hG : GoodIn GW [Cond.code (mY N) (mB N) (mX N) (mR N)] := good_of (fun w hw => f2 w (by rw [List.mem_singleton.mp hw]; exact List.mem_cons_self))
  refine Ev.after (mc' := mc') (ms' := ms') (st := st) (runX (va_runSN (host := host) (rest := st.map (tr Θ ρ)) (As := as.map (tr Θ ρ)) (fixed hF) hm ⟨va_cnB n (hts hF) hG rfl rfl rfl (hCx.2.2.2.1 _ _ _ _ f3) (gwB hF (f2 _ (List.mem_cons_of_mem _ (List.mem_cons_of_mem _ List.mem_cons_self)))) ⟨f4, f5, f6⟩ ⟨by rw [hfR]; exact hfr, by rw [hlR]; exact hlc⟩, gwB hF (f2 _ (List.mem_cons_of_mem _ List.mem_cons_self)), trivial⟩ ⟨blindI, fun U hU hW => preI hCx hR hS0 hS1 hU hW⟩ rfl (by rw [List.length_map]; exact hn) hl.1 ?_ (lv_room (by rw [csum_tr]; exact hcs)) d ⟨by omega, by omega⟩)) hF hS0 hS1 (by omega) (by omega) hl hlv hst1 k1 (fun E h' q => absurd q (hne E h'))
  show st0.map (tr Θ ρ) = _
  rw [hst0, List.map_append, List.map_reverse]
/-- a constructor; host: of a nest mate, or none -/
def IOK (own : String) (host : Option String) (ix : Nat) (N : MD) (n : Nat) : Prop := mE N = [] ∧ mR N = none ∧ (mY N).name = "<init>" ∧ (∀ w ∈ [mW N, .instanceMethod (mY N), .initialized (mY N).cls], w ∈ GW) ∧ (match host with | some ho => Cond.methodLinkNest own ix (mY N) ho ∈ lw_tbl | none => Cond.methodLink own ix (mY N) ∈ GW) ∧ (mY N).cls ≠ "java/lang/invoke/MethodHandle" ∧ (mY N).cls ≠ "java/lang/invoke/VarHandle" ∧ (parseMethodDescriptor (mY N).desc).map (fun d => d.parameters.length) = some n
theorem IOK.mk {own : String} {host : Option String} {ix : Nat} {N : MD} {n : Nat} (h : mE N = []) (hr : mR N = none) (hi : (mY N).name = "<init>") (a1 : match host with | some ho => Cond.methodLinkNest own ix (mY N) ho ∈ lw_tbl | none => Cond.methodLink own ix (mY N) ∈ GW) (a2 : Cond.instanceMethod (mY N) ∈ GW) (a4 : Cond.initialized (mY N).cls ∈ GW) (a5 : Cond.code (mY N) (mB N) (mX N) (mR N) ∈ GW) (n1 : (mY N).cls ≠ "java/lang/invoke/MethodHandle" ∧ (mY N).cls ≠ "java/lang/invoke/VarHandle") (n3 : (parseMethodDescriptor (mY N).desc).map (fun d => d.parameters.length) = some n) : IOK own host ix N n :=
  ⟨h, hr, hi, by unfold mW; rw [if_pos h]; exact List.forall_mem_cons.mpr ⟨a5, List.forall_mem_cons.mpr ⟨a2, List.forall_mem_cons.mpr ⟨a4, fun _ q => nomatch q⟩⟩⟩, a1, n1.1, n1.2, n3⟩
theorem Ev.callI {N : MD} {ix C j n fr' lc' mc' ms' mc1 ms1 : Nat} {host : Option String} {as st0 : List Vv} {Qc : Ro → Hp → Prop} (f : IOK (mO M) host ix N n) (h9 : C < 9) (hst0 : st0 = as.reverse ++ vr C (j + 1) :: st) (hn : as.length = n) (hM : Cal Θ N fr' lc' mc' ms' (vr C (j + 1) :: as) h Qc) (hne : ∀ E h', ¬ Qc (.inr E) h')
    (hfr : fr' + 1 ≤ fr) (hlc : 8 + (mX N + 11) + lc' ≤ lc) (hmc : mc' + mc1 ≤ mc) (hms : ms' + ms1 ≤ ms) (hcs : csum st ≤ 8) (d : Dq (mB M) pc (.invokespecial ix) 3 pc')
    (k1 : ∀ r h', Qc (.inl r) h' → Ev Θ M fr lc mc1 ms1 pc' ls (r.toList ++ st) h' Q) : Ev Θ M fr lc mc ms pc ls st0 h Q := by
  intro p e R s m args below meth c H locs cells slots ρ la hF hR hS0 hS1 hc hs hl hlv hst
  obtain ⟨d, rfl⟩ := d
  obtain ⟨f1, f0, fi, f2, f3, f4, f5, f6⟩ := f
  have hCx := hF.2.2.2.2.2.2.2.2.1
  have hfR := hF.2.2.2.2.2.2.2.2.2.1
  have hlR := hF.2.2.2.2.2.2.2.2.2.2
  have hav : ∀ v ∈ vr C (j + 1) :: as, vok h v := fun v hv => hst v (by
    rw [hst0]
    rcases List.mem_cons.mp hv with y | y
    · rw [y]; exact List.mem_append_right _ List.mem_cons_self
    · exact List.mem_append_left _ (List.mem_reverse.mpr y))
  have hst1 : ∀ v ∈ st, vok h v := fun v hv => hst v (by rw [hst0]; exact List.mem_append_right _ (List.mem_cons_of_mem _ hv))
  have e1 : (vr C (j + 1) :: as).map (tr Θ ρ) = .ref (ρ C j) :: as.map (tr Θ ρ) := by rw [List.map_cons, tr_r (nS9 h9)]
  have hm := hM.met hne ρ hav
  rw [e1] at hm
  rw [mW0 f1, f0] at hm f2
  have hG : GoodIn GW [Cond.code (mY N) (mB N) (mX N) none] := good_of (fun w hw => f2 w (by rw [List.mem_singleton.mp hw]; exact List.mem_cons_self))
  have hin := gwB (args := args) hF (f2 _ (List.mem_cons_of_mem _ List.mem_cons_self))
  have hini := gwB (args := args) hF (f2 _ (List.mem_cons_of_mem _ (List.mem_cons_of_mem _ List.mem_cons_self)))
  have e2 : st0.map (tr Θ ρ) = (as.map (tr Θ ρ)).reverse ++ .ref (ρ C j) :: st.map (tr Θ ρ) := by
    rw [hst0, List.map_append, List.map_cons, List.map_reverse, tr_r (nS9 h9)]
  have hrm : (fr' + 1 ≤ R.frames ∧ 8 + (mX N + 11) + lc' ≤ R.locals) := ⟨by rw [hfR]; exact hfr, by rw [hlR]; exact hlc⟩
  cases host with
  | some ho => exact Ev.after (mc' := mc') (ms' := ms') (st := st) (runX (va_runIN (host := ho) (rest := st.map (tr Θ ρ)) (As := as.map (tr Θ ρ)) (fixed hF) hm ⟨va_cnB n (hts hF) hG rfl rfl rfl (hCx.2.2.2.1 _ _ _ _ f3) hini ⟨f4, f5, f6⟩ hrm, fi, hin⟩ ⟨blindI, fun U hU hW => preI hCx hR hS0 hS1 hU hW⟩ rfl (by rw [List.length_map]; exact hn) hl.1 e2 (lv_room (by rw [csum_tr]; exact hcs)) d ⟨by omega, by omega⟩)) hF hS0 hS1 (by omega) (by omega) hl hlv hst1 k1 (fun E h' q => absurd q (hne E h'))
  | none => exact Ev.after (mc' := mc') (ms' := ms') (st := st) (runX (va_runI (rest := st.map (tr Θ ρ)) (As := as.map (tr Θ ρ)) (fixed hF) hm (cwI n (hts hF) hG rfl rfl rfl hini (gwB hF f3) hin fi ⟨f4, f5, f6⟩ hrm) ⟨blindI, fun U hU hW => preI hCx hR hS0 hS1 hU hW⟩ rfl (by rw [List.length_map]; exact hn) hl.1 e2 (lv_room (by rw [csum_tr]; exact hcs)) d ⟨by omega, by omega⟩)) hF hS0 hS1 (by omega) (by omega) hl hlv hst1 k1 (fun E h' q => absurd q (hne E h'))
/-- Object's constructor -/
theorem Ev.objInit {ix C j : Nat} (w1 : Cond.methodLink (mO M) ix objectInit ∈ GW) (w2 : Cond.instanceMethod objectInit ∈ GW) (w3 : Cond.code objectInit ⟨#[0xb1]⟩ 1 none ∈ GW) (h9 : C < 9) (hfr : 1 ≤ fr) (hlc : csum st + 12 ≤ lc) (d : Dq (mB M) pc (.invokespecial ix) 3 pc') (k : Ev Θ M fr lc mc ms pc' ls st h Q) : Ev Θ M fr lc mc ms pc ls (vr C (j + 1) :: st) h Q := by
  intro p e R s m args below meth c H locs cells slots ρ la hF hR hS0 hS1 hc hs hl hlv hst
  obtain ⟨d, rfl⟩ := d
  have hfR := hF.2.2.2.2.2.2.2.2.2.1
  have hlR := hF.2.2.2.2.2.2.2.2.2.2
  have kw := k p e R s m args below meth c H locs cells slots ρ la hF hR hS0 hS1 hc hs hl hlv (vok1 hst).2
  rw [List.map_cons, tr_r (nS9 h9)]
  refine W.objInit hF.1 hF.2.1 hF.2.2.2.2.1 (gwB hF w1) (gwB hF w2) (gwB hF w3) rfl (by rw [hF.2.2.2.1]; exact hl.1) rfl d (by rw [hfR]; exact hfr) ?_ kw
  rw [csum_tr, hlR]
  show 2 * 0 + _ + 12 ≤ lc
  omega
/-- a throw -/
def vx_ok (w : Cond) : Bool := goodWord w || match w with
  | .declares _ => true
  | .castable a b => a == b
  | _ => false
def EOK (own : String) (ik ic : Nat) (E : String) (names : List String) : Prop := Bundle.fit E = true ∧ (∀ n ∈ names, Bundle.fit n = true) ∧ Cond.classLink own ik E ∈ GW ∧ Cond.initialized E ∈ GW ∧ (∀ w ∈ vx_atS own ic E names, w ∈ lw_tbl ∧ vx_ok w = true)
theorem vx_ok_ot {w : Cond} (h : vx_ok w = true) : vx_ot w = true := by
  unfold vx_ok at h
  rw [Bool.or_eq_true] at h
  rcases h with h | h
  · unfold vx_ot; rw [h, Bool.or_true]
  · cases w <;> first | rfl | cases h
theorem vx_ok_at {p : Program} {R : Room} {s : State} {m : MethodId} {meth : Method} {c : Code} {args : Array Value} {w : Cond} (hF : Fr Θ M fr lc p R s m meth c) (hm : w ∈ lw_tbl) (h : vx_ok w = true) : w.before args s = true := by
  unfold vx_ok at h
  rw [Bool.or_eq_true] at h
  rcases h with h | h
  · exact gwB hF (List.mem_filter.mpr ⟨hm, h⟩)
  · have hCx := hF.2.2.2.2.2.2.2.2.1
    cases w <;> first | cases h | skip
    · exact va_Nw.use rfl (hCx.2.2.2.2.2.2.2.2.2.2.2.2.2.2.2.2.2.2 _ hm)
    · have e := beq_iff_eq.mp h
      subst e
      exact va_Nw.use rfl (hCx.2.2.2.2.2.2.2.2.2.2.2.1 _ hm)
theorem XC_mk {ρ : Rn} {H : Heap} {s : State} {locs : List Loc} {E : String} (hR : Rel Θ ρ h H) (hS1 : va_S (gA Θ) s.heap H locs) (hq : Q (.inr E) h) : ∀ t : State, s.vm.Alike t.vm → H.size ≤ t.heap.size → (∀ q : Nat, q < H.size → t.heap[q]? = H[q]?) → PoX Θ ρ h Q E s t := fun t _ hz hk => by
  refine ⟨h, ρ, hq, Ext.rf ρ h, ?_, ⟨Nat.le_trans hS1.1 hz, fun q q1 q2 => (hk q (Nat.lt_of_lt_of_le q1 hS1.1)).trans (hS1.2.1 q q1 q2), fun z hz => by cases hz⟩⟩
  obtain ⟨ws, pos, hP, hD, hE, hJ, hw⟩ := hR
  exact ⟨ws, pos, hP.kept (fun k q hkq => hk q.1 (hP k q hkq).lt), hD, hE, hJ, hw⟩
theorem zq_keep {s : State} {C n d : String} (hz : vx_Zq C n d (gA Θ) s (gH Θ)) (hS0 : va_S (gA Θ) (gH Θ) s.heap []) : vx_Zq C n d (gA Θ) s s.heap := hz.kept hS0.2.1
theorem Ev.throwS {ik is ic : Nat} {E text : String} {names : List String} (f : EOK (mO M) ik ic E names) (f5 : Cond.stringRef (mO M) is text ∈ lw_tbl) (hE : mE M = []) (d0 : decode (mB M) pc = .ok (.new ik, 3)) (d3 : decode (mB M) (pc + 3) = .ok (.dup, 1)) (d4 : decode (mB M) (pc + 4) = .ok (.ldc is, 2)) (d6 : decode (mB M) (pc + 6) = .ok (.invokespecial ic, 3)) (d9 : decode (mB M) (pc + 9) = .ok (.athrow, 1))
    (hfr : names.length + 3 < fr) (hlc : csum st + (13 * (names.length + 1) + 43) ≤ lc) (hmc : 1 ≤ mc) (hms : 6 ≤ ms) (hq : Q (.inr E) h) : Ev Θ M fr lc mc ms pc ls st h Q := by
  intro p e R s m args below meth c H locs cells slots ρ la hF hR hS0 hS1 hc hs hl hlv hst
  obtain ⟨f1, f2, f3, f4, f6⟩ := f
  have hCx := hF.2.2.2.2.2.2.2.2.1
  have hfR := hF.2.2.2.2.2.2.2.2.2.1
  have hlR := hF.2.2.2.2.2.2.2.2.2.2
  obtain ⟨sa, hsa⟩ := hCx.2.2.2.2.2.2.2.2.2.2.2.2.2.1 _ _ _ f5
  exact vx_throwS (A := gA Θ) hF.1 hF.2.1 hCx.2.2.1 hF.2.2.2.2.1 f1 f2 (gwB hF f3) (gwB hF f4) hsa (fun w hw => vx_ok_at hF (f6 w hw).1 (f6 w hw).2) (fun w hw => by
    rcases List.mem_cons.mp hw with e | hw
    · rw [e]; rfl
    · rcases List.mem_cons.mp hw with e | hw
      · rw [e]; rfl
      · exact vx_ok_ot (f6 w hw).2) (zq_keep hCx.2.2.2.2.2.2.2.2.2.1 hS0) (zq_keep hCx.2.2.2.2.2.2.2.2.2.2.1 hS0) hS1 (by rw [hF.2.2.2.1]; exact hl.1) d0 d3 d4 d6 d9
    (fun x hx => by rw [hF.2.2.2.2.2.2.1, hE] at hx; cases hx) (by rw [hfR]; exact hfr) (by rw [csum_tr, hlR]; exact hlc) (by omega) (by omega) hF.2.2.2.2.2.1 (XC_mk hR hS1 hq) hS1.2.2 (by omega) (by omega)
theorem Ev.throwSW {ik is ic : Nat} {E text : String} {names : List String} (f : EOK (mO M) ik ic E names) (f5 : Cond.stringRef (mO M) is text ∈ lw_tbl) (hE : mE M = []) (d0 : decode (mB M) pc = .ok (.new ik, 3)) (d3 : decode (mB M) (pc + 3) = .ok (.dup, 1)) (d4 : decode (mB M) (pc + 4) = .ok (.ldc_w is, 3)) (d7 : decode (mB M) (pc + 7) = .ok (.invokespecial ic, 3)) (d10 : decode (mB M) (pc + 10) = .ok (.athrow, 1))
    (hfr : names.length + 3 < fr) (hlc : csum st + (13 * (names.length + 1) + 43) ≤ lc) (hmc : 1 ≤ mc) (hms : 6 ≤ ms) (hq : Q (.inr E) h) : Ev Θ M fr lc mc ms pc ls st h Q := by
  intro p e R s m args below meth c H locs cells slots ρ la hF hR hS0 hS1 hc hs hl hlv hst
  obtain ⟨f1, f2, f3, f4, f6⟩ := f
  have hCx := hF.2.2.2.2.2.2.2.2.1
  have hfR := hF.2.2.2.2.2.2.2.2.2.1
  have hlR := hF.2.2.2.2.2.2.2.2.2.2
  obtain ⟨sa, hsa⟩ := hCx.2.2.2.2.2.2.2.2.2.2.2.2.2.1 _ _ _ f5
  exact vx_throwSW (A := gA Θ) hF.1 hF.2.1 hCx.2.2.1 hF.2.2.2.2.1 f1 f2 (gwB hF f3) (gwB hF f4) hsa (fun w hw => vx_ok_at hF (f6 w hw).1 (f6 w hw).2) (fun w hw => by
    rcases List.mem_cons.mp hw with e | hw
    · rw [e]; rfl
    · rcases List.mem_cons.mp hw with e | hw
      · rw [e]; rfl
      · exact vx_ok_ot (f6 w hw).2) (zq_keep hCx.2.2.2.2.2.2.2.2.2.1 hS0) (zq_keep hCx.2.2.2.2.2.2.2.2.2.2.1 hS0) hS1 (by rw [hF.2.2.2.1]; exact hl.1) d0 d3 d4 d7 d10
    (fun x hx => by rw [hF.2.2.2.2.2.2.1, hE] at hx; cases hx) (by rw [hfR]; exact hfr) (by rw [csum_tr, hlR]; exact hlc) (by omega) (by omega) hF.2.2.2.2.2.1 (XC_mk hR hS1 hq) hS1.2.2 (by omega) (by omega)
end
/-- a method's contract out of its body's walk -/
def ags : Nat → List Vv → List (Nat × Vv)
  | _, [] => []
  | i, v :: vs => (i, v) :: ags (if isL v then i + 2 else i + 1) vs
theorem ags_tr {Θ : GC} {ρ : Rn} : ∀ (i : Nat) (av : List Vv), trl Θ ρ (ags i av) = lv_args i (av.map (tr Θ ρ))
  | _, [] => rfl
  | i, v :: vs => by
    unfold ags
    rw [List.map_cons]
    unfold lv_args
    show (i, tr Θ ρ v) :: trl Θ ρ (ags (if isL v = true then i + 2 else i + 1) vs) = _
    have e : (if (tr Θ ρ v).category = 2 then i + 2 else i + 1) = (if isL v = true then i + 2 else i + 1) := by
      rw [tr_c2]
      cases isL v <;> rfl
    rw [e, ags_tr _ vs]
theorem ags_mem : ∀ (i : Nat) (av : List Vv) (q : Nat × Vv), q ∈ ags i av → q.2 ∈ av
  | _, [], q, hq => by cases hq
  | i, v :: vs, q, hq => by
    unfold ags at hq
    rcases List.mem_cons.mp hq with e | e
    · rw [e]; exact List.mem_cons_self
    · exact List.mem_cons_of_mem _ (ags_mem _ vs q e)
theorem sl_len {Θ : GC} {ρ : Rn} : ∀ av : List Vv, (lg_sl (av.map (tr Θ ρ))).length = csum av
  | [] => rfl
  | v :: vs => by
    have ih := sl_len (Θ := Θ) (ρ := ρ) vs
    unfold lg_sl at ih ⊢
    unfold csum at ih ⊢
    rw [List.map_cons, List.flatMap_cons, List.length_append, ih, List.map_cons, List.sum_cons]
    congr 1
    rw [tr_c2]
    cases isL v <;> rfl
theorem Cal.of {Θ : GC} {M : MD} {fr lc mc ms : Nat} {av : List Vv} {h : Hp} {Q : Ro → Hp → Prop} (hp : plainName (mY M).cls = true) (hcl : (mY M).cls = mO M) (hE : mE M = []) (hcs : csum av ≤ mX M) (k : Ev Θ M fr lc mc ms 0 (ags 0 av) [] h Q) : Cal Θ M fr lc mc ms av h Q := by
  intro ρ hav
  rw [mW0 hE]
  refine vx_ofW (cc := mB M) (maxL := mX M) (ret := mR M) hp rfl ?_
  intro p e s m args below meth c s₁ B hml het hv
  obtain ⟨rfl, hCx, hR, hS⟩ := hv
  have hF : Fr Θ M fr lc p { frames := fr, cells := mc, slots := ms, locals := lc } s m meth c := ⟨B.exec, B.bytes, B.returns, hml, by rw [← hcl]; exact findClass_of_methodNamed B.named, B.notSynchronized, by rw [hE]; cases hx : c.exceptionTable.toList with | nil => rfl | cons a l => exact absurd (by rw [hx]; exact List.mem_cons_self) (het a), (name_of_methodNamed B.named B.method).1, hCx, rfl, rfl⟩
  have hl := lv_entry (av.map (tr Θ ρ)) (n := mX M) (by rw [sl_len]; exact hcs)
  rw [← ags_tr] at hl
  rw [lg_entry_eq]
  exact k p e _ s m _ below meth c s.heap [] 0 0 ρ _ hF hR hS va_S.rf (by show 0 + mc ≤ mc; omega) (by show 0 + ms ≤ ms; omega) hl (fun q hq => hav _ (ags_mem 0 av q hq)) (fun v hv => by cases hv)
