def nsS (own : String) (ic : Nat) (Y : String) (r : List String) : List Cond := (nsA own ic Y r).filter vx_no
set_option maxHeartbeats 2000000 in
theorem vx_throwNS {Qc : Array Value → State → Outcome → State → Prop} {XC : String → State → State → Prop} {free : Addr → Prop} {p : Program} {l : Launch} {e : Env} {R : Room} {s : State} {m : MethodId} {args : Array Value} {below : List Frame} {meth : Method} {c : Code} {H : Heap} {locs : List Loc} {cells slots : Nat} {ls : Array Slot} {rest : List Value}
    {cc : ByteArray} {pc : Nat} (hexec : p.tables.exec = Jvm.exec) (hb : c.code = cc) (hl : l.stackTraces = false) {own Y0 text : String} {names : List String} {ik is ic mc ms sa : Nat} {A : Nat → Prop}
    (hown : s.vm.findClass own = some m.cls) (hY0 : Bundle.fit Y0 = true) (hnames : ∀ n ∈ names, Bundle.fit n = true)
    (hk : (Cond.classLink own ik nsE).before args s = true) (hini : (Cond.initialized nsE).before args s = true) (hstr : vk_R own is text sa s) (hat : ∀ w ∈ nsS own ic Y0 names, w.before args s = true)
    (hgood : ∀ w ∈ Cond.classLink own ik nsE :: Cond.initialized nsE :: nsS own ic Y0 names, vx_ot w = true)
    (hU : vx_Zq Bundle.tN "UNASSIGNED_STACK" Bundle.steD A s s.heap) (hN : vx_Zq Bundle.tN "SUPPRESSED_SENTINEL" Bundle.listD A s s.heap) (hS : va_S A s.heap H locs) (hsize : ls.size = c.maxLocals)
    (d0 : decode cc pc = .ok (.new ik, 3)) (d3 : decode cc (pc + 3) = .ok (.dup, 1)) (d4 : decode cc (pc + 4) = .ok (.ldc_w is, 3)) (d7 : decode cc (pc + 7) = .ok (.invokespecial ic, 3)) (d10 : decode cc (pc + 10) = .ok (.athrow, 1))
    (hout : ∀ x ∈ c.exceptionTable.toList, covers x (pc + 10) = false)
    (hRframes : names.length + 4 < R.frames) (hRlocals : (rest.map fun v => v.category).sum + (13 * (names.length + 2) + 43) ≤ R.locals) (hRcells : cells + 1 ≤ R.cells) (hRslots : slots + 6 ≤ R.slots) (hlocks : meth.locks = false)
    (hx : ∀ t : State, s.vm.Alike t.vm → H.size ≤ t.heap.size → (∀ q : Nat, q < H.size → t.heap[q]? = H[q]?) → XC nsE s t)
    (hf : ∀ z ∈ locs, free z.base) (hc : cells + 1 ≤ mc) (hs : slots + 6 ≤ ms) :
    W p l e R s m args below meth c H locs cells slots (vx_MQ below Qc XC args s mc ms free) (F0 m pc ls rest) := by
  intro T hT X
  have htr : e.platform.stackTraces = false := (show e.platform.stackTraces = l.stackTraces by rw [X.admits.platform]).trans hl
  have Y := vx_rebase X (R' := { frames := R.frames, locals := R.locals, cells := 1, slots := 6 }) (Nat.le_refl _) (Nat.le_refl _) hRcells hRslots
  obtain ⟨s', hA⟩ : ∃ z, z = (T.setVm s.vm).setFrames (.invoking m args :: below) := ⟨_, rfl⟩
  rw [← hA] at Y
  have hvm : s'.vm = s.vm := by rw [hA]; rfl
  have hhp : s'.heap = H := by rw [hA]; exact hT
  have hW0 : s.WarmedH s'.vm := by rw [hvm]; exact State.WarmedH.refl s
  have hat' : ∀ w ∈ nsS own ic Y0 names, w.before args s' = true := fun w hw => vx_ot_at hW0 hvm.symm (hgood w (List.mem_cons_of_mem _ (List.mem_cons_of_mem _ hw))) (hat w hw)
  have hk' : (Cond.classLink own ik nsE).before args s' = true := vx_ot_at hW0 hvm.symm (hgood _ List.mem_cons_self) hk
  have hini' : (Cond.initialized nsE).before args s' = true := vx_ot_at hW0 hvm.symm (hgood _ (List.mem_cons_of_mem _ List.mem_cons_self)) hini
  have hU' : vx_Zq Bundle.tN "UNASSIGNED_STACK" Bundle.steD A s' s'.heap := by rw [hhp]; exact vx_Zq.moved hW0.alike (hU.kept hS.2.1)
  have hN' : vx_Zq Bundle.tN "SUPPRESSED_SENTINEL" Bundle.listD A s' s'.heap := by rw [hhp]; exact vx_Zq.moved hW0.alike (hN.kept hS.2.1)
  have h : ∀ w ∈ nsA own ic Y0 names, w.before args s' = true := vx_own hat' (vx_isRefq hU'.1) (vx_isRefq hN'.1) hU'.2.word hN'.2.word
  have hown' : s'.vm.findClass own = some m.cls := by rw [hvm]; exact hown
  have hins : (Cond.instantiable nsE 6).before args s' = true := h _ (by simp [nsA])
  obtain ⟨vm₁, cX, kX, hfX, hkX, -, -, X₁, st1⟩ := Y.newCold hexec (own := own) (C := nsE) (index := ik) (n := 6) hown' hk' hins hini'
    (g := F0 m pc ls rest) rfl (by rw [hb]; exact d0) (Nat.le_refl _) (Nat.le_refl _)
  generalize hT1 : (T.setVm vm₁).pushCell { cls := cX, slots := kX.instanceTypes.map defaultValue, vm := .none } = T1 at X₁ st1
  have hcat : (Value.ref T.heap.size).category = 1 := rfl
  have hcellA : T1.heap[T.heap.size]? = some (freshCell cX kX) := by rw [← hT1]; exact State.heap_pushCell_size _ _
  have d3' : decode c.code (pc + 3) = .ok (.dup, 1) := by rw [hb]; exact d3
  have d4' : decode c.code (pc + 4) = .ok (.ldc_w is, 3) := by rw [hb]; exact d4
  have hstr' : vk_R own is text sa s' := vk_R.warm hW0 hstr
  obtain ⟨U, hsteps, hrun, hend, hW, hsame, ce, hce, hO1, hO2⟩ := nsThrow X₁ hexec htr (own := own) (names := names) (ic := ic) hown' hY0 hnames h (fun x hx => nomatch hx) hfX hkX hcellA (by rw [hhp, hT]; exact Nat.le_refl _) (msg := .ref sa) rfl
    (g := { method := m, pc := pc + 7, locals := ls, stack := .ref sa :: .ref T.heap.size :: .ref T.heap.size :: rest, locked := none }) rfl hsize rfl rfl (rest := rest) rfl
    (by rw [hb]; exact d7) (by rw [hb]; exact d10) hout hRframes (by
      show 2 * 0 + _ + _ ≤ _
      simp only [List.map_cons, List.sum_cons, hcat]; omega) hlocks
  obtain ⟨f1, f2⟩ := vx_frame hsame
  rw [hhp] at f1 f2
  have hWs : s.WarmedH U.vm := State.WarmedH.trans hW0 hW
  have hcl : s.vm.findClass nsE = some ce.cls := by
    rw [hvm] at hO1
    exact hO1
  have hall : s.sameButNew ({ U with vm := s.vm } : State) locs mc ms := by
    subst hA
    obtain ⟨e1, e2⟩ := hsame
    rw [State.setFrames_setFrames] at e1
    have h2 : (T.setVm s.vm).sameButNew ({ U with vm := s.vm } : State) [] (0 + 1) (0 + 6) := ⟨e1, e2⟩
    have h3 := X.same.trans h2
    rw [List.append_nil] at h3
    exact h3.mono hc hs
  refine ⟨U, ?_, .threw T.heap.size, hrun, hend, Or.inr ⟨T.heap.size, rfl, nsE, ce, locs, hx U hWs.alike f1 (fun q hq => f2 q hq (fun z hz => nomatch hz)), hce, hO2, hcl, hWs, hall, hf⟩⟩
  refine st1 _ ?_
  show Steps p.tables e below (T1.setTop { method := m, pc := pc + 3, locals := ls, stack := .ref T.heap.size :: rest, locked := none }) _
  jvm_step X₁.here [X₁.here.top, hexec, d3', Value.category]
  exact X₁.ldcStringW hexec (own := own) (text := text) (index := is) (a := sa) hown' hstr'.1 hstr'.2
    (g := { method := m, pc := pc + 4, locals := ls, stack := .ref T.heap.size :: .ref T.heap.size :: rest, locked := none }) rfl d4' _ hsteps
theorem eX7_NS : (∀ w ∈ [Cond.classLink RX7 300 nsE, Cond.initialized nsE], w ∈ GW) ∧ (∀ w ∈ nsS RX7 302 "java/lang/RuntimeException" ["java/lang/Exception"], w ∈ lw_tbl ∧ vx_ok w = true) := ⟨gw_of (ps := [1012, 100]) (by decide +kernel) (by decide +kernel), lw_ofk (ps := [87, 573, 582, 587, 590, 592, 574, 575, 107, 108, 576, 581, 588, 608, 563, 609, 565, 610, 567, 577, 579, 569, 604, 605, 607, 569, 1022, 1023, 1024, 598, 555, 598, 599, 600, 601, 557, 601, 602, 603, 604, 559, 1021, 1013, 1014, 1015, 586, 1016, 1017, 1018, 1019, 572, 571, 1020]) (by decide +kernel) (by decide +kernel)⟩
theorem Ev.throwNS {Θ : GC} {M : MD} {fr lc mc ms pc : Nat} {ls : List (Nat × Vv)} {st : List Vv} {h : Hp} {Q : Ro → Hp → Prop} {is : Nat} {text : String} (hO : mO M = RX7) (f5 : Cond.stringRef (mO M) is text ∈ lw_tbl) (hE : mE M = []) (d0 : decode (mB M) pc = .ok (.new 300, 3)) (d3 : decode (mB M) (pc + 3) = .ok (.dup, 1)) (d4 : decode (mB M) (pc + 4) = .ok (.ldc_w is, 3)) (d7 : decode (mB M) (pc + 7) = .ok (.invokespecial 302, 3)) (d10 : decode (mB M) (pc + 10) = .ok (.athrow, 1))
    (hfr : 5 < fr) (hlc : csum st + 82 ≤ lc) (hmc : 1 ≤ mc) (hms : 6 ≤ ms) (hq : Q (.inr nsE) h) : Ev Θ M fr lc mc ms pc ls st h Q := by
  intro p e R s m args below meth c H locs cells slots ρ la hF hR hS0 hS1 hc hs hl hlv hst
  have hCx := hF.2.2.2.2.2.2.2.2.1
  have hfR := hF.2.2.2.2.2.2.2.2.2.1
  have hlR := hF.2.2.2.2.2.2.2.2.2.2
  obtain ⟨sa, hsa⟩ := hCx.2.2.2.2.2.2.2.2.2.2.2.2.2.1 _ _ _ f5
  have f1 : ∀ w ∈ [Cond.classLink (mO M) 300 nsE, Cond.initialized nsE], w ∈ GW := by rw [hO]; exact eX7_NS.1
  have f6 : ∀ w ∈ nsS (mO M) 302 "java/lang/RuntimeException" ["java/lang/Exception"], w ∈ lw_tbl ∧ vx_ok w = true := by rw [hO]; exact eX7_NS.2
  exact vx_throwNS (A := gA Θ) hF.1 hF.2.1 hCx.2.2.1 hF.2.2.2.2.1 (Y0 := "java/lang/RuntimeException") (names := ["java/lang/Exception"]) (by decide +kernel) (by decide +kernel) (gwB hF (f1 _ List.mem_cons_self)) (gwB hF (f1 _ (List.mem_cons_of_mem _ List.mem_cons_self))) hsa (fun w hw => vx_ok_at hF (f6 w hw).1 (f6 w hw).2) (fun w hw => by
    rcases List.mem_cons.mp hw with e | hw
    · rw [e]; rfl
    · rcases List.mem_cons.mp hw with e | hw
      · rw [e]; rfl
      · exact vx_ok_ot (f6 w hw).2) (zq_keep hCx.2.2.2.2.2.2.2.2.2.1 hS0) (zq_keep hCx.2.2.2.2.2.2.2.2.2.2.1 hS0) hS1 (by rw [hF.2.2.2.1]; exact hl.1) d0 d3 d4 d7 d10
    (fun x hx => by rw [hF.2.2.2.2.2.2.1, hE] at hx; cases hx) (by rw [hfR]; exact hfr) (by rw [csum_tr, hlR]; exact hlc) (by omega) (by omega) hF.2.2.2.2.2.1 (XC_mk hR hS1 hq) hS1.2.2 (by omega) (by omega)
