/-! THE ABSTRACT MACHINE. Values: an int as a whole number, a long as 64 bits, a reference as (class, 0 for null or place + 1), a String constant by its place. -/
abbrev Vv : Type := Int ⊕ (BitVec 64 ⊕ ((Nat × Nat) ⊕ Nat))
abbrev vi (i : Int) : Vv := .inl i
abbrev vl (b : BitVec 64) : Vv := .inr (.inl b)
abbrev vr (C r : Nat) : Vv := .inr (.inr (.inl (C, r)))
abbrev vt (k : Nat) : Vv := .inr (.inr (.inr k))
/-- the abstract heap: ints, longs, references by class, place, slot; which places are taken; how long an array is -/
abbrev Hp : Type := (Nat → Nat → Nat → Int) × (Nat → Nat → Nat → BitVec 64) × (Nat → Nat → Nat → Nat) × (Nat → Nat → Prop) × (Nat → Nat → Nat)
abbrev hI (h : Hp) : Nat → Nat → Nat → Int := h.1
abbrev hL (h : Hp) : Nat → Nat → Nat → BitVec 64 := h.2.1
abbrev hR (h : Hp) : Nat → Nat → Nat → Nat := h.2.2.1
abbrev hC (h : Hp) : Nat → Nat → Prop := h.2.2.2.1
abbrev hN (h : Hp) : Nat → Nat → Nat := h.2.2.2.2
def up3 {α : Type} (f : Nat → Nat → Nat → α) (C j k : Nat) (x : α) : Nat → Nat → Nat → α := fun C' j' k' => if C' = C ∧ j' = j ∧ k' = k then x else f C' j' k'
def up2 {α : Type} (f : Nat → Nat → α) (C j : Nat) (x : α) : Nat → Nat → α := fun C' j' => if C' = C ∧ j' = j then x else f C' j'
def up1 {α : Type} (f : Nat → α) (C : Nat) (x : α) : Nat → α := fun C' => if C' = C then x else f C'
theorem up3_s {α : Type} {f : Nat → Nat → Nat → α} {C j k : Nat} {x : α} : up3 f C j k x C j k = x := by simp [up3]
theorem up3_n {α : Type} {f : Nat → Nat → Nat → α} {C j k C' j' k' : Nat} {x : α} (h : ¬ (C' = C ∧ j' = j ∧ k' = k)) : up3 f C j k x C' j' k' = f C' j' k' := by simp only [up3]; rw [if_neg h]
/-- the classes' fields: 0 int, 1 long, 100 boolean, 2 + C a reference to an object of class C (11 Lease[], 12 State[]; int[] by its part: 20 rules, 21 parents, 22 labels, 23 values, 24 parts, 25 bytes, 26 buffer, 27 rows, 28 history; long[]: 30 paths, 31 out) -/
def FTL : List (List Nat) := [[1, 25], [0, 26], [0, 0, 14], [100, 0, 0, 100, 1, 2, 2], [0, 1, 23, 24, 32], [0, 8, 27, 0, 0, 0, 0], [0, 0, 0, 22, 6, 2, 13, 3], [8, 8, 100, 4, 7, 2, 2, 3], [0, 28, 0, 0, 0, 0, 0, 0, 29, 29, 30, 29, 0, 100, 0, 29, 29]]
def ftl (C : Nat) : List Nat := FTL.getD C []
def tgt (C k : Nat) : Nat := if C = 11 then 3 else if C = 12 then 6 else (ftl C).getD k 0 - 2
def inR (x : Int) : Prop := -2147483648 ≤ x ∧ x ≤ 2147483647
/-- what is fixed for the whole run: the tables' numbers, the arrays' classes, the heap at the law's start, the String constants' cells and their bytes' cells, the launch, the script -/
abbrev GC : Type := va_G × (Nat → ClassId) × Heap × (Nat → Nat) × (Nat → Nat) × Launch × Nat × Nat × (Nat → Int32) × Option Nat
abbrev gD (Θ : GC) : va_G := Θ.1
abbrev gY (Θ : GC) : Nat → ClassId := Θ.2.1
abbrev gH (Θ : GC) : Heap := Θ.2.2.1
abbrev gK (Θ : GC) : Nat → Nat := Θ.2.2.2.1
abbrev gV (Θ : GC) : Nat → Nat := Θ.2.2.2.2.1
abbrev gL (Θ : GC) : Launch := Θ.2.2.2.2.2.1
abbrev gB (Θ : GC) : Nat := Θ.2.2.2.2.2.2.1
abbrev gN (Θ : GC) : Nat := Θ.2.2.2.2.2.2.2.1
abbrev gX (Θ : GC) : Nat → Int32 := Θ.2.2.2.2.2.2.2.2.1
abbrev gF (Θ : GC) : Option Nat := Θ.2.2.2.2.2.2.2.2.2
abbrev gT (Θ : GC) : List (ClassId × FieldType) := [(gY Θ 0, .int), (gY Θ 1, .long), (gY Θ 2, .object RX3), (gY Θ 3, .object RX6)]
def gA (Θ : GC) : Nat → Prop := fun q => (gH Θ).size ≤ q
abbrev Rn : Type := Nat → Nat → Nat
def rfo (ρ : Rn) (C r : Nat) : Option Nat := if r = 0 then none else some (ρ C (r - 1))
def fv (ρ : Rn) (h : Hp) (C j k t : Nat) : Value := if t = 1 then .long (Int64.ofBitVec (hL h C j k)) else if t = 0 ∨ t = 100 then .int (Int32.ofInt (hI h C j k)) else va_rf (rfo ρ (t - 2) (hR h C j k))
def ent (Θ : GC) (ρ : Rn) (h : Hp) (C j : Nat) : va_E :=
  if 20 ≤ C ∧ C < 30 then .inl (gY Θ 0, hN h C j, .inl (fun k => Int32.ofInt (hI h C j k)))
  else if 30 ≤ C ∧ C < 40 then .inl (gY Θ 1, hN h C j, .inr (.inl (fun k => Int64.ofBitVec (hL h C j k))))
  else if C = 11 then .inl (gY Θ 2, hN h C j, .inr (.inr (.inr (.inr (fun k => rfo ρ 3 (hR h C j k))))))
  else if C = 12 then .inl (gY Θ 3, hN h C j, .inr (.inr (.inr (.inr (fun k => rfo ρ 6 (hR h C j k))))))
  else .inr (C, (ftl C).mapIdx (fun k t => fv ρ h C j k t))
abbrev setI (h : Hp) (C j k : Nat) (x : Int) : Hp := (up3 h.1 C j k x, h.2)
abbrev setL (h : Hp) (C j k : Nat) (x : BitVec 64) : Hp := (h.1, up3 h.2.1 C j k x, h.2.2)
abbrev setR (h : Hp) (C j k : Nat) (x : Nat) : Hp := (h.1, h.2.1, up3 h.2.2.1 C j k x, h.2.2.2)
/-- the references of one place all null -/
def zr (f : Nat → Nat → Nat → Nat) (C j : Nat) : Nat → Nat → Nat → Nat := fun C' j' k' => if C' = C ∧ j' = j then 0 else f C' j' k'
theorem zr_s {f : Nat → Nat → Nat → Nat} {C j k : Nat} : zr f C j C j k = 0 := by simp [zr]
theorem zr_n {f : Nat → Nat → Nat → Nat} {C j C' j' k : Nat} (h : ¬ (C' = C ∧ j' = j)) : zr f C j C' j' k = f C' j' k := by simp only [zr]; rw [if_neg h]
/-- one more of class C at the place j, an array of length n -/
def alc (h : Hp) (C j n : Nat) : Hp := (h.1, h.2.1, zr h.2.2.1 C j, fun C' j' => h.2.2.2.1 C' j' ∨ (C' = C ∧ j' = j), up2 h.2.2.2.2 C j n)
def okr (h : Hp) (C r : Nat) : Prop := r = 0 ∨ hC h C (r - 1)
def wfh (h : Hp) : Prop := (∀ C j k, inR (hI h C j k)) ∧ (∀ C j k, hC h C j → okr h (tgt C k) (hR h C j k)) ∧ (∀ C j, hN h C j < 2147483648) ∧ (∀ C j k, ¬ hC h C j → hI h C j k = 0 ∧ hL h C j k = 0)
def Rel (Θ : GC) (ρ : Rn) (h : Hp) (H : Heap) : Prop := ∃ (ws : va_W) (pos : Nat → Nat → Nat), va_P (gD Θ) vwCl ws H ∧ va_D (gA Θ) ws ∧ (∀ C j, hC h C j → ws[pos C j]? = some (ρ C j, ent Θ ρ h C j)) ∧ (∀ C j C' j', hC h C j → hC h C' j' → pos C j = pos C' j' → C = C' ∧ j = j') ∧ wfh h
/-- abstract values in the machine -/
def tr (Θ : GC) (ρ : Rn) (v : Vv) : Value := match v with
  | .inl i => .int (Int32.ofInt i)
  | .inr (.inl b) => .long (Int64.ofBitVec b)
  | .inr (.inr (.inl (C, r))) => if C = 13 then .ref (gB Θ) else if C = 14 then .ref (gV Θ (r - 1)) else if C = 15 then va_rf (gF Θ) else va_rf (rfo ρ C r)
  | .inr (.inr (.inr k)) => .ref (gK Θ k)
def vok (h : Hp) (v : Vv) : Prop := match v with
  | .inl i => inR i
  | .inr (.inl _) => True
  | .inr (.inr (.inl (C, r))) => (C = 13 ∨ C = 14 ∨ C = 15) ∨ okr h C r
  | .inr (.inr (.inr _)) => True
/-- the words that hold at every state of the run -/
def GW : List Cond := lw_tbl.filter goodWord
def Ext (ρ ρ' : Rn) (h h' : Hp) : Prop := (∀ C j, hC h C j → ρ' C j = ρ C j) ∧ ∀ C j, hC h C j → hC h' C j
theorem Ext.rf (ρ : Rn) (h : Hp) : Ext ρ ρ h h := ⟨fun _ _ _ => rfl, fun _ _ q => q⟩
theorem Ext.trans {ρ ρ1 ρ2 : Rn} {h h1 h2 : Hp} (a : Ext ρ ρ1 h h1) (b : Ext ρ1 ρ2 h1 h2) : Ext ρ ρ2 h h2 := ⟨fun C j q => (b.1 C j (a.2 C j q)).trans (a.1 C j q), fun C j q => b.2 C j (a.2 C j q)⟩
/-- a method: its name, bytes, locals, result, class, handlers -/
abbrev MD : Type := MethodName × ByteArray × Nat × Option FieldType × String × List (Nat × Nat × Nat × Nat)
abbrev mY (M : MD) : MethodName := M.1
abbrev mB (M : MD) : ByteArray := M.2.1
abbrev mX (M : MD) : Nat := M.2.2.1
abbrev mR (M : MD) : Option FieldType := M.2.2.2.1
abbrev mO (M : MD) : String := M.2.2.2.2.1
abbrev mE (M : MD) : List (Nat × Nat × Nat × Nat) := M.2.2.2.2.2
/-- its word -/
def mW (M : MD) : Cond := if mE M = [] then .code (mY M) (mB M) (mX M) (mR M) else .codeWith (mY M) (mB M) (mX M) (mR M) (mE M)
/-- the words of the setup text in both classes: class, entry, text, place; their bytes -/
def SLW : List (String × Nat × String × Nat) := [("LeasedTree$SetupText", 49, "field", 0), ("LeasedTree$SetupText", 135, "sum", 1), ("LeasedTree$SetupText", 137, "max", 2), ("LeasedTree$SetupText", 139, "min", 3), ("LeasedTree$SetupText", 141, "bits", 4), ("LeasedTree$SetupText", 143, "first", 5), ("LeasedTree$SetupText", 145, "last", 6), ("LeasedTree$SetupText", 58, "client", 7), ("LeasedTree$SetupText", 63, "dir", 8), ("LeasedTree$SetupText", 69, "record", 9), ("LeasedTree$SetupText", 71, "value", 10), ("LeasedTreeModel", 136, "field", 11), ("LeasedTreeModel", 113, "sum", 12), ("LeasedTreeModel", 119, "max", 13), ("LeasedTreeModel", 121, "min", 14), ("LeasedTreeModel", 122, "bits", 15), ("LeasedTreeModel", 124, "first", 16), ("LeasedTreeModel", 126, "last", 17), ("LeasedTreeModel", 141, "client", 18), ("LeasedTreeModel", 143, "dir", 19), ("LeasedTreeModel", 149, "record", 20), ("LeasedTreeModel", 151, "value", 21)]
def WB : List (List Int) := [[102, 105, 101, 108, 100], [115, 117, 109], [109, 97, 120], [109, 105, 110], [98, 105, 116, 115], [102, 105, 114, 115, 116], [108, 97, 115, 116], [99, 108, 105, 101, 110, 116], [100, 105, 114], [114, 101, 99, 111, 114, 100], [118, 97, 108, 117, 101]]
def wby (k : Nat) : List Int := WB.getD (k % 11) []
def NCP : List (String × String) := [("java/lang/IllegalArgumentException", "java/lang/IllegalStateException"), ("java/lang/IllegalArgumentException", "java/lang/IndexOutOfBoundsException"), ("java/lang/IllegalArgumentException", "java/util/NoSuchElementException"), ("java/lang/IllegalStateException", "java/lang/IllegalArgumentException"), ("java/lang/IllegalStateException", "java/lang/IndexOutOfBoundsException"), ("java/lang/IllegalStateException", "java/util/NoSuchElementException"), ("java/lang/IndexOutOfBoundsException", "java/lang/IllegalArgumentException"), ("java/lang/IndexOutOfBoundsException", "java/lang/IllegalStateException"), ("java/lang/IndexOutOfBoundsException", "java/util/NoSuchElementException"), ("java/util/NoSuchElementException", "java/lang/IllegalArgumentException"), ("java/util/NoSuchElementException", "java/lang/IllegalStateException"), ("java/util/NoSuchElementException", "java/lang/IndexOutOfBoundsException")]
/-- what holds at a start of a method of the run; NL: the links to nest mates, XL: the pairs of classes that aren't castable, SL: the String constants' entries (class, entry, text, place) -/
def Cx (Θ : GC) (U : State) : Prop := va_K (gD Θ) vwCl (gT Θ) U ∧ (∀ w ∈ GW, w.before #[] U = true) ∧ (gL Θ).stackTraces = false ∧ (∀ a i x o, Cond.methodLinkNest a i x o ∈ lw_tbl → va_Nw (.methodLinkNest a i x o) U) ∧ va_AO RX3 U ∧ va_AO RX6 U
  ∧ va_X (gB Θ) (gN Θ) (gX Θ) U (gH Θ) ∧ gB Θ < (gH Θ).size ∧ gN Θ ≤ 3072
  ∧ vx_Zq Bundle.tN "UNASSIGNED_STACK" Bundle.steD (gA Θ) U (gH Θ) ∧ vx_Zq Bundle.tN "SUPPRESSED_SENTINEL" Bundle.listD (gA Θ) U (gH Θ)
  ∧ (∀ E, Cond.castable E E ∈ lw_tbl → va_Nw (.castable E E) U) ∧ (∀ q ∈ NCP, va_Nc q.1 q.2 U) ∧ (∀ o i x, Cond.stringRef o i x ∈ lw_tbl → ∃ a, vk_R o i x a U)
  ∧ (∀ q ∈ SLW, vk_R q.1 q.2.1 q.2.2.1 (gK Θ q.2.2.2) U) ∧ (∀ k, k < 22 → va_O "java/lang/String" (gK Θ k) (gA Θ) U (gH Θ) ∧ va_OF "java/lang/String" "coder" "B" (.int 0) (gK Θ k) (gA Θ) U (gH Θ) ∧ va_OF "java/lang/String" "value" "[B" (.ref (gV Θ k)) (gK Θ k) (gA Θ) U (gH Θ) ∧ va_T .byte (gV Θ k) (wby k).length (fun j => .int (Int32.ofInt ((wby k).getD j 0))) (gA Θ) U (gH Θ))
  ∧ va_Z "java/lang/String" "COMPACT_STRINGS" "Z" (.int 1) (gA Θ) U (gH Θ) ∧ va_Z "jdk/internal/util/Preconditions" "SIOOBE_FORMATTER" "Ljava/util/function/BiFunction;" (va_rf (gF Θ)) (gA Θ) U (gH Θ) ∧ (∀ x, Cond.declares x ∈ lw_tbl → va_Nw (.declares x) U)
theorem Cx.moved {Θ : GC} {s U : State} (hW : s.WarmedH U.vm) (h : Cx Θ s) : Cx Θ U := by
  obtain ⟨h1, h2, h3, h4, h5, h6, h7, h8, h9, h10, h11, k1, k2, k3, k4, k5, k6, k7, k8⟩ := h
  exact ⟨va_K.moved hW.alike h1, fun w hw => word_at hW (good_of_word (List.mem_filter.mp hw).2) (h2 w hw), h3, fun a i x o hm => va_Nw.warmM hW (h4 a i x o hm), va_AO.moved hW.alike h5, va_AO.moved hW.alike h6, va_X.moved hW.alike h7, h8, h9, vx_Zq.moved hW.alike h10, vx_Zq.moved hW.alike h11, fun E hm => va_Nw.warmC hW (k1 E hm), fun q hq => va_Nc.moved hW.alike (k2 q hq), fun o i x hm => by
    obtain ⟨a, ha⟩ := k3 o i x hm
    exact ⟨a, vk_R.warm hW ha⟩, fun q hq => vk_R.warm hW (k4 q hq), fun k hk => ⟨va_O.moved hW.alike (k5 k hk).1, va_OF.moved hW.alike (k5 k hk).2.1, va_OF.moved hW.alike (k5 k hk).2.2.1, va_T.moved hW.alike (k5 k hk).2.2.2⟩, va_Z.moved hW.alike k6, va_Z.moved hW.alike k7, fun x hx => va_Nw.warmD hW (k8 x hx)⟩
/-- a result of a method: what it returns, or the class of what it throws -/
abbrev Ro : Type := Option Vv ⊕ String
def okO (h : Hp) (r : Option Vv) : Prop := ∀ v, r = some v → vok h v
def PoQ (Θ : GC) (ρ : Rn) (h : Hp) (Q : Ro → Hp → Prop) : Array Value → State → Outcome → State → Prop := fun _ st o t => ∃ (r : Option Vv) (h' : Hp) (ρ' : Rn), o = .returned (r.map (tr Θ ρ')) ∧ Q (.inl r) h' ∧ Ext ρ ρ' h h' ∧ okO h' r ∧ Rel Θ ρ' h' t.heap ∧ va_S (gA Θ) st.heap t.heap []
def PoX (Θ : GC) (ρ : Rn) (h : Hp) (Q : Ro → Hp → Prop) : String → State → State → Prop := fun E st t => ∃ (h' : Hp) (ρ' : Rn), Q (.inr E) h' ∧ Ext ρ ρ' h h' ∧ Rel Θ ρ' h' t.heap ∧ va_S (gA Θ) st.heap t.heap []
def PoI (Θ : GC) (ρ : Rn) (h : Hp) : State → Prop := fun U => Cx Θ U ∧ Rel Θ ρ h U.heap ∧ va_S (gA Θ) (gH Θ) U.heap []
/-- a call of the method at these arguments and this heap: it ends so that Q holds; fr, lc: the frames and words of locals that it needs, mc, ms: the cells and slots that it may make -/
def Cal (Θ : GC) (M : MD) (fr lc mc ms : Nat) (av : List Vv) (h : Hp) (Q : Ro → Hp → Prop) : Prop := ∀ ρ : Rn, (∀ v ∈ av, vok h v) → vx_Met (gL Θ) (mY M) [mW M] { frames := fr, cells := mc, slots := ms, locals := lc } (va_Pc (av.map (tr Θ ρ)) (PoI Θ ρ h)) (PoQ Θ ρ h Q) (PoX Θ ρ h Q) mc ms (gA Θ)
/-- the frame's fixed part -/
def Fr (Θ : GC) (M : MD) (fr lc : Nat) (p : Program) (R : Room) (s : State) (m : MethodId) (meth : Method) (c : Code) : Prop := p.tables.exec = Jvm.exec ∧ c.code = mB M ∧ meth.sig.returnType = mR M ∧ c.maxLocals = mX M ∧ s.vm.findClass (mO M) = some m.cls ∧ meth.locks = false ∧ c.exceptionTable.toList = tableOf (mE M) ∧ meth.name = (mY M).name ∧ Cx Θ s ∧ R.frames = fr ∧ R.locals = lc
abbrev trl (Θ : GC) (ρ : Rn) (ls : List (Nat × Vv)) : List (Nat × Value) := ls.map (fun q => (q.1, tr Θ ρ q.2))
/-- from here on the frame comes to an end at which Q holds -/
def Ev (Θ : GC) (M : MD) (fr lc mc ms pc : Nat) (ls : List (Nat × Vv)) (st : List Vv) (h : Hp) (Q : Ro → Hp → Prop) : Prop :=
  ∀ (p : Program) (e : Env) (R : Room) (s : State) (m : MethodId) (args : Array Value) (below : List Frame) (meth : Method) (c : Code) (H : Heap) (locs : List Loc) (cells slots : Nat) (ρ : Rn) (la : Array Slot),
    Fr Θ M fr lc p R s m meth c → Rel Θ ρ h H → va_S (gA Θ) (gH Θ) s.heap [] → va_S (gA Θ) s.heap H locs → cells + mc ≤ R.cells → slots + ms ≤ R.slots → lv_has la (mX M) (trl Θ ρ ls) → (∀ q ∈ ls, vok h q.2) → (∀ v ∈ st, vok h v) →
    W p (gL Θ) e R s m args below meth c H locs cells slots (vx_MQ below (PoQ Θ ρ h Q) (PoX Θ ρ h Q) args s R.cells R.slots (gA Θ)) (F0 m pc la (st.map (tr Θ ρ)))
abbrev noS (C : Nat) : Prop := ¬ (C = 13 ∨ C = 14 ∨ C = 15)
theorem vok_le {h : Hp} {C r : Nat} (hC : noS C) (hv : vok h (vr C r)) : okr h C r := by
  rcases hv with h1 | h1
  · exact absurd h1 hC
  · exact h1
theorem vok_lt {h : Hp} {C r : Nat} (hn : noS C) (hv : vok h (vr C (r + 1))) : hC h C r := by
  rcases vok_le hn hv with h1 | h1
  · omega
  · exact h1
