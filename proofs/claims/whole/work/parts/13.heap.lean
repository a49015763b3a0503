theorem ent_congr {Θ : GC} {ρ : Rn} {h1 h2 : Hp} {C j : Nat} (e1 : hI h1 C j = hI h2 C j) (e2 : hL h1 C j = hL h2 C j) (e3 : hR h1 C j = hR h2 C j) (e4 : hN h1 C j = hN h2 C j) : ent Θ ρ h1 C j = ent Θ ρ h2 C j := by
  unfold ent fv
  rw [e1, e2, e3, e4]
theorem up3_o {α : Type} {f : Nat → Nat → Nat → α} {C j k C' j' : Nat} {x : α} (h : ¬ (C' = C ∧ j' = j)) : up3 f C j k x C' j' = f C' j' := by
  funext k'
  exact up3_n (fun z => h ⟨z.1, z.2.1⟩)
theorem ent_setI {Θ : GC} {ρ : Rn} {h : Hp} {C j k C' j' : Nat} {x : Int} (hn : ¬ (C' = C ∧ j' = j)) : ent Θ ρ (setI h C j k x) C' j' = ent Θ ρ h C' j' := ent_congr (up3_o hn) rfl rfl rfl
theorem ent_setL {Θ : GC} {ρ : Rn} {h : Hp} {C j k C' j' : Nat} {x : BitVec 64} (hn : ¬ (C' = C ∧ j' = j)) : ent Θ ρ (setL h C j k x) C' j' = ent Θ ρ h C' j' := ent_congr rfl (up3_o hn) rfl rfl
theorem ent_setR {Θ : GC} {ρ : Rn} {h : Hp} {C j k C' j' : Nat} {x : Nat} (hn : ¬ (C' = C ∧ j' = j)) : ent Θ ρ (setR h C j k x) C' j' = ent Θ ρ h C' j' := ent_congr rfl rfl (up3_o hn) rfl
theorem Rel.set {Θ : GC} {ρ : Rn} {h h' : Hp} {H' : Heap} {ws : va_W} {pos : Nat → Nat → Nat} {C j : Nat} (hP' : va_P (gD Θ) vwCl (ws.set (pos C j) (ρ C j, ent Θ ρ h' C j)) H') (hD' : va_D (gA Θ) (ws.set (pos C j) (ρ C j, ent Θ ρ h' C j)))
    (hE : ∀ C j, hC h C j → ws[pos C j]? = some (ρ C j, ent Θ ρ h C j)) (hJ : ∀ C j C' j', hC h C j → hC h C' j' → pos C j = pos C' j' → C = C' ∧ j = j') (hj : hC h C j)
    (same : ∀ C' j', ¬ (C' = C ∧ j' = j) → ent Θ ρ h' C' j' = ent Θ ρ h C' j') (hcnt : hC h' = hC h) (wf : wfh h') : Rel Θ ρ h' H' := by
  refine ⟨_, pos, hP', hD', fun C' j' q2 => ?_, fun C1 j1 C2 j2 q2 q4 => hJ C1 j1 C2 j2 (by rw [← hcnt]; exact q2) (by rw [← hcnt]; exact q4), wf⟩
  rw [hcnt] at q2
  by_cases hz : C' = C ∧ j' = j
  · obtain ⟨rfl, rfl⟩ := hz
    rw [List.getElem?_set_self (List.getElem?_eq_some_iff.mp (hE C' j' q2)).1]
  · rw [List.getElem?_set_ne (fun z => hz ((hJ C j C' j' hj q2 z).imp Eq.symm Eq.symm)), hE C' j' q2, same C' j' hz]
theorem wfh.setI {h : Hp} {C j k : Nat} {x : Int} (w : wfh h) (hj : hC h C j) (hx : inR x) : wfh (setI h C j k x) := ⟨fun C' j' k' => by
  show inR (up3 h.1 C j k x C' j' k')
  unfold up3
  split
  · exact hx
  · exact w.1 _ _ _, w.2.1, w.2.2.1, fun C' j' k' q => ⟨(up3_n (fun z => by rw [z.1, z.2.1] at q; exact absurd hj q)).trans (w.2.2.2 C' j' k' q).1, (w.2.2.2 C' j' k' q).2⟩⟩
theorem wfh.setL {h : Hp} {C j k : Nat} {x : BitVec 64} (w : wfh h) (hj : hC h C j) : wfh (setL h C j k x) := ⟨w.1, w.2.1, w.2.2.1, fun C' j' k' q => ⟨(w.2.2.2 C' j' k' q).1, (up3_n (fun z => by rw [z.1, z.2.1] at q; exact absurd hj q)).trans (w.2.2.2 C' j' k' q).2⟩⟩
theorem wfh.setR {h : Hp} {C j k : Nat} {x : Nat} (w : wfh h) (hj : hC h C j) (hx : okr h (tgt C k) x) : wfh (setR h C j k x) := ⟨w.1, fun C' j' k' hj' => by
  show okr h (tgt C' k') (up3 h.2.2.1 C j k x C' j' k')
  unfold up3
  split
  · next q => rw [q.1, q.2.2]; exact hx
  · exact w.2.1 _ _ _ hj', w.2.2.1, w.2.2.2⟩
theorem va_S.nil {A : Nat → Prop} {H0 H : Heap} {locs : List Loc} (hS : va_S A H0 H locs) : va_S A H0 H [] := ⟨hS.1, hS.2.1, fun z hz => by cases hz⟩
def tcode (ty : FieldType) (t : Nat) : Prop := (t = 0 ∧ ty = .int) ∨ (t = 1 ∧ ty = .long) ∨ (t = 100 ∧ ty = .boolean) ∨ (t ≠ 0 ∧ t ≠ 1 ∧ t ≠ 100 ∧ ((∃ n, ty = .object n) ∨ ∃ u, ty = .array u))
/-- a class of the system: its name, its fields -/
def COK (C : Nat) (Cn : String) (T : u_T) (N : Nat) (ty0 : Nat → FieldType) : Prop := vwCl[C]? = some (Cn, T, N) ∧ C < 9 ∧ (∀ w ∈ u_ws Cn T N, w ∈ GW) ∧ (∀ j, j < N → parseFieldDescriptor (T j).2.2.1 = some (ty0 j)) ∧ (∀ a, a < N → ∀ b, b < N → a ≠ b → (T a).2.1 ≠ (T b).2.1) ∧ (ftl C).length = N ∧ (∀ j t, (ftl C)[j]? = some t → tcode (ty0 j) t)
/-- a field access of the class 'own' by its entry ix: class C, slot k, of type t -/
def FOK (own : String) (ix C k t : Nat) (fin : Bool) : Prop := ∃ (Cn : String) (T : u_T) (N : Nat) (ty0 : Nat → FieldType), COK C Cn T N ty0 ∧ k < N ∧ Cond.fieldLink own ix (T k).1 (T k).2.1 (T k).2.2.1 ∈ GW ∧ (ftl C)[k]? = some t ∧ (T k).2.2.2 = fin ∧ (T k).1 = Cn
theorem nS9 {C : Nat} (h : C < 9) : noS C := by unfold noS; omega
theorem nSA {C : Nat} (h : 20 ≤ C ∧ C < 30) : noS C := by unfold noS; omega
theorem nSJ {C : Nat} (h : 30 ≤ C ∧ C < 40) : noS C := by unfold noS; omega
theorem ent_obj {Θ : GC} {ρ : Rn} {h : Hp} {C j : Nat} (h9 : C < 9) : ent Θ ρ h C j = .inr (C, (ftl C).mapIdx (fun k t => fv ρ h C j k t)) := by
  unfold ent
  rw [if_neg (by omega), if_neg (by omega), if_neg (by omega), if_neg (by omega)]
theorem rf_fits {ρ : Rn} {C r : Nat} {ty : FieldType} (h : (∃ n, ty = .object n) ∨ ∃ u, ty = .array u) : narrow ty (va_rf (rfo ρ C r)) = va_rf (rfo ρ C r) ∧ fits ty (va_rf (rfo ρ C r)) = true := by
  unfold rfo
  rcases h with ⟨n, rfl⟩ | ⟨u, rfl⟩ <;> split <;> exact ⟨rfl, rfl⟩
theorem set_fs {ρ : Rn} {h h' : Hp} {C j k t : Nat} {v : Value} (ht : (ftl C)[k]? = some t) (hv : fv ρ h' C j k t = v) (ho : ∀ k' t', k' ≠ k → fv ρ h' C j k' t' = fv ρ h C j k' t') : ((ftl C).mapIdx (fun k t => fv ρ h C j k t)).set k v = (ftl C).mapIdx (fun k t => fv ρ h' C j k t) := by
  have hk := (List.getElem?_eq_some_iff.mp ht).1
  apply List.ext_getElem?
  intro i
  by_cases hi : i = k
  · subst hi
    rw [List.getElem?_set_self (by rw [List.length_mapIdx]; exact hk), List.getElem?_mapIdx, ht, ← hv]; rfl
  · rw [List.getElem?_set_ne (fun z => hi z.symm), List.getElem?_mapIdx, List.getElem?_mapIdx]
    cases (ftl C)[i]? with
    | none => rfl
    | some t' => exact congrArg some (ho i t' hi).symm
section
variable {Θ : GC} {M : MD} {fr lc mc ms pc pc' : Nat} {ls : List (Nat × Vv)} {st : List Vv} {h : Hp} {Q : Ro → Hp → Prop}
theorem tr_r {ρ : Rn} {C j : Nat} (h9 : noS C) : tr Θ ρ (vr C (j + 1)) = .ref (ρ C j) := by
  unfold noS at h9
  show (if C = 13 then _ else _) = _
  rw [if_neg (by omega), if_neg (by omega), if_neg (by omega)]; rfl
theorem tr_rg {ρ : Rn} {C r : Nat} (h9 : noS C) : tr Θ ρ (vr C r) = va_rf (rfo ρ C r) := by
  unfold noS at h9
  show (if C = 13 then _ else _) = _
  rw [if_neg (by omega), if_neg (by omega), if_neg (by omega)]
theorem PoQ.mk {Θ : GC} {ρ : Rn} {h : Hp} {Q : Ro → Hp → Prop} {H : Heap} {s : State} {args : Array Value} {locs : List Loc} {r : Option Vv} (hR : Rel Θ ρ h H) (hS1 : va_S (gA Θ) s.heap H locs) (ho : okO h r) (hq : Q (.inl r) h) : ∀ t : State, t.heap = H → s.WarmedH t.vm → PoQ Θ ρ h Q args s (.returned (r.map (tr Θ ρ))) t := fun t ht _ => ⟨r, h, ρ, rfl, hq, Ext.rf ρ h, ho, by rw [ht]; exact hR, by rw [ht]; exact hS1.nil⟩
theorem Ev.ireturn {x : Int} {ty : FieldType} (d : Dq (mB M) pc .ireturn 1 pc') (hr : mR M = some ty) (hn : narrow ty (.int (Int32.ofInt x)) = .int (Int32.ofInt x)) (hq : Q (.inl (some (vi x))) h) : Ev Θ M fr lc mc ms pc ls [vi x] h Q := by
  intro p e R s m args below meth c H locs cells slots ρ la hF hR hS0 hS1 hc hs hl hlv hst
  obtain ⟨d, rfl⟩ := d
  refine W.widen (k := R.cells) (n := R.slots) (by omega) (by omega) (vx_ret ?_)
  exact W.zret (v := Int32.ofInt x) hF.1 hF.2.1 (hF.2.2.1.trans hr) hn (PoQ.mk (r := some (vi x)) hR hS1 (fun v hv => by cases hv; exact (vok1 hst).1) hq) hS1.2.2 d hF.2.2.2.2.2.1
theorem Ev.lreturn {x : BitVec 64} (d : Dq (mB M) pc .lreturn 1 pc') (hr : mR M = some .long) (hq : Q (.inl (some (vl x))) h) : Ev Θ M fr lc mc ms pc ls [vl x] h Q := by
  intro p e R s m args below meth c H locs cells slots ρ la hF hR hS0 hS1 hc hs hl hlv hst
  obtain ⟨d, rfl⟩ := d
  refine W.widen (k := R.cells) (n := R.slots) (by omega) (by omega) (vx_ret ?_)
  exact W.lret (v := Int64.ofBitVec x) hF.1 hF.2.1 (hF.2.2.1.trans hr) (PoQ.mk (r := some (vl x)) hR hS1 (fun v hv => by cases hv; exact trivial) hq) hS1.2.2 d hF.2.2.2.2.2.1
theorem Ev.ret (d : Dq (mB M) pc .return_ 1 pc') (hr : mR M = none) (hq : Q (.inl none) h) : Ev Θ M fr lc mc ms pc ls [] h Q := by
  intro p e R s m args below meth c H locs cells slots ρ la hF hR hS0 hS1 hc hs hl hlv hst
  obtain ⟨d, rfl⟩ := d
  refine W.widen (k := R.cells) (n := R.slots) (by omega) (by omega) (vx_ret ?_)
  exact W.vret hF.1 hF.2.1 (hF.2.2.1.trans hr) (PoQ.mk (r := none) hR hS1 (fun v hv => by cases hv) hq) hS1.2.2 d hF.2.2.2.2.2.1
theorem hts {p : Program} {R : Room} {s : State} {m : MethodId} {meth : Method} {c : Code} {args : Array Value} (hF : Fr Θ M fr lc p R s m meth c) : ∀ w ∈ GW, w.before args s = true := fun _ hw => gwB hF hw
theorem get_any {C j ix k t : Nat} {fin : Bool} {v : Vv} (f : FOK (mO M) ix C k t fin) (d : Dq (mB M) pc (.getfield ix) 3 pc') (hv : ∀ ρ, tr Θ ρ v = fv ρ h C j k t) (ho : wfh h → hC h C j → vok h v) (kk : Ev Θ M fr lc mc ms pc' ls (v :: st) h Q) : Ev Θ M fr lc mc ms pc ls (vr C (j + 1) :: st) h Q := by
  intro p e R s m args below meth c H locs cells slots ρ la hF hR hS0 hS1 hc hs hl hlv hst
  obtain ⟨d, rfl⟩ := d
  obtain ⟨Cn, T, N, ty0, ⟨c1, c2, c3, c4, c5, c6, c7⟩, f1, f2, f3, f5, f6⟩ := f
  have hj : hC h C j := vok_lt (nS9 c2) (vok1 hst).1
  have hR0 := hR
  obtain ⟨ws, pos, hP, hD, hE, hJ, hw⟩ := hR
  have he := hE C j hj
  rw [ent_obj c2] at he
  have kw := kk p e R s m args below meth c H locs cells slots ρ la hF hR0 hS0 hS1 hc hs hl hlv (vokc (ho hw hj) (vok1 hst).2)
  rw [List.map_cons] at kw ⊢
  rw [tr_r (nS9 c2)]
  rw [hv ρ] at kw
  refine va_get (D := gD Θ) (cl := vwCl) (tys := gT Θ) hF.1 hF.2.1 (hts hF) c3 hF.2.2.2.2.1 hF.2.2.2.2.2.2.2.2.1.1 hP (pos C j) he c1 k f1 (gwB hF f2) (fun _ z => z) (v := fv ρ h C j k t) ?_ d kw
  rw [List.getElem?_mapIdx, f3]; rfl
theorem Ev.getI {C j ix k t : Nat} {fin : Bool} (f : FOK (mO M) ix C k t fin) (ht : t = 0 ∨ t = 100) (d : Dq (mB M) pc (.getfield ix) 3 pc') (kk : Ev Θ M fr lc mc ms pc' ls (vi (hI h C j k) :: st) h Q) : Ev Θ M fr lc mc ms pc ls (vr C (j + 1) :: st) h Q :=
  get_any (v := vi (hI h C j k)) f d (fun ρ => by unfold fv; rw [if_neg (by omega), if_pos ht]; rfl) (fun w _ => w.1 C j k) kk
theorem Ev.getL {C j ix k : Nat} {fin : Bool} (f : FOK (mO M) ix C k 1 fin) (d : Dq (mB M) pc (.getfield ix) 3 pc') (kk : Ev Θ M fr lc mc ms pc' ls (vl (hL h C j k) :: st) h Q) : Ev Θ M fr lc mc ms pc ls (vr C (j + 1) :: st) h Q :=
  get_any (v := vl (hL h C j k)) f d (fun ρ => by unfold fv; rw [if_pos rfl]; rfl) (fun w _ => trivial) kk
theorem Ev.getR {C j ix k C2 : Nat} {fin : Bool} (f : FOK (mO M) ix C k (C2 + 2) fin) (hC2 : noS C2) (h98 : C2 ≠ 98) (d : Dq (mB M) pc (.getfield ix) 3 pc') (kk : Ev Θ M fr lc mc ms pc' ls (vr C2 (hR h C j k) :: st) h Q) : Ev Θ M fr lc mc ms pc ls (vr C (j + 1) :: st) h Q :=
  get_any (v := vr C2 (hR h C j k)) f d (fun ρ => by unfold fv; rw [if_neg (by omega), if_neg (by omega), tr_rg hC2]; rfl) (fun w hj => by
    have h1 := w.2.1 C j k hj
    obtain ⟨Cn, T, N, ty0, ⟨c1, c2, c3, c4, c5, c6, c7⟩, f1, f2, f3, f5, f6⟩ := f
    have e : tgt C k = C2 := by unfold tgt; rw [if_neg (by omega), if_neg (by omega), List.getD_eq_getElem?_getD, f3]; simp
    rw [e] at h1
    exact Or.inr h1) kk
theorem put_any {C j ix k t : Nat} {v : Vv} {h' : Hp} (f : FOK (mO M) ix C k t false) (d : Dq (mB M) pc (.putfield ix) 3 pc') (hv : ∀ ρ, tr Θ ρ v = fv ρ h' C j k t) (ho : ∀ ρ k' t', k' ≠ k → fv ρ h' C j k' t' = fv ρ h C j k' t')
    (hs' : ∀ ρ C' j', ¬ (C' = C ∧ j' = j) → ent Θ ρ h' C' j' = ent Θ ρ h C' j') (hcnt : hC h' = hC h) (wf : wfh h → hC h C j → vok h v → wfh h') (hfit : ∀ ρ ty, tcode ty t → narrow ty (tr Θ ρ v) = tr Θ ρ v ∧ fits ty (tr Θ ρ v) = true) (kk : Ev Θ M fr lc mc ms pc' ls st h' Q) (hok : ∀ w, vok h w → vok h' w) : Ev Θ M fr lc mc ms pc ls (v :: vr C (j + 1) :: st) h Q := by
  intro p e R s m args below meth c H locs cells slots ρ la hF hR hS0 hS1 hc hs hl hlv hst
  obtain ⟨d, rfl⟩ := d
  obtain ⟨Cn, T, N, ty0, ⟨c1, c2, c3, c4, c5, c6, c7⟩, f1, f2, f3, f5, f6⟩ := f
  have h1 := vok1 hst
  have h2 := vok1 h1.2
  have hj : hC h C j := vok_lt (nS9 c2) h2.1
  obtain ⟨ws, pos, hP, hD, hE, hJ, hw⟩ := hR
  have he := hE C j hj
  rw [ent_obj c2] at he
  rw [List.map_cons, List.map_cons, tr_r (nS9 c2)]
  refine va_put (D := gD Θ) (cl := vwCl) (tys := gT Θ) (A := gA Θ) (H0 := s.heap) hF.1 hF.2.1 (hts hF) c3 ty0 c4 c5 hF.2.2.2.2.1 hF.2.2.2.2.2.2.2.2.1.1 hP hD hS1 (pos C j) he c1 k f1 (gwB hF f2) (fun _ z => z) f5 (c4 k f1) (hfit ρ _ (c7 k t f3)).1 (hfit ρ _ (c7 k t f3)).2 (by rw [List.length_mapIdx, c6]; exact f1) d (fun H1 locs1 hP1 hD1 hS11 => ?_)
  have hset := set_fs (ρ := ρ) (v := tr Θ ρ v) f3 (hv ρ).symm (ho ρ)
  have e1 : (.inr (C, ((ftl C).mapIdx (fun k t => fv ρ h C j k t)).set k (tr Θ ρ v)) : va_E) = ent Θ ρ h' C j := by rw [hset, ent_obj c2]
  rw [e1] at hP1 hD1
  have hR1 : Rel Θ ρ h' H1 := Rel.set hP1 hD1 hE hJ hj (hs' ρ) hcnt (wf hw hj h1.1)
  exact Ev.fin ⟨fun _ _ _ => rfl, fun _ _ q => by rw [hcnt]; exact q⟩ (kk p e R s m args below meth c H1 locs1 cells slots ρ la hF hR1 hS0 hS11 hc hs hl (fun q hq => hok _ (hlv q hq)) (fun w hw' => hok _ (h2.2 w hw')))
theorem vok_same {h h' : Hp} (hcnt : hC h' = hC h) (w : Vv) (hw : vok h w) : vok h' w := by
  rcases w with i | b | ⟨C, r⟩ | k
  · exact hw
  · trivial
  · rcases hw with h1 | h1
    · exact Or.inl h1
    · exact Or.inr (by unfold okr at h1 ⊢; rw [hcnt]; exact h1)
  · trivial
theorem fv_setI {ρ : Rn} {h : Hp} {C j k k' t : Nat} {x : Int} (hk : k' ≠ k) : fv ρ (setI h C j k x) C j k' t = fv ρ h C j k' t := by
  unfold fv
  rw [show hI (setI h C j k x) C j k' = hI h C j k' from up3_n (fun z => hk z.2.2)]
theorem fv_setL {ρ : Rn} {h : Hp} {C j k k' t : Nat} {x : BitVec 64} (hk : k' ≠ k) : fv ρ (setL h C j k x) C j k' t = fv ρ h C j k' t := by
  unfold fv
  rw [show hL (setL h C j k x) C j k' = hL h C j k' from up3_n (fun z => hk z.2.2)]
theorem fv_setR {ρ : Rn} {h : Hp} {C j k k' t : Nat} {x : Nat} (hk : k' ≠ k) : fv ρ (setR h C j k x) C j k' t = fv ρ h C j k' t := by
  unfold fv
  rw [show hR (setR h C j k x) C j k' = hR h C j k' from up3_n (fun z => hk z.2.2)]
theorem Ev.putI {C j ix k : Nat} {x : Int} (f : FOK (mO M) ix C k 0 false) (d : Dq (mB M) pc (.putfield ix) 3 pc') (kk : Ev Θ M fr lc mc ms pc' ls st (setI h C j k x) Q) : Ev Θ M fr lc mc ms pc ls (vi x :: vr C (j + 1) :: st) h Q :=
  put_any (v := vi x) (h' := setI h C j k x) f d (fun ρ => by unfold fv; rw [if_neg (by omega), if_pos (Or.inl rfl), show hI (setI h C j k x) C j k = x from up3_s]; rfl) (fun ρ k' t' hk => fv_setI hk) (fun ρ C' j' hn => ent_setI hn) rfl (fun w q v => w.setI q v)
    (fun ρ ty ht => by
      rcases ht with ⟨-, rfl⟩ | ⟨z, -⟩ | ⟨z, -⟩ | ⟨z, -⟩
      · exact ⟨rfl, rfl⟩
      · omega
      · omega
      · exact absurd rfl z) kk (vok_same rfl)
theorem Ev.putZ {C j ix k : Nat} {x : Int} (f : FOK (mO M) ix C k 100 false) (hx : x = 0 ∨ x = 1) (d : Dq (mB M) pc (.putfield ix) 3 pc') (kk : Ev Θ M fr lc mc ms pc' ls st (setI h C j k x) Q) : Ev Θ M fr lc mc ms pc ls (vi x :: vr C (j + 1) :: st) h Q :=
  put_any (v := vi x) (h' := setI h C j k x) f d (fun ρ => by unfold fv; rw [if_neg (by omega), if_pos (Or.inr rfl), show hI (setI h C j k x) C j k = x from up3_s]; rfl) (fun ρ k' t' hk => fv_setI hk) (fun ρ C' j' hn => ent_setI hn) rfl (fun w q v => w.setI q v)
    (fun ρ ty ht => by
      rcases ht with ⟨z, -⟩ | ⟨z, -⟩ | ⟨-, rfl⟩ | ⟨-, -, z, -⟩
      · omega
      · omega
      · rcases hx with rfl | rfl <;> exact ⟨rfl, rfl⟩
      · exact absurd rfl z) kk (vok_same rfl)
theorem Ev.putL {C j ix k : Nat} {x : BitVec 64} (f : FOK (mO M) ix C k 1 false) (d : Dq (mB M) pc (.putfield ix) 3 pc') (kk : Ev Θ M fr lc mc ms pc' ls st (setL h C j k x) Q) : Ev Θ M fr lc mc ms pc ls (vl x :: vr C (j + 1) :: st) h Q :=
  put_any (v := vl x) (h' := setL h C j k x) f d (fun ρ => by unfold fv; rw [if_pos rfl, show hL (setL h C j k x) C j k = x from up3_s]; rfl) (fun ρ k' t' hk => fv_setL hk) (fun ρ C' j' hn => ent_setL hn) rfl (fun w q v => w.setL q)
    (fun ρ ty ht => by
      rcases ht with ⟨z, -⟩ | ⟨-, rfl⟩ | ⟨z, -⟩ | ⟨-, z, -⟩
      · omega
      · exact ⟨rfl, rfl⟩
      · omega
      · exact absurd rfl z) kk (vok_same rfl)
/-- a final field, in its class's constructor -/
theorem Ev.putRF {C j ix k C2 r : Nat} (f : FOK (mO M) ix C k (C2 + 2) true) (hC2 : noS C2) (h98 : C2 ≠ 98) (hi : (mY M).name = "<init>") (hdecl : vwCl[C]?.map (·.1) = some (mO M)) (d : Dq (mB M) pc (.putfield ix) 3 pc') (kk : Ev Θ M fr lc mc ms pc' ls st (setR h C j k r) Q) : Ev Θ M fr lc mc ms pc ls (vr C2 r :: vr C (j + 1) :: st) h Q := by
  intro p e R s m args below meth c H locs cells slots ρ la hF hR hS0 hS1 hc hs hl hlv hst
  obtain ⟨d, rfl⟩ := d
  obtain ⟨Cn, T, N, ty0, ⟨c1, c2, c3, c4, c5, c6, c7⟩, f1, f2, f3, f5, f6⟩ := f
  have h1 := vok1 hst
  have h2 := vok1 h1.2
  have hj : hC h C j := vok_lt (nS9 c2) h2.1
  obtain ⟨ws, pos, hP, hD, hE, hJ, hw⟩ := hR
  have he := hE C j hj
  rw [ent_obj c2] at he
  rw [List.map_cons, List.map_cons, tr_r (nS9 c2), tr_rg hC2]
  have hty : (∃ n, ty0 k = .object n) ∨ ∃ u, ty0 k = .array u := by
    rcases c7 k _ f3 with ⟨z, -⟩ | ⟨z, -⟩ | ⟨z, -⟩ | ⟨-, -, -, z⟩
    · omega
    · omega
    · omega
    · exact z
  have hfit := rf_fits (ρ := ρ) (C := C2) (r := r) hty
  rw [c1] at hdecl
  have hd9 : (T k).1 = mO M := f6.trans (Option.some.inj hdecl)
  refine va_putF (D := gD Θ) (cl := vwCl) (tys := gT Θ) (A := gA Θ) (H0 := s.heap) hF.1 hF.2.1 (hts hF) c3 ty0 c4 c5 hF.2.2.2.2.1 hF.2.2.2.2.2.2.2.2.1.1 hP hD hS1 (pos C j) he c1 k f1 (gwB hF f2) (fun _ z => z) f5 (hF.2.2.2.2.2.2.2.1.trans hi) hd9 (c4 k f1) hfit.1 hfit.2 (by rw [List.length_mapIdx, c6]; exact f1) d (fun H1 locs1 hP1 hD1 hS11 => ?_)
  have hset := set_fs (ρ := ρ) (h' := setR h C j k r) (v := va_rf (rfo ρ C2 r)) f3 (by unfold fv; rw [if_neg (by omega), if_neg (by omega), show hR (setR h C j k r) C j k = r from up3_s]; rfl) (fun k' t' hk => fv_setR hk)
  have e1 : (.inr (C, ((ftl C).mapIdx (fun k t => fv ρ h C j k t)).set k (va_rf (rfo ρ C2 r))) : va_E) = ent Θ ρ (setR h C j k r) C j := by rw [hset, ent_obj c2]
  rw [e1] at hP1 hD1
  have e9 : tgt C k = C2 := by unfold tgt; rw [if_neg (by omega), if_neg (by omega), List.getD_eq_getElem?_getD, f3]; simp
  have hR1 : Rel Θ ρ (setR h C j k r) H1 := Rel.set hP1 hD1 hE hJ hj (fun C' j' hn => ent_setR hn) rfl (hw.setR hj (by rw [e9]; exact vok_le hC2 h1.1))
  exact Ev.fin ⟨fun _ _ _ => rfl, fun _ _ q => q⟩ (kk p e R s m args below meth c H1 locs1 cells slots ρ la hF hR1 hS0 hS11 hc hs hl (fun q hq => vok_same rfl _ (hlv q hq)) (fun w hw' => vok_same rfl _ (h2.2 w hw')))
theorem vin {k : Int} {n : Nat} (hk : 0 ≤ k) (h2 : k < n) (hn : n < 2147483648) : vp_in (Int32.ofInt k) n ∧ (Int32.ofInt k).toNatClampNeg = k.toNat := by
  obtain ⟨a, rfl⟩ := Int.eq_ofNat_of_zero_le hk
  have e : Int32.ofInt (a : Int) = nI a := rfl
  rw [e]
  exact ⟨vp_in_nI (by omega) (by omega), nI_clamp (by omega)⟩
theorem ent_ia {Θ : GC} {ρ : Rn} {h : Hp} {C j : Nat} (hA : 20 ≤ C ∧ C < 30) : ent Θ ρ h C j = .inl (gY Θ 0, hN h C j, .inl (fun k => Int32.ofInt (hI h C j k))) := by unfold ent; rw [if_pos hA]
theorem ent_ja {Θ : GC} {ρ : Rn} {h : Hp} {C j : Nat} (hA : 30 ≤ C ∧ C < 40) : ent Θ ρ h C j = .inl (gY Θ 1, hN h C j, .inr (.inl (fun k => Int64.ofBitVec (hL h C j k)))) := by unfold ent; rw [if_neg (by omega), if_pos hA]
theorem Ev.iaload {C j : Nat} {k : Int} (hA : 20 ≤ C ∧ C < 30) (h0 : 0 ≤ k) (h1 : k < hN h C j) (d : Dq (mB M) pc .iaload 1 pc') (kk : Ev Θ M fr lc mc ms pc' ls (vi (hI h C j k.toNat) :: st) h Q) : Ev Θ M fr lc mc ms pc ls (vi k :: vr C (j + 1) :: st) h Q := by
  intro p e R s m args below meth c H locs cells slots ρ la hF hR hS0 hS1 hc hs hl hlv hst
  obtain ⟨d, rfl⟩ := d
  have g1 := vok1 hst
  have g2 := vok1 g1.2
  have hR0 := hR
  obtain ⟨ws, pos, hP, hD, hE, hJ, hw⟩ := hR
  have he := hE C j (vok_lt (nSA hA) g2.1)
  rw [ent_ia hA] at he
  have hv := vin h0 h1 (hw.2.2.1 C j)
  have kw := kk p e R s m args below meth c H locs cells slots ρ la hF hR0 hS0 hS1 hc hs hl hlv (vokc (a := vi (hI h C j k.toNat)) (hw.1 C j _) g2.2)
  rw [List.map_cons] at kw ⊢
  rw [List.map_cons, tr_r (nSA hA)]
  refine va_iald (D := gD Θ) (cl := vwCl) (tys := gT Θ) hF.1 hF.2.1 hF.2.2.2.2.2.2.2.2.1.1 hP (pos C j) 0 he rfl hv.1 d ?_
  rw [hv.2]
  exact kw
theorem Ev.laload {C j : Nat} {k : Int} (hA : 30 ≤ C ∧ C < 40) (h0 : 0 ≤ k) (h1 : k < hN h C j) (d : Dq (mB M) pc .laload 1 pc') (kk : Ev Θ M fr lc mc ms pc' ls (vl (hL h C j k.toNat) :: st) h Q) : Ev Θ M fr lc mc ms pc ls (vi k :: vr C (j + 1) :: st) h Q := by
  intro p e R s m args below meth c H locs cells slots ρ la hF hR hS0 hS1 hc hs hl hlv hst
  obtain ⟨d, rfl⟩ := d
  have g1 := vok1 hst
  have g2 := vok1 g1.2
  have hR0 := hR
  obtain ⟨ws, pos, hP, hD, hE, hJ, hw⟩ := hR
  have he := hE C j (vok_lt (nSJ hA) g2.1)
  rw [ent_ja hA] at he
  have hv := vin h0 h1 (hw.2.2.1 C j)
  have kw := kk p e R s m args below meth c H locs cells slots ρ la hF hR0 hS0 hS1 hc hs hl hlv (vokc (a := vl (hL h C j k.toNat)) trivial g2.2)
  rw [List.map_cons] at kw ⊢
  rw [List.map_cons, tr_r (nSJ hA)]
  refine va_lald (D := gD Θ) (cl := vwCl) (tys := gT Θ) hF.1 hF.2.1 hF.2.2.2.2.2.2.2.2.1.1 hP (pos C j) 1 he rfl hv.1 d ?_
  rw [hv.2]
  exact kw
theorem Ev.aaload {CA C j : Nat} {k : Int} (hCA : (CA = 11 ∧ C = 3) ∨ (CA = 12 ∧ C = 6)) (h0 : 0 ≤ k) (h1 : k < hN h CA j) (d : Dq (mB M) pc .aaload 1 pc') (kk : Ev Θ M fr lc mc ms pc' ls (vr C (hR h CA j k.toNat) :: st) h Q) : Ev Θ M fr lc mc ms pc ls (vi k :: vr CA (j + 1) :: st) h Q := by
  intro p e R s m args below meth c H locs cells slots ρ la hF hR hS0 hS1 hc hs hl hlv hst
  obtain ⟨d, rfl⟩ := d
  have g1 := vok1 hst
  have g2 := vok1 g1.2
  have hR0 := hR
  obtain ⟨ws, pos, hP, hD, hE, hJ, hw⟩ := hR
  have hv := vin h0 h1 (hw.2.2.1 CA j)
  rcases hCA with ⟨rfl, rfl⟩ | ⟨rfl, rfl⟩
  · have he := hE 11 j (vok_lt (by decide) g2.1)
    have kw := kk p e R s m args below meth c H locs cells slots ρ la hF hR0 hS0 hS1 hc hs hl hlv (vokc (a := vr 3 (hR h 11 j k.toNat)) (Or.inr (hw.2.1 11 j k.toNat (vok_lt (by decide) g2.1))) g2.2)
    rw [List.map_cons, tr_rg (by decide)] at kw
    rw [List.map_cons, List.map_cons, tr_r (by decide)]
    refine va_aldq (D := gD Θ) (cl := vwCl) (tys := gT Θ) hF.1 hF.2.1 hF.2.2.2.2.2.2.2.2.1.1 hP (pos 11 j) 2 he rfl hv.1 d ?_
    rw [hv.2]
    exact kw
  · have he := hE 12 j (vok_lt (by decide) g2.1)
    have kw := kk p e R s m args below meth c H locs cells slots ρ la hF hR0 hS0 hS1 hc hs hl hlv (vokc (a := vr 6 (hR h 12 j k.toNat)) (Or.inr (hw.2.1 12 j k.toNat (vok_lt (by decide) g2.1))) g2.2)
    rw [List.map_cons, tr_rg (by decide)] at kw
    rw [List.map_cons, List.map_cons, tr_r (by decide)]
    refine va_aldq (D := gD Θ) (cl := vwCl) (tys := gT Θ) hF.1 hF.2.1 hF.2.2.2.2.2.2.2.2.1.1 hP (pos 12 j) 3 he rfl hv.1 d ?_
    rw [hv.2]
    exact kw
theorem Ev.iastore {C j : Nat} {k x : Int} (hA : 20 ≤ C ∧ C < 30) (h0 : 0 ≤ k) (h1 : k < hN h C j) (d : Dq (mB M) pc .iastore 1 pc') (kk : Ev Θ M fr lc mc ms pc' ls st (setI h C j k.toNat x) Q) : Ev Θ M fr lc mc ms pc ls (vi x :: vi k :: vr C (j + 1) :: st) h Q := by
  intro p e R s m args below meth c H locs cells slots ρ la hF hR hS0 hS1 hc hs hl hlv hst
  obtain ⟨d, rfl⟩ := d
  have g0 := vok1 hst
  have g1 := vok1 g0.2
  have g2 := vok1 g1.2
  obtain ⟨ws, pos, hP, hD, hE, hJ, hw⟩ := hR
  have he := hE C j (vok_lt (nSA hA) g2.1)
  rw [ent_ia hA] at he
  have hv := vin h0 h1 (hw.2.2.1 C j)
  rw [List.map_cons, List.map_cons, List.map_cons, tr_r (nSA hA)]
  refine va_iast (D := gD Θ) (cl := vwCl) (tys := gT Θ) (A := gA Θ) (H0 := s.heap) hF.1 hF.2.1 hF.2.2.2.2.2.2.2.2.1.1 hP hD hS1 (pos C j) 0 he rfl hv.1 d (fun H1 locs1 hP1 hD1 hS11 => ?_)
  have e1 : (.inl (gY Θ 0, hN h C j, .inl (upd (fun k => Int32.ofInt (hI h C j k)) (Int32.ofInt k).toNatClampNeg (Int32.ofInt x))) : va_E) = ent Θ ρ (setI h C j k.toNat x) C j := by
    rw [ent_ia hA]
    show _ = (.inl (gY Θ 0, hN h C j, .inl (fun k' => Int32.ofInt (up3 h.1 C j k.toNat x C j k'))) : va_E)
    rw [hv.2]
    congr 4
    funext q
    by_cases hq : q = k.toNat
    · subst hq; rw [pk_us, up3_s]
    · rw [pk_un hq, up3_n (fun z => hq z.2.2)]
  rw [e1] at hP1 hD1
  have hR1 : Rel Θ ρ (setI h C j k.toNat x) H1 := Rel.set hP1 hD1 hE hJ (vok_lt (nSA hA) g2.1) (fun C' j' hn => ent_setI hn) rfl (hw.setI (vok_lt (nSA hA) g2.1) g0.1)
  exact Ev.fin ⟨fun _ _ _ => rfl, fun _ _ q => q⟩ (kk p e R s m args below meth c H1 locs1 cells slots ρ la hF hR1 hS0 hS11 hc hs hl (fun q hq => vok_same rfl _ (hlv q hq)) (fun w hw' => vok_same rfl _ (g2.2 w hw')))
theorem Ev.lastore {C j : Nat} {k : Int} {x : BitVec 64} (hA : 30 ≤ C ∧ C < 40) (h0 : 0 ≤ k) (h1 : k < hN h C j) (d : Dq (mB M) pc .lastore 1 pc') (kk : Ev Θ M fr lc mc ms pc' ls st (setL h C j k.toNat x) Q) : Ev Θ M fr lc mc ms pc ls (vl x :: vi k :: vr C (j + 1) :: st) h Q := by
  intro p e R s m args below meth c H locs cells slots ρ la hF hR hS0 hS1 hc hs hl hlv hst
  obtain ⟨d, rfl⟩ := d
  have g0 := vok1 hst
  have g1 := vok1 g0.2
  have g2 := vok1 g1.2
  obtain ⟨ws, pos, hP, hD, hE, hJ, hw⟩ := hR
  have he := hE C j (vok_lt (nSJ hA) g2.1)
  rw [ent_ja hA] at he
  have hv := vin h0 h1 (hw.2.2.1 C j)
  rw [List.map_cons, List.map_cons, List.map_cons, tr_r (nSJ hA)]
  refine va_last (D := gD Θ) (cl := vwCl) (tys := gT Θ) (A := gA Θ) (H0 := s.heap) hF.1 hF.2.1 hF.2.2.2.2.2.2.2.2.1.1 hP hD hS1 (pos C j) 1 he rfl hv.1 d (fun H1 locs1 hP1 hD1 hS11 => ?_)
  have e1 : (.inl (gY Θ 1, hN h C j, .inr (.inl (vp_updL (fun k => Int64.ofBitVec (hL h C j k)) (Int32.ofInt k).toNatClampNeg (Int64.ofBitVec x)))) : va_E) = ent Θ ρ (setL h C j k.toNat x) C j := by
    rw [ent_ja hA]
    show _ = (.inl (gY Θ 1, hN h C j, .inr (.inl (fun k' => Int64.ofBitVec (up3 h.2.1 C j k.toNat x C j k')))) : va_E)
    rw [hv.2]
    congr 5
    funext q
    by_cases hq : q = k.toNat
    · subst hq; rw [pk_uLs, up3_s]
    · rw [pk_uLn hq, up3_n (fun z => hq z.2.2)]
  rw [e1] at hP1 hD1
  have hR1 : Rel Θ ρ (setL h C j k.toNat x) H1 := Rel.set hP1 hD1 hE hJ (vok_lt (nSJ hA) g2.1) (fun C' j' hn => ent_setL hn) rfl (hw.setL (vok_lt (nSJ hA) g2.1))
  exact Ev.fin ⟨fun _ _ _ => rfl, fun _ _ q => q⟩ (kk p e R s m args below meth c H1 locs1 cells slots ρ la hF hR1 hS0 hS11 hc hs hl (fun q hq => vok_same rfl _ (hlv q hq)) (fun w hw' => vok_same rfl _ (g2.2 w hw')))
theorem Ev.alen {C j : Nat} (hA : (20 ≤ C ∧ C < 30) ∨ (30 ≤ C ∧ C < 40)) (d : Dq (mB M) pc .arraylength 1 pc') (kk : Ev Θ M fr lc mc ms pc' ls (vi (hN h C j) :: st) h Q) : Ev Θ M fr lc mc ms pc ls (vr C (j + 1) :: st) h Q := by
  intro p e R s m args below meth c H locs cells slots ρ la hF hR hS0 hS1 hc hs hl hlv hst
  obtain ⟨d, rfl⟩ := d
  have g2 := vok1 hst
  have hR0 := hR
  obtain ⟨ws, pos, hP, hD, hE, hJ, hw⟩ := hR
  have hlen := hw.2.2.1 C j
  have kw := kk p e R s m args below meth c H locs cells slots ρ la hF hR0 hS0 hS1 hc hs hl hlv (vokc (a := vi (hN h C j)) (show inR _ by unfold inR; omega) g2.2)
  rw [List.map_cons] at kw ⊢
  have hn : noS C := by unfold noS; omega
  have he := hE C j (vok_lt hn g2.1)
  rw [tr_r hn]
  rcases hA with hA | hA
  · rw [ent_ia hA] at he
    exact va_alen (D := gD Θ) (cl := vwCl) (tys := gT Θ) hF.1 hF.2.1 hF.2.2.2.2.2.2.2.2.1.1 hP (pos C j) 0 he rfl rfl d kw
  · rw [ent_ja hA] at he
    exact va_alen (D := gD Θ) (cl := vwCl) (tys := gT Θ) hF.1 hF.2.1 hF.2.2.2.2.2.2.2.2.1.1 hP (pos C j) 1 he rfl rfl d kw
theorem va_S.tr {A : Nat → Prop} {H0 H1 H : Heap} {locs : List Loc} (h0 : va_S A H0 H1 []) (h1 : va_S A H1 H locs) : va_S A H0 H locs := ⟨Nat.le_trans h0.1 h1.1, fun q q1 q2 => (h1.2.1 q (Nat.lt_of_lt_of_le q1 h0.1) q2).trans (h0.2.1 q q1 q2), h1.2.2⟩
/-- the script -/
theorem Ev.sload {k : Int} (h0 : 0 ≤ k) (h1 : k < gN Θ) (d : Dq (mB M) pc .iaload 1 pc') (kk : Ev Θ M fr lc mc ms pc' ls (vi (gX Θ k.toNat).toInt :: st) h Q) : Ev Θ M fr lc mc ms pc ls (vi k :: vr 13 1 :: st) h Q := by
  intro p e R s m args below meth c H locs cells slots ρ la hF hR hS0 hS1 hc hs hl hlv hst
  obtain ⟨d, rfl⟩ := d
  have g1 := vok1 hst
  have g2 := vok1 g1.2
  obtain ⟨q1, q2, q3, q4, q5, q6, q7, q8, q9, q10⟩ := hF.2.2.2.2.2.2.2.2.1
  have hv := vin h0 h1 (by omega)
  have kw := kk p e R s m args below meth c H locs cells slots ρ la hF hR hS0 hS1 hc hs hl hlv (vokc (a := vi (gX Θ k.toNat).toInt) (inR_toInt _) g2.2)
  rw [List.map_cons] at kw ⊢
  rw [List.map_cons, show tr Θ ρ (vr 13 1) = .ref (gB Θ) from rfl]
  refine va_sld (A := gA Θ) (H0 := gH Θ) hF.1 hF.2.1 q7 q8 (fun z => absurd z (Nat.not_le.mpr q8)) (hS0.tr hS1) hv.1 d ?_
  rw [hv.2]
  have e1 : tr Θ ρ (vi (gX Θ k.toNat).toInt) = .int (gX Θ k.toNat) := by show Value.int (Int32.ofInt _) = _; rw [ofi]
  rw [e1] at kw
  exact kw
theorem Ev.slen (d : Dq (mB M) pc .arraylength 1 pc') (kk : Ev Θ M fr lc mc ms pc' ls (vi (gN Θ) :: st) h Q) : Ev Θ M fr lc mc ms pc ls (vr 13 1 :: st) h Q := by
  intro p e R s m args below meth c H locs cells slots ρ la hF hR hS0 hS1 hc hs hl hlv hst
  obtain ⟨d, rfl⟩ := d
  have g2 := vok1 hst
  obtain ⟨q1, q2, q3, q4, q5, q6, q7, q8, q9, q10⟩ := hF.2.2.2.2.2.2.2.2.1
  have kw := kk p e R s m args below meth c H locs cells slots ρ la hF hR hS0 hS1 hc hs hl hlv (vokc (a := vi (gN Θ)) (show inR _ by unfold inR; omega) g2.2)
  rw [List.map_cons] at kw ⊢
  rw [show tr Θ ρ (vr 13 1) = .ref (gB Θ) from rfl]
  exact va_slen (A := gA Θ) (H0 := gH Θ) hF.1 hF.2.1 q7 q8 (fun z => absurd z (Nat.not_le.mpr q8)) (hS0.tr hS1) d kw
end
