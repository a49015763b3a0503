theorem rfo_ext {ρ ρ' : Rn} {h : Hp} {C r : Nat} (hx : ∀ C j, hC h C j → ρ' C j = ρ C j) (hr : okr h C r) : rfo ρ' C r = rfo ρ C r := by
  unfold rfo
  by_cases h0 : r = 0
  · rw [if_pos h0, if_pos h0]
  · rw [if_neg h0, if_neg h0, hx C (r - 1) (hr.resolve_left h0)]
theorem ent_ext {Θ : GC} {ρ ρ' : Rn} {h : Hp} {C j : Nat} (hx : ∀ C j, hC h C j → ρ' C j = ρ C j) (w : ∀ k, okr h (tgt C k) (hR h C j k)) : ent Θ ρ' h C j = ent Θ ρ h C j := by
  unfold ent
  by_cases e9 : 20 ≤ C ∧ C < 30
  · rw [if_pos e9, if_pos e9]
  rw [if_neg e9, if_neg e9]
  by_cases e10 : 30 ≤ C ∧ C < 40
  · rw [if_pos e10, if_pos e10]
  rw [if_neg e10, if_neg e10]
  by_cases e11 : C = 11
  · rw [if_pos e11, if_pos e11]
    have e : (fun k => rfo ρ' 3 (hR h C j k)) = fun k => rfo ρ 3 (hR h C j k) := funext fun k => rfo_ext hx (by have := w k; rwa [show tgt C k = 3 by unfold tgt; rw [if_pos e11]] at this)
    rw [e]
  rw [if_neg e11, if_neg e11]
  by_cases e12 : C = 12
  · rw [if_pos e12, if_pos e12]
    have e : (fun k => rfo ρ' 6 (hR h C j k)) = fun k => rfo ρ 6 (hR h C j k) := funext fun k => rfo_ext hx (by have := w k; rwa [show tgt C k = 6 by unfold tgt; rw [if_neg e11, if_pos e12]] at this)
    rw [e]
  rw [if_neg e12, if_neg e12]
  congr 2
  apply List.ext_getElem?
  intro k
  rw [List.getElem?_mapIdx, List.getElem?_mapIdx]
  cases ht : (ftl C)[k]? with
  | none => rfl
  | some t =>
    refine congrArg some ?_
    show fv ρ' h C j k t = fv ρ h C j k t
    unfold fv
    have e : tgt C k = t - 2 := by unfold tgt; rw [if_neg e11, if_neg e12, List.getD_eq_getElem?_getD, ht]; rfl
    have hr := w k
    rw [e] at hr
    rw [rfo_ext hx hr]
theorem tr_ext {Θ : GC} {ρ ρ' : Rn} {h : Hp} {v : Vv} (hx : ∀ C j, hC h C j → ρ' C j = ρ C j) (hv : vok h v) : tr Θ ρ' v = tr Θ ρ v := by
  rcases v with i | b | ⟨C, r⟩ | k
  · rfl
  · rfl
  · rcases hv with hv | hv
    · unfold tr
      dsimp only
      by_cases h13 : C = 13
      · rw [if_pos h13, if_pos h13]
      by_cases h14 : C = 14
      · rw [if_neg h13, if_neg h13, if_pos h14, if_pos h14]
      by_cases h15 : C = 15
      · rw [if_neg h13, if_neg h13, if_neg h14, if_neg h14, if_pos h15, if_pos h15]
      · omega
    · unfold tr
      dsimp only
      rw [rfo_ext hx hv]
  · rfl
theorem trm_ext {Θ : GC} {ρ ρ' : Rn} {h : Hp} {st : List Vv} (hx : ∀ C j, hC h C j → ρ' C j = ρ C j) (hv : ∀ v ∈ st, vok h v) : st.map (tr Θ ρ') = st.map (tr Θ ρ) := List.map_congr_left fun v q => tr_ext hx (hv v q)
theorem trl_ext {Θ : GC} {ρ ρ' : Rn} {h : Hp} {ls : List (Nat × Vv)} (hx : ∀ C j, hC h C j → ρ' C j = ρ C j) (hv : ∀ q ∈ ls, vok h q.2) : trl Θ ρ' ls = trl Θ ρ ls := List.map_congr_left fun q z => by rw [tr_ext hx (hv q z)]
theorem alc_cnt {h : Hp} {C j n : Nat} (C' j' : Nat) (q : hC h C' j') : hC (alc h C j n) C' j' := Or.inl q
theorem alc_own {h : Hp} {C j n : Nat} : hC (alc h C j n) C j := Or.inr ⟨rfl, rfl⟩
theorem okr_alc {h : Hp} {C j n C' r : Nat} (q : okr h C' r) : okr (alc h C j n) C' r := q.imp id (alc_cnt _ _)
theorem wfh.alc {h : Hp} {C j n : Nat} (w : wfh h) (hn : n < 2147483648) : wfh (alc h C j n) := by
  refine ⟨w.1, fun C' j' k' hj' => ?_, fun C' j' => ?_, fun C' j' k' q => w.2.2.2 C' j' k' (fun z => q (alc_cnt _ _ z))⟩
  · show okr _ _ (zr h.2.2.1 C j C' j' k')
    by_cases hz : C' = C ∧ j' = j
    · rw [hz.1, hz.2, zr_s]; exact Or.inl rfl
    · rw [zr_n hz]; exact okr_alc (w.2.1 C' j' k' (hj'.resolve_right hz))
  · show up2 (hN h) C j n C' j' < _
    unfold up2
    split
    · exact hn
    · exact w.2.2.1 _ _
theorem vok_alc {h : Hp} {C j n : Nat} {v : Vv} (hv : vok h v) : vok (alc h C j n) v := by
  rcases v with i | b | ⟨C', r⟩ | k
  · exact hv
  · trivial
  · rcases hv with h1 | h1
    · exact Or.inl h1
    · exact Or.inr (okr_alc h1)
  · trivial
theorem up2_x {ρ : Rn} {h : Hp} {C j q : Nat} (hn : ¬ hC h C j) : ∀ C' j', hC h C' j' → up2 ρ C j q C' j' = ρ C' j' := fun C' j' hj => by
  unfold up2
  rw [if_neg (fun z => hn (by rw [← z.1, ← z.2]; exact hj))]
theorem Rel.push {Θ : GC} {ρ : Rn} {h : Hp} {H1 : Heap} {ws : va_W} {pos : Nat → Nat → Nat} {C j n q : Nat} (hnew : ¬ hC h C j) (hP1 : va_P (gD Θ) vwCl (ws ++ [(q, ent Θ (up2 ρ C j q) (alc h C j n) C j)]) H1) (hD1 : va_D (gA Θ) (ws ++ [(q, ent Θ (up2 ρ C j q) (alc h C j n) C j)]))
    (hE : ∀ C j, hC h C j → ws[pos C j]? = some (ρ C j, ent Θ ρ h C j)) (hJ : ∀ C j C' j', hC h C j → hC h C' j' → pos C j = pos C' j' → C = C' ∧ j = j') (hw : wfh h) (hn : n < 2147483648) : Rel Θ (up2 ρ C j q) (alc h C j n) H1 := by
  have old : ∀ C' j', hC (alc h C j n) C' j' → ¬ (C' = C ∧ j' = j) → hC h C' j' := fun C' j' q1 q2 => q1.resolve_right q2
  refine ⟨_, fun C' j' => if C' = C ∧ j' = j then ws.length else pos C' j', hP1, hD1, fun C' j' q2 => ?_, fun C1 j1 C2 j2 q2 q4 e => ?_, hw.alc hn⟩
  · dsimp only
    by_cases hz : C' = C ∧ j' = j
    · rw [if_pos hz]
      obtain ⟨rfl, rfl⟩ := hz
      rw [List.getElem?_append_right (Nat.le_refl _), Nat.sub_self]
      show some _ = some _
      have e9 : up2 ρ C' j' q C' j' = q := by unfold up2; rw [if_pos ⟨rfl, rfl⟩]
      rw [e9]
    · rw [if_neg hz]
      have hj := old C' j' q2 hz
      have h1 := hE C' j' hj
      rw [List.getElem?_append_left (List.getElem?_eq_some_iff.mp h1).1, h1, up2_x hnew C' j' hj]
      have e1 : ent Θ (up2 ρ C j q) (alc h C j n) C' j' = ent Θ (up2 ρ C j q) h C' j' := ent_congr rfl rfl (by
        show zr h.2.2.1 C j C' j' = h.2.2.1 C' j'
        funext k
        exact zr_n hz) (by
        show up2 (hN h) C j n C' j' = hN h C' j'
        unfold up2; rw [if_neg hz])
      rw [e1, ent_ext (up2_x hnew) (fun k => hw.2.1 _ _ k hj)]
  · dsimp only at e
    by_cases z1 : C1 = C ∧ j1 = j
    · by_cases z2 : C2 = C ∧ j2 = j
      · exact ⟨z1.1.trans z2.1.symm, z1.2.trans z2.2.symm⟩
      · rw [if_pos z1, if_neg z2] at e
        have := (List.getElem?_eq_some_iff.mp (hE C2 j2 (old C2 j2 q4 z2))).1
        omega
    · by_cases z2 : C2 = C ∧ j2 = j
      · rw [if_neg z1, if_pos z2] at e
        have := (List.getElem?_eq_some_iff.mp (hE C1 j1 (old C1 j1 q2 z1))).1
        omega
      · rw [if_neg z1, if_neg z2] at e
        exact hJ C1 j1 C2 j2 (old C1 j1 q2 z1) (old C2 j2 q4 z2) e
section
variable {Θ : GC} {M : MD} {fr lc mc ms pc pc' : Nat} {ls : List (Nat × Vv)} {st : List Vv} {h : Hp} {Q : Ro → Hp → Prop}
theorem hA_of {Θ : GC} {s : State} (hS0 : va_S (gA Θ) (gH Θ) s.heap []) : ∀ q, s.heap.size ≤ q → gA Θ q := fun _ hq => Nat.le_trans hS0.1 hq
theorem Ev.alcW {p : Program} {e : Env} {R : Room} {s : State} {m : MethodId} {args : Array Value} {below : List Frame} {meth : Method} {c : Code} {H1 : Heap} {locs1 : List Loc} {cells slots : Nat} {ρ : Rn} {la : Array Slot} {C j n q mc1 ms1 : Nat} (hnew : ¬ hC h C j)
    (kk : Ev Θ M fr lc mc1 ms1 pc' ls (vr C (j + 1) :: st) (alc h C j n) Q) (hF : Fr Θ M fr lc p R s m meth c) (hR1 : Rel Θ (up2 ρ C j q) (alc h C j n) H1) (hS0 : va_S (gA Θ) (gH Θ) s.heap []) (hS1 : va_S (gA Θ) s.heap H1 locs1) (hc : cells + mc1 ≤ R.cells) (hs : slots + ms1 ≤ R.slots) (hl : lv_has la (mX M) (trl Θ ρ ls)) (hlv : ∀ q ∈ ls, vok h q.2) (hst : ∀ v ∈ st, vok h v) (h13 : noS C) :
    W p (gL Θ) e R s m args below meth c H1 locs1 cells slots (vx_MQ below (PoQ Θ ρ h Q) (PoX Θ ρ h Q) args s R.cells R.slots (gA Θ)) (F0 m pc' la (.ref q :: st.map (tr Θ ρ))) := by
  refine Ev.fin (ρ1 := up2 ρ C j q) (h1 := alc h C j n) ⟨up2_x hnew, alc_cnt⟩ ?_
  have kw := kk p e R s m args below meth c H1 locs1 cells slots (up2 ρ C j q) la hF hR1 hS0 hS1 hc hs (by rw [trl_ext (up2_x hnew) hlv]; exact hl) (fun z hz => vok_alc (hlv z hz)) (vokc (a := vr C (j + 1)) (Or.inr (Or.inr alc_own)) (fun z hz => vok_alc (hst z hz)))
  rw [List.map_cons, trm_ext (up2_x hnew) hst, tr_r h13] at kw
  rw [show up2 ρ C j q C j = q by unfold up2; rw [if_pos ⟨rfl, rfl⟩]] at kw
  exact kw
theorem fv_zero {ρ : Rn} {h : Hp} {C j k t n : Nat} {ty : FieldType} (w : wfh h) (hj : ¬ hC h C j) (ht : tcode ty t) : defaultValue ty = fv ρ (alc h C j n) C j k t := by
  obtain ⟨z1, z2⟩ := w.2.2.2 C j k hj
  have z1 : hI (alc h C j n) C j k = 0 := z1
  have z2 : hL (alc h C j n) C j k = 0 := z2
  have z3 : hR (alc h C j n) C j k = 0 := zr_s
  unfold fv
  rcases ht with ⟨rfl, rfl⟩ | ⟨rfl, rfl⟩ | ⟨rfl, rfl⟩ | ⟨a, b, c, d⟩
  · rw [if_neg (by omega), if_pos (Or.inl rfl), z1]; rfl
  · rw [if_pos rfl, z2]; rfl
  · rw [if_neg (by omega), if_pos (Or.inr rfl), z1]; rfl
  · rw [if_neg b, if_neg (by omega), z3]
    rcases d with ⟨n, rfl⟩ | ⟨u, rfl⟩ <;> rfl
theorem Ev.new {C ix N mc1 ms1 : Nat} (j : Nat) {Cn : String} {T : u_T} {ty0 : Nat → FieldType} (f : COK C Cn T N ty0) (w1 : Cond.classLink (mO M) ix Cn ∈ GW) (w2 : Cond.instantiable Cn N ∈ GW) (w3 : Cond.initialized Cn ∈ GW) (hnew : ¬ hC h C j) (hm : mc = mc1 + 1) (hsl : ms = ms1 + N) (d : Dq (mB M) pc (.new ix) 3 pc') (kk : Ev Θ M fr lc mc1 ms1 pc' ls (vr C (j + 1) :: st) (alc h C j 0) Q) : Ev Θ M fr lc mc ms pc ls st h Q := by
  intro p e R s m args below meth c H locs cells slots ρ la hF hR hS0 hS1 hc hs hl hlv hst
  obtain ⟨d, rfl⟩ := d
  subst hm hsl
  obtain ⟨c1, c2, c3, c4, c5, c6, c7⟩ := f
  obtain ⟨ws, pos, hP, hD, hE, hJ, hw⟩ := hR
  refine va_new (D := gD Θ) (cl := vwCl) (tys := gT Θ) (A := gA Θ) (H0 := s.heap) (fs := (ftl C).mapIdx (fun k t => fv ρ (alc h C j 0) C j k t)) hF.1 hF.2.1 (hts hF) c3 ty0 c4 hF.2.2.2.2.1 (gwB hF w1) (gwB hF w2) (gwB hF w3) hF.2.2.2.2.2.2.2.2.1.1 hP hD hS1 (hA_of hS0) c1 (fun i hj => ?_) (by omega) (by omega) d (fun q H1 hP1 hD1 hS11 => ?_)
  · have ht := List.getElem?_eq_getElem (l := ftl C) (i := i) (by rw [c6]; exact hj)
    unfold vp_V
    rw [List.getD_eq_getElem?_getD, List.getElem?_mapIdx, ht]
    exact fv_zero hw hnew (c7 i _ ht)
  · have e1 : ent Θ ρ (alc h C j 0) C j = ent Θ (up2 ρ C j q) (alc h C j 0) C j := by
      rw [ent_obj c2, ent_obj c2]
      refine congrArg (fun l => (.inr (C, l) : va_E)) (List.ext_getElem? fun k => ?_)
      rw [List.getElem?_mapIdx, List.getElem?_mapIdx]
      cases (ftl C)[k]? with
      | none => rfl
      | some t =>
        refine congrArg some ?_
        have z3 : hR (alc h C j 0) C j k = 0 := zr_s
        show fv ρ (alc h C j 0) C j k t = fv (up2 ρ C j q) (alc h C j 0) C j k t
        unfold fv
        rw [z3]
        rfl
    rw [← ent_obj (Θ := Θ) c2, e1] at hP1 hD1
    exact Ev.alcW hnew kk hF (Rel.push hnew hP1 hD1 hE hJ hw (by omega)) hS0 hS11 (by omega) (by omega) hl hlv hst (nS9 c2)
theorem Ev.newI {k : Int} {mc1 ms1 : Nat} (C j : Nat) (hA : 20 ≤ C ∧ C < 30) (hnew : ¬ hC h C j) (w1 : Cond.arrayClass .int ∈ GW) (h0 : 0 ≤ k) (h1 : k < 100000) (hm : mc = mc1 + 1) (hsl : ms = ms1 + k.toNat) (d : Dq (mB M) pc (.newarray .int) 2 pc') (kk : Ev Θ M fr lc mc1 ms1 pc' ls (vr C (j + 1) :: st) (alc h C j k.toNat) Q) : Ev Θ M fr lc mc ms pc ls (vi k :: st) h Q := by
  intro p e R s m args below meth c H locs cells slots ρ la hF hR hS0 hS1 hc hs hl hlv hst
  obtain ⟨d, rfl⟩ := d
  subst hm hsl
  have g1 := vok1 hst
  obtain ⟨ws, pos, hP, hD, hE, hJ, hw⟩ := hR
  have hK := hF.2.2.2.2.2.2.2.2.1.1
  have hv := vin (n := 100000) h0 (by omega) (by omega)
  rw [List.map_cons]
  refine va_newa (D := gD Θ) (cl := vwCl) (tys := gT Θ) (A := gA Θ) (H0 := s.heap) (atype := .int) (ty := .int) (N' := k.toNat) (a0 := (k.toNat, .inl (fun i => Int32.ofInt (hI h C j i)))) hF.1 hF.2.1 (gwB hF w1) rfl hK hP hD hS1 (hA_of hS0) (fun cA => ?_) ?_ hv.2 ?_ (by omega) (by omega) d (fun q cA H1 hK1 hP1 hD1 hS11 => ?_)
  · rw [vp_cell_i]
    congr 1
    funext i
    rw [(hw.2.2.2 C j i hnew).1]; rfl
  · intro z; exact hv.1 (Or.inl z)
  · show k.toNat * 4 ≤ _
    omega
  · have hcA : cA = gY Θ 0 := by
      have a1 : s.vm.findClass _ = some cA := (hK1.2 4 (cA, .int) rfl).2
      have a2 : s.vm.findClass _ = some (gY Θ 0) := (hK.2 0 (gY Θ 0, .int) rfl).2
      exact Option.some.inj (a1.symm.trans a2)
    subst hcA
    have e1 : (.inl (gY Θ 0, k.toNat, .inl (fun i => Int32.ofInt (hI h C j i))) : va_E) = ent Θ (up2 ρ C j q) (alc h C j k.toNat) C j := by
      rw [ent_ia hA]
      show _ = (.inl (gY Θ 0, up2 (hN h) C j k.toNat C j, .inl (fun i => Int32.ofInt (hI h C j i))) : va_E)
      rw [show up2 (hN h) C j k.toNat C j = k.toNat by unfold up2; rw [if_pos ⟨rfl, rfl⟩]]
    rw [e1] at hP1 hD1
    exact Ev.alcW hnew kk hF (Rel.push hnew hP1 hD1 hE hJ hw (by omega)) hS0 hS11 (by omega) (by omega) hl hlv g1.2 (nSA hA)
theorem Ev.newJ {k : Int} {mc1 ms1 : Nat} (C j : Nat) (hA : 30 ≤ C ∧ C < 40) (hnew : ¬ hC h C j) (w1 : Cond.arrayClass .long ∈ GW) (h0 : 0 ≤ k) (h1 : k < 100000) (hm : mc = mc1 + 1) (hsl : ms = ms1 + k.toNat) (d : Dq (mB M) pc (.newarray .long) 2 pc') (kk : Ev Θ M fr lc mc1 ms1 pc' ls (vr C (j + 1) :: st) (alc h C j k.toNat) Q) : Ev Θ M fr lc mc ms pc ls (vi k :: st) h Q := by
  intro p e R s m args below meth c H locs cells slots ρ la hF hR hS0 hS1 hc hs hl hlv hst
  obtain ⟨d, rfl⟩ := d
  subst hm hsl
  have g1 := vok1 hst
  obtain ⟨ws, pos, hP, hD, hE, hJ, hw⟩ := hR
  have hK := hF.2.2.2.2.2.2.2.2.1.1
  have hv := vin (n := 100000) h0 (by omega) (by omega)
  rw [List.map_cons]
  refine va_newa (D := gD Θ) (cl := vwCl) (tys := gT Θ) (A := gA Θ) (H0 := s.heap) (atype := .long) (ty := .long) (N' := k.toNat) (a0 := (k.toNat, .inr (.inl (fun i => Int64.ofBitVec (hL h C j i))))) hF.1 hF.2.1 (gwB hF w1) rfl hK hP hD hS1 (hA_of hS0) (fun cA => ?_) ?_ hv.2 ?_ (by omega) (by omega) d (fun q cA H1 hK1 hP1 hD1 hS11 => ?_)
  · rw [vp_cell_l]
    congr 1
    funext i
    rw [(hw.2.2.2 C j i hnew).2]; rfl
  · intro z; exact hv.1 (Or.inl z)
  · show k.toNat * 8 ≤ _
    omega
  · have hcA : cA = gY Θ 1 := by
      have a1 : s.vm.findClass _ = some cA := (hK1.2 4 (cA, .long) rfl).2
      have a2 : s.vm.findClass _ = some (gY Θ 1) := (hK.2 1 (gY Θ 1, .long) rfl).2
      exact Option.some.inj (a1.symm.trans a2)
    subst hcA
    have e1 : (.inl (gY Θ 1, k.toNat, .inr (.inl (fun i => Int64.ofBitVec (hL h C j i)))) : va_E) = ent Θ (up2 ρ C j q) (alc h C j k.toNat) C j := by
      rw [ent_ja hA]
      show _ = (.inl (gY Θ 1, up2 (hN h) C j k.toNat C j, .inr (.inl (fun i => Int64.ofBitVec (hL h C j i)))) : va_E)
      rw [show up2 (hN h) C j k.toNat C j = k.toNat by unfold up2; rw [if_pos ⟨rfl, rfl⟩]]
    rw [e1] at hP1 hD1
    exact Ev.alcW hnew kk hF (Rel.push hnew hP1 hD1 hE hJ hw (by omega)) hS0 hS11 (by omega) (by omega) hl hlv g1.2 (nSJ hA)
theorem Ev.newQ {CA ix mc1 ms1 : Nat} {C : String} {k : Int} (j : Nat) (hnew : ¬ hC h CA j) (hCA : (CA = 11 ∧ C = RX3) ∨ (CA = 12 ∧ C = RX6)) (w1 : Cond.classLink (mO M) ix C ∈ GW) (h0 : 0 ≤ k) (h1 : k < 100000) (hm : mc = mc1 + 1) (hsl : ms = ms1 + k.toNat) (d : Dq (mB M) pc (.anewarray ix) 3 pc') (kk : Ev Θ M fr lc mc1 ms1 pc' ls (vr CA (j + 1) :: st) (alc h CA j k.toNat) Q) : Ev Θ M fr lc mc ms pc ls (vi k :: st) h Q := by
  intro p e R s m args below meth c H locs cells slots ρ la hF hR hS0 hS1 hc hs hl hlv hst
  obtain ⟨d, rfl⟩ := d
  subst hm hsl
  have g1 := vok1 hst
  obtain ⟨ws, pos, hP, hD, hE, hJ, hw⟩ := hR
  have hCx := hF.2.2.2.2.2.2.2.2.1
  have hK := hCx.1
  have hv := vin (n := 100000) h0 (by omega) (by omega)
  rw [List.map_cons]
  rcases hCA with ⟨rfl, rfl⟩ | ⟨rfl, rfl⟩
  · refine va_newq (D := gD Θ) (cl := vwCl) (tys := gT Θ) (A := gA Θ) (H0 := s.heap) (N' := k.toNat) (C := RX3) hF.1 hF.2.1 hF.2.2.2.2.1 (gwB hF w1) hCx.2.2.2.2.1 hK hP hD hS1 (hA_of hS0) (fun z => hv.1 (Or.inl z)) hv.2 (by omega) (by omega) (by omega) d (fun q cA H1 hK1 hP1 hD1 hS11 => ?_)
    have hcA : cA = gY Θ 2 := by
      obtain ⟨_, _, -, -, -, a1⟩ := (hK1.2 4 (cA, .object RX3) rfl).2
      obtain ⟨_, _, -, -, -, a2⟩ := (hK.2 2 (gY Θ 2, .object RX3) rfl).2
      exact Option.some.inj (a1.symm.trans a2)
    subst hcA
    have e1 : (.inl (gY Θ 2, k.toNat, .inr (.inr (.inr (.inr (fun _ => none))))) : va_E) = ent Θ (up2 ρ 11 j q) (alc h 11 j k.toNat) 11 j := by
      show _ = (.inl (gY Θ 2, up2 (hN h) 11 j k.toNat 11 j, .inr (.inr (.inr (.inr (fun i => rfo (up2 ρ 11 j q) 3 (zr h.2.2.1 11 j 11 j i)))))) : va_E)
      rw [show up2 (hN h) 11 j k.toNat 11 j = k.toNat by unfold up2; rw [if_pos ⟨rfl, rfl⟩]]
      congr 7
      funext i
      rw [zr_s]; rfl
    rw [e1] at hP1 hD1
    exact Ev.alcW hnew kk hF (Rel.push hnew hP1 hD1 hE hJ hw (by omega)) hS0 hS11 (by omega) (by omega) hl hlv g1.2 (by decide)
  · refine va_newq (D := gD Θ) (cl := vwCl) (tys := gT Θ) (A := gA Θ) (H0 := s.heap) (N' := k.toNat) (C := RX6) hF.1 hF.2.1 hF.2.2.2.2.1 (gwB hF w1) hCx.2.2.2.2.2.1 hK hP hD hS1 (hA_of hS0) (fun z => hv.1 (Or.inl z)) hv.2 (by omega) (by omega) (by omega) d (fun q cA H1 hK1 hP1 hD1 hS11 => ?_)
    have hcA : cA = gY Θ 3 := by
      obtain ⟨_, _, -, -, -, a1⟩ := (hK1.2 4 (cA, .object RX6) rfl).2
      obtain ⟨_, _, -, -, -, a2⟩ := (hK.2 3 (gY Θ 3, .object RX6) rfl).2
      exact Option.some.inj (a1.symm.trans a2)
    subst hcA
    have e1 : (.inl (gY Θ 3, k.toNat, .inr (.inr (.inr (.inr (fun _ => none))))) : va_E) = ent Θ (up2 ρ 12 j q) (alc h 12 j k.toNat) 12 j := by
      show _ = (.inl (gY Θ 3, up2 (hN h) 12 j k.toNat 12 j, .inr (.inr (.inr (.inr (fun i => rfo (up2 ρ 12 j q) 6 (zr h.2.2.1 12 j 12 j i)))))) : va_E)
      rw [show up2 (hN h) 12 j k.toNat 12 j = k.toNat by unfold up2; rw [if_pos ⟨rfl, rfl⟩]]
      congr 7
      funext i
      rw [zr_s]; rfl
    rw [e1] at hP1 hD1
    exact Ev.alcW hnew kk hF (Rel.push hnew hP1 hD1 hE hJ hw (by omega)) hS0 hS11 (by omega) (by omega) hl hlv g1.2 (by decide)
theorem Ev.aastore {CA C j r : Nat} {k : Int} (hCA : (CA = 11 ∧ C = 3) ∨ (CA = 12 ∧ C = 6)) (h0 : 0 ≤ k) (h1 : k < hN h CA j) (d : Dq (mB M) pc .aastore 1 pc') (kk : Ev Θ M fr lc mc ms pc' ls st (setR h CA j k.toNat (r + 1)) Q) : Ev Θ M fr lc mc ms pc ls (vr C (r + 1) :: vi k :: vr CA (j + 1) :: st) h Q := by
  intro p e R s m args below meth c H locs cells slots ρ la hF hR hS0 hS1 hc hs hl hlv hst
  obtain ⟨d, rfl⟩ := d
  have g0 := vok1 hst
  have g1 := vok1 g0.2
  have g2 := vok1 g1.2
  obtain ⟨ws, pos, hP, hD, hE, hJ, hw⟩ := hR
  have hv := vin h0 h1 (hw.2.2.1 CA j)
  rw [List.map_cons, List.map_cons, List.map_cons]
  rcases hCA with ⟨rfl, rfl⟩ | ⟨rfl, rfl⟩
  · have he := hE 11 j (vok_lt (by decide) g2.1)
    have hq := hE 3 r (vok_lt (by decide) g0.1)
    rw [ent_obj (by omega)] at hq
    rw [tr_r (by decide), tr_r (by decide)]
    refine va_astq (D := gD Θ) (cl := vwCl) (tys := gT Θ) (A := gA Θ) (H0 := s.heap) (r := (RX3, TX3, 7)) hF.1 hF.2.1 hF.2.2.2.2.2.2.2.2.1.1 hP hD hS1 (pos 11 j) 2 (pos 3 r) 3 he rfl hq rfl hv.1 d (fun H1 locs1 hP1 hD1 hS11 => ?_)
    have e1 : (.inl (gY Θ 2, hN h 11 j, .inr (.inr (.inr (.inr (va_up (fun k => rfo ρ 3 (hR h 11 j k)) (Int32.ofInt k).toNatClampNeg (some (ρ 3 r))))))) : va_E) = ent Θ ρ (setR h 11 j k.toNat (r + 1)) 11 j := by
      show _ = (.inl (gY Θ 2, hN h 11 j, .inr (.inr (.inr (.inr (fun i => rfo ρ 3 (up3 h.2.2.1 11 j k.toNat (r + 1) 11 j i)))))) : va_E)
      rw [hv.2]
      congr 7
      funext q
      unfold va_up
      by_cases hq : q = k.toNat
      · subst hq; rw [if_pos rfl, up3_s]; rfl
      · rw [if_neg hq, up3_n (fun z => hq z.2.2)]
    rw [e1] at hP1 hD1
    have hR1 : Rel Θ ρ (setR h 11 j k.toNat (r + 1)) H1 := Rel.set hP1 hD1 hE hJ (vok_lt (by decide) g2.1) (fun C' j' hn => ent_setR hn) rfl (hw.setR (vok_lt (by decide) g2.1) (Or.inr (vok_lt (C := 3) (by decide) g0.1)))
    exact Ev.fin ⟨fun _ _ _ => rfl, fun _ _ q => q⟩ (kk p e R s m args below meth c H1 locs1 cells slots ρ la hF hR1 hS0 hS11 hc hs hl (fun q hq => vok_same rfl _ (hlv q hq)) (fun w hw' => vok_same rfl _ (g2.2 w hw')))
  · have he := hE 12 j (vok_lt (by decide) g2.1)
    have hq := hE 6 r (vok_lt (by decide) g0.1)
    rw [ent_obj (by omega)] at hq
    rw [tr_r (by decide), tr_r (by decide)]
    refine va_astq (D := gD Θ) (cl := vwCl) (tys := gT Θ) (A := gA Θ) (H0 := s.heap) (r := (RX6, TX6, 8)) hF.1 hF.2.1 hF.2.2.2.2.2.2.2.2.1.1 hP hD hS1 (pos 12 j) 3 (pos 6 r) 6 he rfl hq rfl hv.1 d (fun H1 locs1 hP1 hD1 hS11 => ?_)
    have e1 : (.inl (gY Θ 3, hN h 12 j, .inr (.inr (.inr (.inr (va_up (fun k => rfo ρ 6 (hR h 12 j k)) (Int32.ofInt k).toNatClampNeg (some (ρ 6 r))))))) : va_E) = ent Θ ρ (setR h 12 j k.toNat (r + 1)) 12 j := by
      show _ = (.inl (gY Θ 3, hN h 12 j, .inr (.inr (.inr (.inr (fun i => rfo ρ 6 (up3 h.2.2.1 12 j k.toNat (r + 1) 12 j i)))))) : va_E)
      rw [hv.2]
      congr 7
      funext q
      unfold va_up
      by_cases hq : q = k.toNat
      · subst hq; rw [if_pos rfl, up3_s]; rfl
      · rw [if_neg hq, up3_n (fun z => hq z.2.2)]
    rw [e1] at hP1 hD1
    have hR1 : Rel Θ ρ (setR h 12 j k.toNat (r + 1)) H1 := Rel.set hP1 hD1 hE hJ (vok_lt (by decide) g2.1) (fun C' j' hn => ent_setR hn) rfl (hw.setR (vok_lt (by decide) g2.1) (Or.inr (vok_lt (C := 6) (by decide) g0.1)))
    exact Ev.fin ⟨fun _ _ _ => rfl, fun _ _ q => q⟩ (kk p e R s m args below meth c H1 locs1 cells slots ρ la hF hR1 hS0 hS11 hc hs hl (fun q hq => vok_same rfl _ (hlv q hq)) (fun w hw' => vok_same rfl _ (g2.2 w hw')))
end
