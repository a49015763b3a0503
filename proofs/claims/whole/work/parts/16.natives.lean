/-- ints copied from one array into another (or the same) -/
def cpI (h : Hp) (Cs js sp Cd jd dp n : Nat) : Hp := (fun C j k => if C = Cd ∧ j = jd ∧ dp ≤ k ∧ k < dp + n then h.1 Cs js (sp + (k - dp)) else h.1 C j k, h.2)
def cpL (h : Hp) (Cs js sp Cd jd dp n : Nat) : Hp := (h.1, fun C j k => if C = Cd ∧ j = jd ∧ dp ≤ k ∧ k < dp + n then h.2.1 Cs js (sp + (k - dp)) else h.2.1 C j k, h.2.2)
theorem wfh.cpI {h : Hp} {Cs js sp Cd jd dp n : Nat} (w : wfh h) (hj : hC h Cd jd) : wfh (cpI h Cs js sp Cd jd dp n) := ⟨fun C' j' k' => by
  show inR (if C' = Cd ∧ j' = jd ∧ dp ≤ k' ∧ k' < dp + n then h.1 Cs js (sp + (k' - dp)) else h.1 C' j' k')
  split
  · exact w.1 _ _ _
  · exact w.1 _ _ _, w.2.1, w.2.2.1, fun C' j' k' q => ⟨(if_neg (fun z => by rw [z.1, z.2.1] at q; exact absurd hj q)).trans (w.2.2.2 C' j' k' q).1, (w.2.2.2 C' j' k' q).2⟩⟩
theorem wfh.cpL {h : Hp} {Cs js sp Cd jd dp n : Nat} (w : wfh h) (hj : hC h Cd jd) : wfh (cpL h Cs js sp Cd jd dp n) := ⟨w.1, w.2.1, w.2.2.1, fun C' j' k' q => ⟨(w.2.2.2 C' j' k' q).1, (if_neg (fun z => by rw [z.1, z.2.1] at q; exact absurd hj q)).trans (w.2.2.2 C' j' k' q).2⟩⟩
section
variable {Θ : GC} {M : MD} {fr lc mc ms pc pc' : Nat} {ls : List (Nat × Vv)} {st : List Vv} {h : Hp} {Q : Ro → Hp → Prop}
def AOK (own : String) (ix : Nat) : Prop := Cond.methodLink own ix arraycopyName ∈ GW ∧ Cond.native arraycopyName ∈ GW ∧ Cond.static arraycopyName ∈ GW ∧ Cond.initialized "java/lang/System" ∈ GW
theorem nin {k : Int} (h0 : 0 ≤ k) (h1 : inR k) : ¬ Int32.ofInt k < 0 ∧ (Int32.ofInt k).toNatClampNeg = k.toNat := by
  have hv := vin (n := k.toNat + 1) h0 (by omega) |> fun q => q
  unfold inR at h1
  by_cases hk : k.toNat + 1 < 2147483648
  · have hz := hv hk
    exact ⟨fun z => hz.1 (Or.inl z), hz.2⟩
  · obtain ⟨a, rfl⟩ := Int.eq_ofNat_of_zero_le h0
    have e : Int32.ofInt (a : Int) = nI a := rfl
    rw [e]
    exact ⟨nI_pos (by omega), nI_clamp (by omega)⟩
theorem Ev.copyI {ix Cs js Cd jd : Nat} {sp dp n : Int} (hA : 20 ≤ Cs ∧ Cs < 30) (hB : 20 ≤ Cd ∧ Cd < 30) (f : AOK (mO M) ix) (h1 : 0 ≤ sp) (h2 : 0 ≤ dp) (h3 : 0 ≤ n) (h4 : sp + n ≤ hN h Cs js) (h5 : dp + n ≤ hN h Cd jd) (hfr : 1 ≤ fr) (hlc : csum st + (nativeFrameWords "java/lang/System" "arraycopy" 5 + 11) ≤ lc) (d : Dq (mB M) pc (.invokestatic ix) 3 pc')
    (kk : Ev Θ M fr lc mc ms pc' ls st (cpI h Cs js sp.toNat Cd jd dp.toNat n.toNat) Q) : Ev Θ M fr lc mc ms pc ls (vi n :: vi dp :: vr Cd (jd + 1) :: vi sp :: vr Cs (js + 1) :: st) h Q := by
  intro p e R s m args below meth c H locs cells slots ρ la hF hR hS0 hS1 hc hs hl hlv hst
  obtain ⟨d, rfl⟩ := d
  have g0 := vok1 hst
  have g1 := vok1 g0.2
  have g2 := vok1 g1.2
  have g3 := vok1 g2.2
  have g4 := vok1 g3.2
  obtain ⟨ws, pos, hP, hD, hE, hJ, hw⟩ := hR
  have hs' := hE Cs js (vok_lt (nSA hA) g4.1)
  have hd' := hE Cd jd (vok_lt (nSA hB) g2.1)
  rw [ent_ia hA] at hs'
  rw [ent_ia hB] at hd'
  have hfR := hF.2.2.2.2.2.2.2.2.2.1
  have hlR := hF.2.2.2.2.2.2.2.2.2.2
  have n1 := nin h3 g0.1
  have n2 := nin h2 g1.1
  have n3 := nin h1 g3.1
  simp only [List.map_cons]
  rw [tr_r (nSA hB), tr_r (nSA hA)]
  refine va_copyi (D := gD Θ) (cl := vwCl) (tys := gT Θ) (A := gA Θ) (H0 := s.heap) (ty := .int) hF.1 hF.2.1 (by rw [hF.2.2.2.1]; exact hl.1.symm) hF.2.2.2.2.1 (gwB hF f.1) (gwB hF f.2.1) (gwB hF f.2.2.1) (gwB hF f.2.2.2) hF.2.2.2.2.2.2.2.2.1.1 hP hD hS1 (pos Cs js) (pos Cd jd) 0 0 hs' hd' rfl rfl rfl n3.1 n2.1 n1.1 (by rw [n1.2, n3.2]; omega) (by rw [n1.2, n2.2]; omega) (fun i _ => rfl) (by rw [hfR]; exact hfr) (by rw [csum_tr, hlR]; exact hlc) d (fun H1 locs1 hP1 hD1 hS11 => ?_)
  have e1 : (.inl (gY Θ 0, hN h Cd jd, .inl (va_cpy (fun k => Int32.ofInt (hI h Cs js k)) (fun k => Int32.ofInt (hI h Cd jd k)) (Int32.ofInt sp).toNatClampNeg (Int32.ofInt dp).toNatClampNeg (Int32.ofInt n).toNatClampNeg)) : va_E) = ent Θ ρ (cpI h Cs js sp.toNat Cd jd dp.toNat n.toNat) Cd jd := by
    rw [ent_ia hB]
    show _ = (.inl (gY Θ 0, hN h Cd jd, .inl (fun k => Int32.ofInt (if Cd = Cd ∧ jd = jd ∧ dp.toNat ≤ k ∧ k < dp.toNat + n.toNat then h.1 Cs js (sp.toNat + (k - dp.toNat)) else h.1 Cd jd k))) : va_E)
    rw [n1.2, n2.2, n3.2]
    congr 4
    funext q
    unfold va_cpy
    by_cases hq : dp.toNat ≤ q ∧ q < dp.toNat + n.toNat
    · rw [if_pos hq, if_pos ⟨rfl, rfl, hq⟩]
    · rw [if_neg hq, if_neg (fun z => hq z.2.2)]
  rw [e1] at hP1 hD1
  have hR1 : Rel Θ ρ (cpI h Cs js sp.toNat Cd jd dp.toNat n.toNat) H1 := Rel.set hP1 hD1 hE hJ (vok_lt (nSA hB) g2.1) (fun C' j' hn => ent_congr (funext fun k' => if_neg (fun z => hn ⟨z.1, z.2.1⟩)) rfl rfl rfl) rfl (hw.cpI (vok_lt (nSA hB) g2.1))
  exact Ev.fin ⟨fun _ _ _ => rfl, fun _ _ q => q⟩ (kk p e R s m args below meth c H1 locs1 cells slots ρ la hF hR1 hS0 hS11 hc hs hl (fun q hq => vok_same rfl _ (hlv q hq)) (fun w hw' => vok_same rfl _ (g4.2 w hw')))
theorem Ev.copyL {ix Cs js Cd jd : Nat} {sp dp n : Int} (hA : 30 ≤ Cs ∧ Cs < 40) (hB : 30 ≤ Cd ∧ Cd < 40) (f : AOK (mO M) ix) (h1 : 0 ≤ sp) (h2 : 0 ≤ dp) (h3 : 0 ≤ n) (h4 : sp + n ≤ hN h Cs js) (h5 : dp + n ≤ hN h Cd jd) (hfr : 1 ≤ fr) (hlc : csum st + (nativeFrameWords "java/lang/System" "arraycopy" 5 + 11) ≤ lc) (d : Dq (mB M) pc (.invokestatic ix) 3 pc')
    (kk : Ev Θ M fr lc mc ms pc' ls st (cpL h Cs js sp.toNat Cd jd dp.toNat n.toNat) Q) : Ev Θ M fr lc mc ms pc ls (vi n :: vi dp :: vr Cd (jd + 1) :: vi sp :: vr Cs (js + 1) :: st) h Q := by
  intro p e R s m args below meth c H locs cells slots ρ la hF hR hS0 hS1 hc hs hl hlv hst
  obtain ⟨d, rfl⟩ := d
  have g0 := vok1 hst
  have g1 := vok1 g0.2
  have g2 := vok1 g1.2
  have g3 := vok1 g2.2
  have g4 := vok1 g3.2
  obtain ⟨ws, pos, hP, hD, hE, hJ, hw⟩ := hR
  have hs' := hE Cs js (vok_lt (nSJ hA) g4.1)
  have hd' := hE Cd jd (vok_lt (nSJ hB) g2.1)
  rw [ent_ja hA] at hs'
  rw [ent_ja hB] at hd'
  have hfR := hF.2.2.2.2.2.2.2.2.2.1
  have hlR := hF.2.2.2.2.2.2.2.2.2.2
  have n1 := nin h3 g0.1
  have n2 := nin h2 g1.1
  have n3 := nin h1 g3.1
  simp only [List.map_cons]
  rw [tr_r (nSJ hB), tr_r (nSJ hA)]
  refine va_copyl (D := gD Θ) (cl := vwCl) (tys := gT Θ) (A := gA Θ) (H0 := s.heap) (ty := .long) hF.1 hF.2.1 (by rw [hF.2.2.2.1]; exact hl.1.symm) hF.2.2.2.2.1 (gwB hF f.1) (gwB hF f.2.1) (gwB hF f.2.2.1) (gwB hF f.2.2.2) hF.2.2.2.2.2.2.2.2.1.1 hP hD hS1 (pos Cs js) (pos Cd jd) 1 1 hs' hd' rfl rfl rfl n3.1 n2.1 n1.1 (by rw [n1.2, n3.2]; omega) (by rw [n1.2, n2.2]; omega) (fun i _ => rfl) (by rw [hfR]; exact hfr) (by rw [csum_tr, hlR]; exact hlc) d (fun H1 locs1 hP1 hD1 hS11 => ?_)
  have e1 : (.inl (gY Θ 1, hN h Cd jd, .inr (.inl (va_cpy (fun k => Int64.ofBitVec (hL h Cs js k)) (fun k => Int64.ofBitVec (hL h Cd jd k)) (Int32.ofInt sp).toNatClampNeg (Int32.ofInt dp).toNatClampNeg (Int32.ofInt n).toNatClampNeg))) : va_E) = ent Θ ρ (cpL h Cs js sp.toNat Cd jd dp.toNat n.toNat) Cd jd := by
    rw [ent_ja hB]
    show _ = (.inl (gY Θ 1, hN h Cd jd, .inr (.inl (fun k => Int64.ofBitVec (if Cd = Cd ∧ jd = jd ∧ dp.toNat ≤ k ∧ k < dp.toNat + n.toNat then h.2.1 Cs js (sp.toNat + (k - dp.toNat)) else h.2.1 Cd jd k)))) : va_E)
    rw [n1.2, n2.2, n3.2]
    congr 5
    funext q
    unfold va_cpy
    by_cases hq : dp.toNat ≤ q ∧ q < dp.toNat + n.toNat
    · rw [if_pos hq, if_pos ⟨rfl, rfl, hq⟩]
    · rw [if_neg hq, if_neg (fun z => hq z.2.2)]
  rw [e1] at hP1 hD1
  have hR1 : Rel Θ ρ (cpL h Cs js sp.toNat Cd jd dp.toNat n.toNat) H1 := Rel.set hP1 hD1 hE hJ (vok_lt (nSJ hB) g2.1) (fun C' j' hn => ent_congr rfl (funext fun k' => if_neg (fun z => hn ⟨z.1, z.2.1⟩)) rfl rfl) rfl (hw.cpL (vok_lt (nSJ hB) g2.1))
  exact Ev.fin ⟨fun _ _ _ => rfl, fun _ _ q => q⟩ (kk p e R s m args below meth c H1 locs1 cells slots ρ la hF hR1 hS0 hS11 hc hs hl (fun q hq => vok_same rfl _ (hlv q hq)) (fun w hw' => vok_same rfl _ (g4.2 w hw')))
def MOK (own : String) (ix : Nat) (y : MethodName) (cc : ByteArray) (n : Nat) (ret : FieldType) : Prop := Cond.methodLink own ix y ∈ GW ∧ Cond.static y ∈ GW ∧ Cond.initialized "java/lang/Math" ∈ GW ∧ Cond.code y cc n (some ret) ∈ GW
theorem Ev.mmax {ix : Nat} {a b : Int} (f : MOK (mO M) ix Lib.Math.max.name Lib.Math.max.code 2 .int) (hfr : 1 ≤ fr) (hlc : csum st + 13 ≤ lc) (d : Dq (mB M) pc (.invokestatic ix) 3 pc') (kk : Ev Θ M fr lc mc ms pc' ls (vi (max a b) :: st) h Q) : Ev Θ M fr lc mc ms pc ls (vi b :: vi a :: st) h Q := by
  intro p e R s m args below meth c H locs cells slots ρ la hF hR hS0 hS1 hc hs hl hlv hst
  obtain ⟨d, rfl⟩ := d
  have g0 := vok1 hst
  have g1 := vok1 g0.2
  have hm : inR (max a b) := by
    have q1 : inR b := g0.1
    have q2 : inR a := g1.1
    unfold inR at q1 q2 ⊢
    omega
  have kw := kk p e R s m args below meth c H locs cells slots ρ la hF hR hS0 hS1 hc hs hl hlv (vokc (a := vi (max a b)) hm g1.2)
  refine va_mmax hF.1 hF.2.1 (by rw [hF.2.2.2.1]; exact hl.1.symm) hF.2.2.2.2.1 (gwB hF f.1) (gwB hF f.2.1) (gwB hF f.2.2.1) (gwB hF f.2.2.2) (by rw [hF.2.2.2.2.2.2.2.2.2.1]; exact hfr) (by rw [csum_tr, hF.2.2.2.2.2.2.2.2.2.2]; exact hlc) (by omega) (by omega) d ?_
  have e1 : (if Int32.ofInt a < Int32.ofInt b then Int32.ofInt b else Int32.ofInt a) = Int32.ofInt (max a b) := by
    by_cases hab : a < b
    · rw [if_pos ((i32_lt g1.1 g0.1).mpr hab), show max a b = b by omega]
    · rw [if_neg (fun z => hab ((i32_lt g1.1 g0.1).mp z)), show max a b = a by omega]
  rw [e1]
  exact kw
theorem Ev.mmin {ix : Nat} {a b : Int} (f : MOK (mO M) ix Lib.Math.min.name Lib.Math.min.code 2 .int) (hfr : 1 ≤ fr) (hlc : csum st + 13 ≤ lc) (d : Dq (mB M) pc (.invokestatic ix) 3 pc') (kk : Ev Θ M fr lc mc ms pc' ls (vi (min a b) :: st) h Q) : Ev Θ M fr lc mc ms pc ls (vi b :: vi a :: st) h Q := by
  intro p e R s m args below meth c H locs cells slots ρ la hF hR hS0 hS1 hc hs hl hlv hst
  obtain ⟨d, rfl⟩ := d
  have g0 := vok1 hst
  have g1 := vok1 g0.2
  have hm : inR (min a b) := by
    have q1 : inR b := g0.1
    have q2 : inR a := g1.1
    unfold inR at q1 q2 ⊢
    omega
  have kw := kk p e R s m args below meth c H locs cells slots ρ la hF hR hS0 hS1 hc hs hl hlv (vokc (a := vi (min a b)) hm g1.2)
  refine va_mmin hF.1 hF.2.1 (by rw [hF.2.2.2.1]; exact hl.1.symm) hF.2.2.2.2.1 (gwB hF f.1) (gwB hF f.2.1) (gwB hF f.2.2.1) (gwB hF f.2.2.2) (by rw [hF.2.2.2.2.2.2.2.2.2.1]; exact hfr) (by rw [csum_tr, hF.2.2.2.2.2.2.2.2.2.2]; exact hlc) (by omega) (by omega) d ?_
  have e1 : (if Int32.ofInt b < Int32.ofInt a then Int32.ofInt b else Int32.ofInt a) = Int32.ofInt (min a b) := by
    by_cases hab : b < a
    · rw [if_pos ((i32_lt g0.1 g1.1).mpr hab), show min a b = b by omega]
    · rw [if_neg (fun z => hab ((i32_lt g0.1 g1.1).mp z)), show min a b = a by omega]
  rw [e1]
  exact kw
theorem l_lt {a b : BitVec 64} : Int64.ofBitVec a < Int64.ofBitVec b ↔ a.toInt < b.toInt := by rw [Int64.lt_iff_toInt_lt]; rfl
theorem Ev.lmax {ix : Nat} {a b : BitVec 64} (f : MOK (mO M) ix Lib.MathLoose.max_long.x Lib.MathLoose.max_long.code 4 .long) (hfr : 1 ≤ fr) (hlc : csum st + 15 ≤ lc) (d : Dq (mB M) pc (.invokestatic ix) 3 pc') (kk : Ev Θ M fr lc mc ms pc' ls (vl (if b.toInt < a.toInt then a else b) :: st) h Q) : Ev Θ M fr lc mc ms pc ls (vl b :: vl a :: st) h Q := by
  intro p e R s m args below meth c H locs cells slots ρ la hF hR hS0 hS1 hc hs hl hlv hst
  obtain ⟨d, rfl⟩ := d
  have g0 := vok1 hst
  have g1 := vok1 g0.2
  have kw := kk p e R s m args below meth c H locs cells slots ρ la hF hR hS0 hS1 hc hs hl hlv (vokc (a := vl (if b.toInt < a.toInt then a else b)) trivial g1.2)
  refine va_mmax_long hF.1 hF.2.1 (by rw [hF.2.2.2.1]; exact hl.1.symm) hF.2.2.2.2.1 (gwB hF f.1) (gwB hF f.2.1) (gwB hF f.2.2.1) (gwB hF f.2.2.2) (by rw [hF.2.2.2.2.2.2.2.2.2.1]; exact hfr) (by rw [csum_tr, hF.2.2.2.2.2.2.2.2.2.2]; exact hlc) (by omega) (by omega) d ?_
  have e1 : (if Int64.ofBitVec b < Int64.ofBitVec a then Int64.ofBitVec a else Int64.ofBitVec b) = Int64.ofBitVec (if b.toInt < a.toInt then a else b) := by
    by_cases hab : b.toInt < a.toInt
    · rw [if_pos (l_lt.mpr hab), if_pos hab]
    · rw [if_neg (fun z => hab (l_lt.mp z)), if_neg hab]
  rw [e1]
  exact kw
theorem Ev.lmin {ix : Nat} {a b : BitVec 64} (f : MOK (mO M) ix Lib.MathLoose.min_long.x Lib.MathLoose.min_long.code 4 .long) (hfr : 1 ≤ fr) (hlc : csum st + 15 ≤ lc) (d : Dq (mB M) pc (.invokestatic ix) 3 pc') (kk : Ev Θ M fr lc mc ms pc' ls (vl (if b.toInt < a.toInt then b else a) :: st) h Q) : Ev Θ M fr lc mc ms pc ls (vl b :: vl a :: st) h Q := by
  intro p e R s m args below meth c H locs cells slots ρ la hF hR hS0 hS1 hc hs hl hlv hst
  obtain ⟨d, rfl⟩ := d
  have g0 := vok1 hst
  have g1 := vok1 g0.2
  have kw := kk p e R s m args below meth c H locs cells slots ρ la hF hR hS0 hS1 hc hs hl hlv (vokc (a := vl (if b.toInt < a.toInt then b else a)) trivial g1.2)
  refine va_mmin_long hF.1 hF.2.1 (by rw [hF.2.2.2.1]; exact hl.1.symm) hF.2.2.2.2.1 (gwB hF f.1) (gwB hF f.2.1) (gwB hF f.2.2.1) (gwB hF f.2.2.2) (by rw [hF.2.2.2.2.2.2.2.2.2.1]; exact hfr) (by rw [csum_tr, hF.2.2.2.2.2.2.2.2.2.2]; exact hlc) (by omega) (by omega) d ?_
  have e1 : (if Int64.ofBitVec b < Int64.ofBitVec a then Int64.ofBitVec b else Int64.ofBitVec a) = Int64.ofBitVec (if b.toInt < a.toInt then b else a) := by
    by_cases hab : b.toInt < a.toInt
    · rw [if_pos (l_lt.mpr hab), if_pos hab]
    · rw [if_neg (fun z => hab (l_lt.mp z)), if_neg hab]
  rw [e1]
  exact kw
/-- String constants -/
theorem Ev.ldcT {ix k : Nat} {tx : String} (hw : (mO M, ix, tx, k) ∈ SLW) (d : Dq (mB M) pc (.ldc ix) 2 pc') (kk : Ev Θ M fr lc mc ms pc' ls (vt k :: st) h Q) : Ev Θ M fr lc mc ms pc ls st h Q := by
  intro p e R s m args below meth c H locs cells slots ρ la hF hR hS0 hS1 hc hs hl hlv hst
  obtain ⟨d, rfl⟩ := d
  have hCx := hF.2.2.2.2.2.2.2.2.1
  have hq := hCx.2.2.2.2.2.2.2.2.2.2.2.2.2.2.1 _ hw
  exact va_ldcS hF.1 hF.2.1 hF.2.2.2.2.1 hq d (kk p e R s m args below meth c H locs cells slots ρ la hF hR hS0 hS1 hc hs hl hlv (vokc (a := vt k) trivial hst))
theorem Ev.getSV {ix k : Nat} (hk : k < 22) (hw : Cond.fieldLink (mO M) ix "java/lang/String" "value" "[B" ∈ GW) (d : Dq (mB M) pc (.getfield ix) 3 pc') (kk : Ev Θ M fr lc mc ms pc' ls (vr 14 (k + 1) :: st) h Q) : Ev Θ M fr lc mc ms pc ls (vt k :: st) h Q := by
  intro p e R s m args below meth c H locs cells slots ρ la hF hR hS0 hS1 hc hs hl hlv hst
  obtain ⟨d, rfl⟩ := d
  have hCx := hF.2.2.2.2.2.2.2.2.1
  have hq := (hCx.2.2.2.2.2.2.2.2.2.2.2.2.2.2.2.1 k hk).2.2.1
  exact vk_getf (A := gA Θ) hF.1 hF.2.1 (hq.kept hS0.2.1) hS1 hF.2.2.2.2.1 (gwB hF hw) (fun _ z => z) d (kk p e R s m args below meth c H locs cells slots ρ la hF hR hS0 hS1 hc hs hl hlv (vokc (a := vr 14 (k + 1)) (Or.inl (Or.inr (Or.inl rfl))) (vok1 hst).2))
theorem Ev.getSC {ix k : Nat} (hk : k < 22) (hw : Cond.fieldLink (mO M) ix "java/lang/String" "coder" "B" ∈ GW) (d : Dq (mB M) pc (.getfield ix) 3 pc') (kk : Ev Θ M fr lc mc ms pc' ls (vi 0 :: st) h Q) : Ev Θ M fr lc mc ms pc ls (vt k :: st) h Q := by
  intro p e R s m args below meth c H locs cells slots ρ la hF hR hS0 hS1 hc hs hl hlv hst
  obtain ⟨d, rfl⟩ := d
  have hCx := hF.2.2.2.2.2.2.2.2.1
  have hq := (hCx.2.2.2.2.2.2.2.2.2.2.2.2.2.2.2.1 k hk).2.1
  exact vk_getf (A := gA Θ) hF.1 hF.2.1 (hq.kept hS0.2.1) hS1 hF.2.2.2.2.1 (gwB hF hw) (fun _ z => z) d (kk p e R s m args below meth c H locs cells slots ρ la hF hR hS0 hS1 hc hs hl hlv (vokc (a := vi 0) (show inR 0 by unfold inR; omega) (vok1 hst).2))
theorem wby_len (k : Nat) : (wby k).length < 10 := by
  unfold wby
  have hh : ∀ i, i < 11 → (WB.getD i []).length < 10 := by decide +kernel
  exact hh _ (Nat.mod_lt _ (by omega))
theorem wby_R (k j : Nat) : 0 ≤ (wby k).getD j 0 ∧ (wby k).getD j 0 < 128 := by
  unfold wby
  have hh : ∀ i, i < 11 → ∀ j, j < 10 → 0 ≤ (WB.getD i []).getD j 0 ∧ (WB.getD i []).getD j 0 < 128 := by decide +kernel
  by_cases hj : j < 10
  · exact hh _ (Nat.mod_lt _ (by omega)) j hj
  · have h2 := wby_len k
    unfold wby at h2
    rw [List.getD_eq_getElem?_getD, List.getElem?_eq_none (by omega)]
    decide
theorem Ev.blen {k : Nat} (hk : k < 22) (d : Dq (mB M) pc .arraylength 1 pc') (kk : Ev Θ M fr lc mc ms pc' ls (vi (wby k).length :: st) h Q) : Ev Θ M fr lc mc ms pc ls (vr 14 (k + 1) :: st) h Q := by
  intro p e R s m args below meth c H locs cells slots ρ la hF hR hS0 hS1 hc hs hl hlv hst
  obtain ⟨d, rfl⟩ := d
  have hCx := hF.2.2.2.2.2.2.2.2.1
  have hq := (hCx.2.2.2.2.2.2.2.2.2.2.2.2.2.2.2.1 k hk).2.2.2
  have hlen := wby_len k
  exact va_tlen (A := gA Θ) (t := gV Θ k) hF.1 hF.2.1 (hq.kept hS0.2.1) hS1 rfl d (kk p e R s m args below meth c H locs cells slots ρ la hF hR hS0 hS1 hc hs hl hlv (vokc (a := vi (wby k).length) (show inR _ by unfold inR; omega) (vok1 hst).2))
theorem Ev.bload {k : Nat} {i : Int} (hk : k < 22) (h0 : 0 ≤ i) (h1 : i < (wby k).length) (d : Dq (mB M) pc .baload 1 pc') (kk : Ev Θ M fr lc mc ms pc' ls (vi ((wby k).getD i.toNat 0) :: st) h Q) : Ev Θ M fr lc mc ms pc ls (vi i :: vr 14 (k + 1) :: st) h Q := by
  intro p e R s m args below meth c H locs cells slots ρ la hF hR hS0 hS1 hc hs hl hlv hst
  obtain ⟨d, rfl⟩ := d
  have hCx := hF.2.2.2.2.2.2.2.2.1
  have hq := (hCx.2.2.2.2.2.2.2.2.2.2.2.2.2.2.2.1 k hk).2.2.2
  have hlen := wby_len k
  have hv := vin h0 h1 (by omega)
  have hb := wby_R k i.toNat
  exact va_tb (A := gA Θ) (t := gV Θ k) hF.1 hF.2.1 (hq.kept hS0.2.1) hS1 hv.1 (show Value.int (Int32.ofInt ((wby k).getD (Int32.ofInt i).toNatClampNeg 0)) = .int (Int32.ofInt ((wby k).getD i.toNat 0)) by rw [hv.2]) d (kk p e R s m args below meth c H locs cells slots ρ la hF hR hS0 hS1 hc hs hl hlv (vokc (a := vi ((wby k).getD i.toNat 0)) (show inR _ by unfold inR; omega) (vok1 (vok1 hst).2).2))
theorem Ev.getCS {ix : Nat} (hw : Cond.fieldLink (mO M) ix "java/lang/String" "COMPACT_STRINGS" "Z" ∈ GW) (d : Dq (mB M) pc (.getstatic ix) 3 pc') (kk : Ev Θ M fr lc mc ms pc' ls (vi 1 :: st) h Q) : Ev Θ M fr lc mc ms pc ls st h Q := by
  intro p e R s m args below meth c H locs cells slots ρ la hF hR hS0 hS1 hc hs hl hlv hst
  obtain ⟨d, rfl⟩ := d
  have hCx := hF.2.2.2.2.2.2.2.2.1
  have hq := hCx.2.2.2.2.2.2.2.2.2.2.2.2.2.2.2.2.1
  exact va_gets (A := gA Θ) hF.1 hF.2.1 (hq.kept hS0.2.1) hS1 hF.2.2.2.2.1 (gwB hF hw) (fun _ z => z) d (kk p e R s m args below meth c H locs cells slots ρ la hF hR hS0 hS1 hc hs hl hlv (vokc (a := vi 1) (show inR 1 by unfold inR; omega) hst))
theorem Ev.getSF {ix : Nat} (hw : Cond.fieldLink (mO M) ix "jdk/internal/util/Preconditions" "SIOOBE_FORMATTER" "Ljava/util/function/BiFunction;" ∈ GW) (d : Dq (mB M) pc (.getstatic ix) 3 pc') (kk : Ev Θ M fr lc mc ms pc' ls (vr 15 0 :: st) h Q) : Ev Θ M fr lc mc ms pc ls st h Q := by
  intro p e R s m args below meth c H locs cells slots ρ la hF hR hS0 hS1 hc hs hl hlv hst
  obtain ⟨d, rfl⟩ := d
  have hCx := hF.2.2.2.2.2.2.2.2.1
  have hq := hCx.2.2.2.2.2.2.2.2.2.2.2.2.2.2.2.2.2.1
  exact va_gets (A := gA Θ) hF.1 hF.2.1 (hq.kept hS0.2.1) hS1 hF.2.2.2.2.1 (gwB hF hw) (fun _ z => z) d (kk p e R s m args below meth c H locs cells slots ρ la hF hR hS0 hS1 hc hs hl hlv (vokc (a := vr 15 0) (Or.inl (Or.inr (Or.inr rfl))) hst))
/-- a virtual call on a String constant -/
theorem Ev.callT {N : MD} {ix k n fr' lc' mc' ms' mc1 ms1 : Nat} {as st0 : List Vv} {Qc : Ro → Hp → Prop} (f : VOK (mO M) ix N "java/lang/String" n) (hk : k < 22) (hst0 : st0 = as.reverse ++ vt k :: st) (hn : as.length = n) (hM : Cal Θ N fr' lc' mc' ms' (vt k :: as) h Qc)
    (hfr : fr' + 1 ≤ fr) (hlc : 8 + (mX N + 11) + lc' ≤ lc) (hmc : mc' + mc1 ≤ mc) (hms : ms' + ms1 ≤ ms) (hcs : csum st ≤ 8) (d : Dq (mB M) pc (.invokevirtual ix) 3 pc')
    (k1 : ∀ r h', Qc (.inl r) h' → Ev Θ M fr lc mc1 ms1 pc' ls (r.toList ++ st) h' Q) (k2 : ∀ E h', Qc (.inr E) h' → Exn Θ M fr lc mc1 ms1 pc ls h' E Q) : Ev Θ M fr lc mc ms pc ls st0 h Q := by
  intro p e R s m args below meth c H locs cells slots ρ la hF hR hS0 hS1 hc hs hl hlv hst
  obtain ⟨d, rfl⟩ := d
  obtain ⟨f1, f2, f3, f4, f5, f6⟩ := f
  have hCx := hF.2.2.2.2.2.2.2.2.1
  have hfR := hF.2.2.2.2.2.2.2.2.2.1
  have hlR := hF.2.2.2.2.2.2.2.2.2.2
  have hav : ∀ v ∈ vt k :: as, vok h v := fun v hv => hst v (by
    rw [hst0]
    rcases List.mem_cons.mp hv with y | y
    · rw [y]; exact List.mem_append_right _ List.mem_cons_self
    · exact List.mem_append_left _ (List.mem_reverse.mpr y))
  have hst1 : ∀ v ∈ st, vok h v := fun v hv => hst v (by rw [hst0]; exact List.mem_append_right _ (List.mem_cons_of_mem _ hv))
  have hm := hM ρ hav
  have hG := good_of f2
  rw [mW0 f1] at hm hG
  have hrc : ∃ cell : Cell, H[gK Θ k]? = some cell ∧ cell.vm.isStatics = false ∧ s.vm.findClass "java/lang/String" = some cell.cls := by
    obtain ⟨cell, z1, z2, z3, -⟩ := (hCx.2.2.2.2.2.2.2.2.2.2.2.2.2.2.2.1 k hk).1.kept (hS0.tr hS1).2.1
    exact ⟨cell, z1, z2, z3⟩
  refine Ev.after (mc' := mc') (ms' := ms') (st := st) (vx_runV (b := gK Θ k) (rest := st.map (tr Θ ρ)) (As := as.map (tr Θ ρ)) (fixed hF) hm (cwV n (hts hF) hG rfl rfl rfl ⟨f3, f4, f5, f6⟩ ⟨by rw [hfR]; exact hfr, by rw [hlR]; exact hlc⟩) ⟨blindI, hrc, fun U hU hW => preI hCx hR hS0 hS1 hU hW⟩ rfl (by rw [List.length_map]; exact hn) hl.1 ?_ (lv_room (by rw [csum_tr]; exact hcs)) d ⟨by omega, by omega⟩) hF hS0 hS1 (by omega) (by omega) hl hlv hst1 k1 k2
  show st0.map (tr Θ ρ) = _
  rw [hst0, List.map_append, List.map_cons, List.map_reverse]; rfl
/-- a static method with handlers -/
def HOK (own : String) (ix : Nat) (N : MD) (n : Nat) : Prop := mE N ≠ [] ∧ (∀ w ∈ va_wsS own ix (mY N) [mW N], w ∈ GW) ∧ (mY N).cls ≠ "java/lang/invoke/MethodHandle" ∧ (mY N).cls ≠ "java/lang/invoke/VarHandle" ∧ (parseMethodDescriptor (mY N).desc).map (fun d => d.parameters.length) = some n
theorem HOK.mk {own : String} {ix : Nat} {N : MD} {n : Nat} (h : mE N ≠ []) (a1 : Cond.methodLink own ix (mY N) ∈ GW) (a2 : Cond.static (mY N) ∈ GW) (a4 : Cond.initialized (mY N).cls ∈ GW) (a5 : Cond.codeWith (mY N) (mB N) (mX N) (mR N) (mE N) ∈ GW) (n1 : (mY N).cls ≠ "java/lang/invoke/MethodHandle" ∧ (mY N).cls ≠ "java/lang/invoke/VarHandle") (n3 : (parseMethodDescriptor (mY N).desc).map (fun d => d.parameters.length) = some n) : HOK own ix N n :=
  ⟨h, by unfold va_wsS mW; rw [if_neg h]; exact List.forall_mem_cons.mpr ⟨a1, List.forall_mem_cons.mpr ⟨a2, List.forall_mem_cons.mpr ⟨a4, List.forall_mem_cons.mpr ⟨a5, fun _ q => nomatch q⟩⟩⟩⟩, n1.1, n1.2, n3⟩
theorem mW1 {N : MD} (h : mE N ≠ []) : mW N = Cond.codeWith (mY N) (mB N) (mX N) (mR N) (mE N) := by unfold mW; rw [if_neg h]
theorem Ev.callH {N : MD} {ix n fr' lc' mc' ms' mc1 ms1 : Nat} {as st0 : List Vv} {Qc : Ro → Hp → Prop} (f : HOK (mO M) ix N n) (hst0 : st0 = as.reverse ++ st) (hn : as.length = n) (hM : Cal Θ N fr' lc' mc' ms' as h Qc)
    (hfr : fr' + 1 ≤ fr) (hlc : 8 + (mX N + 11) + lc' ≤ lc) (hmc : mc' + mc1 ≤ mc) (hms : ms' + ms1 ≤ ms) (hcs : csum st ≤ 8) (d : Dq (mB M) pc (.invokestatic ix) 3 pc')
    (k1 : ∀ r h', Qc (.inl r) h' → Ev Θ M fr lc mc1 ms1 pc' ls (r.toList ++ st) h' Q) (k2 : ∀ E h', Qc (.inr E) h' → Exn Θ M fr lc mc1 ms1 pc ls h' E Q) : Ev Θ M fr lc mc ms pc ls st0 h Q := by
  intro p e R s m args below meth c H locs cells slots ρ la hF hR hS0 hS1 hc hs hl hlv hst
  obtain ⟨d, rfl⟩ := d
  obtain ⟨f1, f2, f4, f5, f6⟩ := f
  have hCx := hF.2.2.2.2.2.2.2.2.1
  have hfR := hF.2.2.2.2.2.2.2.2.2.1
  have hlR := hF.2.2.2.2.2.2.2.2.2.2
  have hav : ∀ v ∈ as, vok h v := fun v hv => hst v (by rw [hst0]; exact List.mem_append_left _ (List.mem_reverse.mpr hv))
  have hst1 : ∀ v ∈ st, vok h v := fun v hv => hst v (by rw [hst0]; exact List.mem_append_right _ hv)
  have hm := hM ρ hav
  have hG := good_of f2
  rw [mW1 f1] at hm hG
  refine Ev.after (mc' := mc') (ms' := ms') (st := st) (vx_runSX (hh := mE N) (rest := st.map (tr Θ ρ)) (As := as.map (tr Θ ρ)) (fixed hF) hm (vx_cwSW n (hts hF) hG rfl rfl rfl ⟨f4, f5, f6⟩ ⟨by rw [hfR]; exact hfr, by rw [hlR]; exact hlc⟩) ⟨blindI, fun U hU hW => preI hCx hR hS0 hS1 hU hW⟩ rfl (by rw [List.length_map]; exact hn) hl.1 ?_ (lv_room (by rw [csum_tr]; exact hcs)) d ⟨by omega, by omega⟩) hF hS0 hS1 (by omega) (by omega) hl hlv hst1 k1 k2
  show st0.map (tr Θ ρ) = _
  rw [hst0, List.map_append, List.map_reverse]
/-- a handler that stores what it caught and forgets it -/
theorem Exn.catch {E : String} {pre suf : List (Nat × Nat × Nat × Nat)} {x : Nat × Nat × Nat × Nat} {i pc2 : Nat} {ls' : List (Nat × Vv)} {pcx : Nat} (hM : mE M = pre ++ x :: suf) (hpass : ∀ z ∈ pre, covers ⟨z.1, z.2.1, z.2.2.1, z.2.2.2⟩ pcx = false ∨ (z.2.2.2 ≠ 0 ∧ ∃ nm : String, Cond.classLink (mO M) z.2.2.2 nm ∈ GW ∧ (E, nm) ∈ NCP)) (hcov : covers ⟨x.1, x.2.1, x.2.2.1, x.2.2.2⟩ pcx = true) (h0 : x.2.2.2 ≠ 0)
    (w1 : Cond.classLink (mO M) x.2.2.2 E ∈ GW) (w2 : Cond.castable E E ∈ lw_tbl) (hi : i < mX M) (d : (∃ k : Fin 4, (k : Nat) = i ∧ Dq (mB M) x.2.2.1 (.astore_n k) 1 pc2) ∨ Dq (mB M) x.2.2.1 (.astore i) 2 pc2) (ks : List Nat) (hk : ks.filterMap (fun i => ls[i]?) = ls') (hok : ls'.all (fun q => !(Nat.beq q.1 i) && !(Nat.beq (q.1 + 1) i && isL q.2)) = true)
    (k : Ev Θ M fr lc mc ms pc2 ls' [] h Q) : Exn Θ M fr lc mc ms pcx ls h E Q := by
  intro p e R s m args below meth c H locs cells slots ρ la q ce rest hF hR hS0 hS1 hc hs hl hlv hce hcv hcl
  have hCx := hF.2.2.2.2.2.2.2.2.1
  have hm : ∀ q ∈ ls', q ∈ ls := fun q hq => by
    rw [← hk] at hq
    obtain ⟨i, -, hi⟩ := List.mem_filterMap.mp hq
    exact List.mem_of_getElem? hi
  have hfin : ∀ la' : Array Slot, lv_has la' (mX M) ((i, .ref q) :: (trl Θ ρ ls).filter (fun q => !(q.1 == i) && !(q.1 + 1 == i && q.2.category == 2))) → W p (gL Θ) e R s m args below meth c H locs cells slots (vx_MQ below (PoQ Θ ρ h Q) (PoX Θ ρ h Q) args s R.cells R.slots (gA Θ)) (F0 m pc2 la' []) := fun la' hl' => by
    refine k p e R s m args below meth c H locs cells slots ρ la' hF hR hS0 hS1 hc hs ⟨hl'.1, hl'.2.1, fun q1 hq1 => hl'.2.2 q1 ?_⟩ (fun q1 hq1 => hlv q1 (hm q1 hq1)) (fun v hv => by cases hv)
    obtain ⟨q0, h1, rfl⟩ := List.mem_map.mp hq1
    refine List.mem_cons_of_mem _ (List.mem_filter.mpr ⟨List.mem_map.mpr ⟨q0, hm q0 h1, rfl⟩, ?_⟩)
    have h2 := List.all_eq_true.mp hok q0 h1
    have hc2 := tr_c2 (Θ := Θ) (ρ := ρ) (v := q0.2)
    rw [Bool.and_eq_true] at h2
    have e1 : ¬ q0.1 = i := fun z => by
      have h3 := h2.1
      rw [z, Nat.beq_refl] at h3
      cases h3
    show (!(q0.1 == i) && !(q0.1 + 1 == i && (tr Θ ρ q0.2).category == 2)) = true
    rw [hc2, beq_eq_false_iff_ne.mpr e1]
    cases hx : isL q0.2
    · rw [show ((if false = true then 2 else 1) == 2) = false from rfl, Bool.and_false]; rfl
    · have h3 := h2.2
      rw [hx, Bool.and_true] at h3
      have e2 : ¬ q0.1 + 1 = i := fun z => by
        rw [z, Nat.beq_refl] at h3
        cases h3
      rw [beq_eq_false_iff_ne.mpr e2]; rfl
  refine vx_catch (c := c) hF.2.2.2.2.1 (tableOf pre) ⟨x.1, x.2.1, x.2.2.1, x.2.2.2⟩ (tableOf suf) (by rw [hF.2.2.2.2.2.2.1, hM]; unfold tableOf; rw [List.map_append, List.map_cons]) (fun z hz => ?_) hcov h0 (gwB hF w1) (va_Nw.use rfl (hCx.2.2.2.2.2.2.2.2.2.2.2.1 _ w2)) hce hcv hcl ?_
  · obtain ⟨z0, hz0, rfl⟩ := List.mem_map.mp hz
    rcases hpass z0 hz0 with y | ⟨y1, nm, y2, y3⟩
    · exact Or.inl y
    · exact Or.inr ⟨y1, nm, gwB hF y2, hCx.2.2.2.2.2.2.2.2.2.2.2.2.1 _ y3⟩
  · rcases d with ⟨k4, hk4, d, rfl⟩ | ⟨d, rfl⟩
    · exact lv_astore_n hF.1 hF.2.1 d hk4 hl hi rfl hfin
    · exact lv_astore hF.1 hF.2.1 d hl hi rfl hfin
end
theorem Cal.ofH {Θ : GC} {M : MD} {fr lc mc ms : Nat} {av : List Vv} {h : Hp} {Q : Ro → Hp → Prop} (hp : plainName (mY M).cls = true) (hcl : (mY M).cls = mO M) (hE : mE M ≠ []) (hcs : csum av ≤ mX M) (k : Ev Θ M fr lc mc ms 0 (ags 0 av) [] h Q) : Cal Θ M fr lc mc ms av h Q := by
  intro ρ hav
  rw [mW1 hE]
  refine vx_ofWH (cc := mB M) (maxL := mX M) (ret := mR M) (hh := mE M) hp rfl ?_
  intro p e s m args below meth c s₁ B hml hv
  obtain ⟨rfl, hCx, hR, hS⟩ := hv
  have hF : Fr Θ M fr lc p { frames := fr, cells := mc, slots := ms, locals := lc } s m meth c := ⟨B.exec, B.bytes, B.returns, hml, by rw [← hcl]; exact findClass_of_methodNamed B.named, B.notSynchronized, vx_table (x := mY M) B (atoms_spec (ws := [Cond.codeWith (mY M) (mB M) (mX M) (mR M) (mE M)]) B.pre _ List.mem_cons_self), (name_of_methodNamed B.named B.method).1, hCx, rfl, rfl⟩
  have hl := lv_entry (av.map (tr Θ ρ)) (n := mX M) (by rw [sl_len]; exact hcs)
  rw [← ags_tr] at hl
  rw [lg_entry_eq]
  exact k p e _ s m _ below meth c s.heap [] 0 0 ρ _ hF hR hS va_S.rf (by show 0 + mc ≤ mc; omega) (by show 0 + ms ≤ ms; omega) hl (fun q hq => hav _ (ags_mem 0 av q hq)) (fun v hv => by cases hv)
