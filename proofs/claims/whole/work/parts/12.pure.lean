
def biand (a b : Int) : Int := (Int32.ofInt a &&& Int32.ofInt b).toInt
def bior (a b : Int) : Int := (Int32.ofInt a ||| Int32.ofInt b).toInt
def bixor (a b : Int) : Int := (Int32.ofInt a ^^^ Int32.ofInt b).toInt
def lcm (a b : BitVec 64) : Int := if b.toInt < a.toInt then 1 else if a = b then 0 else -1
theorem lcmR (a b : BitVec 64) : inR (lcm a b) := by unfold lcm inR; split <;> (try split) <;> omega
def isL (v : Vv) : Bool := match v with
  | .inr (.inl _) => true
  | _ => false
theorem inR_w32 (x : Int) : inR (w32 x) := by
  have h := inR_toInt (Int32.ofInt x)
  rw [Int32.toInt_ofInt] at h
  exact h
theorem l_add {a b : BitVec 64} : Int64.ofBitVec (a + b) = Int64.ofBitVec a + Int64.ofBitVec b := Int64.toBitVec_inj.mp (by simp)
theorem l_sub {a b : BitVec 64} : Int64.ofBitVec (a - b) = Int64.ofBitVec a - Int64.ofBitVec b := Int64.toBitVec_inj.mp (by simp)
theorem l_and {a b : BitVec 64} : Int64.ofBitVec (a &&& b) = Int64.ofBitVec a &&& Int64.ofBitVec b := Int64.toBitVec_inj.mp (by simp)
theorem l_or {a b : BitVec 64} : Int64.ofBitVec (a ||| b) = Int64.ofBitVec a ||| Int64.ofBitVec b := Int64.toBitVec_inj.mp (by simp)
theorem l_xor {a b : BitVec 64} : Int64.ofBitVec (a ^^^ b) = Int64.ofBitVec a ^^^ Int64.ofBitVec b := Int64.toBitVec_inj.mp (by simp)
theorem l_cmp {a b : BitVec 64} : Int32.ofInt (lcm a b) = lg_cmp (Int64.ofBitVec a) (Int64.ofBitVec b) := by
  unfold lcm lg_cmp
  have h1 : (Int64.ofBitVec a > Int64.ofBitVec b) ↔ b.toInt < a.toInt := by
    show Int64.ofBitVec b < Int64.ofBitVec a ↔ _
    rw [Int64.lt_iff_toInt_lt]; rfl
  have h2 : (Int64.ofBitVec a = Int64.ofBitVec b) ↔ a = b := ⟨fun e => by have := congrArg Int64.toBitVec e; simpa using this, fun e => by rw [e]⟩
  by_cases c1 : b.toInt < a.toInt
  · rw [if_pos c1, if_pos (h1.mpr c1)]; rfl
  · rw [if_neg c1, if_neg (fun z => c1 (h1.mp z))]
    by_cases c2 : a = b
    · rw [if_pos c2, if_pos (h2.mpr c2)]; rfl
    · rw [if_neg c2, if_neg (fun z => c2 (h2.mp z))]; rfl
theorem i_2l {a : Int} (ha : inR a) : (Int32.ofInt a).toInt64 = Int64.ofBitVec (BitVec.ofInt 64 a) := by
  apply Int64.toInt_inj.mp
  rw [Int32.toInt_toInt64, i32 ha]
  show a = (BitVec.ofInt 64 a).toInt
  rw [BitVec.toInt_ofInt]
  unfold inR at ha
  exact (Int.bmod_eq_of_le (by omega) (by omega)).symm
theorem l_2i (a : BitVec 64) : (Int64.ofBitVec a).toInt32 = Int32.ofInt (a.setWidth 32).toInt := by
  apply Int32.toBitVec_inj.mp
  rw [Int64.toBitVec_toInt32, Int32.toBitVec_ofInt, BitVec.ofInt_toInt]
  exact BitVec.signExtend_eq_setWidth_of_le _ (by decide)
theorem l_2iR (a : BitVec 64) : inR (a.setWidth 32).toInt := by
  have h := inR_toInt (Int32.ofInt (a.setWidth 32).toInt)
  rw [Int32.toInt_ofInt] at h
  have e : ((a.setWidth 32).toInt).bmod (2 ^ 32) = (a.setWidth 32).toInt := by
    have h1 := BitVec.toInt_lt (x := a.setWidth 32)
    have h2 := BitVec.le_toInt (a.setWidth 32)
    exact Int.bmod_eq_of_le (by omega) (by omega)
  rwa [show Int32.size = 2 ^ 32 from rfl, e] at h
theorem nnI {a : Int} (h0 : 0 ≤ a) : Int32.ofInt a = nI a.toNat := by
  obtain ⟨n, rfl⟩ := Int.eq_ofNat_of_zero_le h0
  rfl
theorem i_2c {a : Int} (h0 : 0 ≤ a) (h1 : a < 65536) : ((Int32.ofInt a).toUInt32 % 65536).toInt32 = Int32.ofInt a := by
  rw [pk_char, nnI h0, pk_tn (by omega), Nat.mod_eq_of_lt (by omega)]
theorem i_rem {a b : Int} (ha : inR a) (hb : inR b) (h0 : 0 ≤ a) (h1 : 0 < b) : Int32.ofInt a - Int32.ofInt a / Int32.ofInt b * Int32.ofInt b = Int32.ofInt (a % b) := by
  unfold inR at ha hb
  obtain ⟨n, rfl⟩ := Int.eq_ofNat_of_zero_le h0
  obtain ⟨k, rfl⟩ := Int.eq_ofNat_of_zero_le (Int.le_of_lt h1)
  have e := pk_rem (a := n) (d := k) (by omega) (by omega) (by omega)
  exact e
theorem i_remR {a b : Int} (ha : inR a) (h0 : 0 ≤ a) (h1 : 0 < b) : inR (a % b) := by
  unfold inR at *
  have h2 := Int.emod_nonneg a (b := b) (by omega)
  have h3 : a % b ≤ a := by
    rw [Int.emod_def]
    have : 0 ≤ b * (a / b) := Int.mul_nonneg (by omega) (Int.ediv_nonneg h0 (by omega))
    omega
  omega
theorem sm5 {b : Int} (h0 : 0 ≤ b) (h1 : b < 32) : ((Int32.ofInt b &&& 31).toBitVec.smod 32).toNat = b.toNat := by
  obtain ⟨n, rfl⟩ := Int.eq_ofNat_of_zero_le h0
  have hn : n < 32 := by omega
  have hh : ∀ n : Nat, n < 32 → ((Int32.ofInt (n : Int) &&& 31).toBitVec.smod 32).toNat = ((n : Int)).toNat := by decide +kernel
  exact hh n hn
theorem i_shr {a b : Int} (ha : inR a) (h0 : 0 ≤ b) (h1 : b < 32) : Int32.ofInt a >>> (Int32.ofInt b &&& 31) = Int32.ofInt (a / 2 ^ b.toNat) := by
  rw [← ofi (Int32.ofInt a >>> (Int32.ofInt b &&& 31)), pk_shr _ _ _ (sm5 h0 h1), i32 ha, Int.shiftRight_eq_div_pow]
  rfl
theorem i_shrR {a : Int} {n : Nat} (ha : inR a) : inR (a / 2 ^ n) := by
  unfold inR at *
  have hp : (0 : Int) < 2 ^ n := by exact Int.pow_pos (by omega)
  generalize (2 : Int) ^ n = w at hp ⊢
  have h1 : a / w * w ≤ a := Int.ediv_mul_le a (by omega)
  have h2 : a < (a / w + 1) * w := Int.lt_ediv_add_one_mul_self a hp
  rw [Int.add_mul, Int.one_mul] at h2
  refine ⟨?_, ?_⟩
  · exact Int.le_ediv_of_mul_le hp (by
      have : -2147483648 * w ≤ -2147483648 * 1 := Int.mul_le_mul_of_nonpos_left (by omega) (by omega)
      omega)
  · refine Int.le_of_lt_add_one (Int.ediv_lt_of_lt_mul hp ?_)
    have : (2147483647 + 1) * 1 ≤ (2147483647 + 1) * w := Int.mul_le_mul_of_nonneg_left (by omega) (by omega)
    omega
theorem i_shl {a b : Int} (h0 : 0 ≤ b) (h1 : b < 32) : Int32.ofInt a <<< (Int32.ofInt b &&& 31) = Int32.ofInt (w32 (a * 2 ^ b.toNat)) := by
  have e0 : Int32.ofInt (w32 (a * 2 ^ b.toNat)) = Int32.ofInt (a * 2 ^ b.toNat) := by
    apply Int32.toInt_inj.mp
    rw [i32 (inR_w32 _), Int32.toInt_ofInt]; rfl
  rw [e0]
  apply Int32.toBitVec_inj.mp
  apply BitVec.eq_of_toNat_eq
  rw [pk_shl _ _ _ (sm5 h0 h1)]
  apply Int.ofNat.inj
  show ((_ : Nat) : Int) = ((_ : Nat) : Int)
  simp only [Int32.toBitVec_ofInt, BitVec.toNat_ofInt]
  generalize b.toNat = n
  have hz : ((a % 4294967296).toNat : Int) = a % 4294967296 := Int.toNat_of_nonneg (Int.emod_nonneg _ (by omega))
  have hz2 : ((a * 2 ^ n % 4294967296).toNat : Int) = a * 2 ^ n % 4294967296 := Int.toNat_of_nonneg (Int.emod_nonneg _ (by omega))
  simp only [Int.natCast_emod, Int.natCast_mul, Int.natCast_pow]
  show ((a % 4294967296).toNat : Int) * 2 ^ n % 4294967296 = ((a * 2 ^ n % 4294967296).toNat : Int)
  rw [hz, hz2, Int.mul_emod (a % 4294967296), Int.emod_emod, ← Int.mul_emod]
theorem um5 {b : Int} (h0 : 0 ≤ b) (h1 : b < 32) : (((Int32.ofInt b).toUInt32 &&& Int32.toUInt32 31).toBitVec % 32).toNat = b.toNat := by
  obtain ⟨n, rfl⟩ := Int.eq_ofNat_of_zero_le h0
  have hn : n < 32 := by omega
  have hh : ∀ n : Nat, n < 32 → (((Int32.ofInt (n : Int)).toUInt32 &&& Int32.toUInt32 31).toBitVec % 32).toNat = ((n : Int)).toNat := by decide +kernel
  exact hh n hn
theorem i_ushr {a b : Int} (h0 : 0 ≤ b) (h1 : b < 32) : ((Int32.ofInt a).toUInt32 >>> ((Int32.ofInt b).toUInt32 &&& Int32.toUInt32 31)).toInt32 = Int32.ofInt (w32 (a % 4294967296 / 2 ^ b.toNat)) := by
  have e0 : Int32.ofInt (w32 (a % 4294967296 / 2 ^ b.toNat)) = Int32.ofInt (a % 4294967296 / 2 ^ b.toNat) := by
    apply Int32.toInt_inj.mp
    rw [i32 (inR_w32 _), Int32.toInt_ofInt]; rfl
  rw [e0]
  apply Int32.toBitVec_inj.mp
  apply BitVec.eq_of_toNat_eq
  rw [pk_ushr _ _ _ (um5 h0 h1)]
  simp only [Int32.toBitVec_ofInt, BitVec.toNat_ofInt]
  generalize b.toNat = n
  apply Int.ofNat.inj
  show ((_ : Nat) : Int) = ((_ : Nat) : Int)
  have hz : ((a % 4294967296).toNat : Int) = a % 4294967296 := Int.toNat_of_nonneg (Int.emod_nonneg _ (by omega))
  have hp : (0 : Int) < 2 ^ n := Int.pow_pos (by omega)
  have hd0 : 0 ≤ a % 4294967296 / 2 ^ n := Int.ediv_nonneg (Int.emod_nonneg _ (by omega)) (by omega)
  have hd1 : a % 4294967296 / 2 ^ n < 4294967296 := by
    have h3 : a % 4294967296 < 4294967296 := Int.emod_lt_of_pos _ (by omega)
    refine Int.ediv_lt_of_lt_mul hp ?_
    have : (4294967296 : Int) * 1 ≤ 4294967296 * 2 ^ n := Int.mul_le_mul_of_nonneg_left (by omega) (by omega)
    omega
  have hz2 : (((a % 4294967296 / 2 ^ n) % 4294967296).toNat : Int) = a % 4294967296 / 2 ^ n := by
    rw [Int.emod_eq_of_lt hd0 hd1, Int.toNat_of_nonneg hd0]
  simp only [Int.natCast_ediv, Int.natCast_pow]
  show ((a % 4294967296).toNat : Int) / 2 ^ n = (((a % 4294967296 / 2 ^ n) % 4294967296).toNat : Int)
  rw [hz, hz2]
theorem l_shl {a : BitVec 64} {b : Int} (h0 : 0 ≤ b) (h1 : b < 64) : Int64.ofBitVec a <<< ((Int32.ofInt b).toInt64 &&& 63) = Int64.ofBitVec (a <<< b.toNat) := by
  obtain ⟨n, rfl⟩ := Int.eq_ofNat_of_zero_le h0
  have hn : n < 64 := by omega
  have hh : ∀ n : Nat, n < 64 → (((Int32.ofInt (n : Int)).toInt64 &&& 63).toBitVec.smod 64) = BitVec.ofNat 64 n := by decide +kernel
  apply Int64.toBitVec_inj.mp
  show a <<< (((Int32.ofInt (n : Int)).toInt64 &&& 63).toBitVec.smod 64) = a <<< ((n : Int)).toNat
  rw [hh n hn]
  simp [BitVec.shiftLeft_eq', Nat.mod_eq_of_lt (Nat.lt_trans hn (by decide : (64 : Nat) < 2 ^ 64))]
theorem l_ushr {a : BitVec 64} {b : Int} (h0 : 0 ≤ b) (h1 : b < 64) : ((Int64.ofBitVec a).toUInt64 >>> ((Int32.ofInt b).toInt64.toUInt64 &&& Int64.toUInt64 63)).toInt64 = Int64.ofBitVec (a >>> b.toNat) := by
  obtain ⟨n, rfl⟩ := Int.eq_ofNat_of_zero_le h0
  have hn : n < 64 := by omega
  have hh : ∀ n : Nat, n < 64 → (((Int32.ofInt (n : Int)).toInt64.toUInt64 &&& Int64.toUInt64 63).toBitVec % 64) = BitVec.ofNat 64 n := by decide +kernel
  apply Int64.toBitVec_inj.mp
  show a >>> (((Int32.ofInt (n : Int)).toInt64.toUInt64 &&& Int64.toUInt64 63).toBitVec % 64) = a >>> ((n : Int)).toNat
  rw [hh n hn]
  simp [BitVec.ushiftRight_eq', Nat.mod_eq_of_lt (Nat.lt_trans hn (by decide : (64 : Nat) < 2 ^ 64))]
theorem rf_rf (r : Option Nat) : (∃ a, va_rf r = .ref a) ∨ va_rf r = .null := by
  cases r with
  | none => exact Or.inr rfl
  | some a => exact Or.inl ⟨a, rfl⟩
theorem tr_ref (Θ : GC) (ρ : Rn) {C r : Nat} : (∃ a, tr Θ ρ (vr C r) = .ref a) ∨ tr Θ ρ (vr C r) = .null := by
  unfold tr
  dsimp only
  by_cases h13 : C = 13
  · rw [if_pos h13]; exact Or.inl ⟨_, rfl⟩
  by_cases h14 : C = 14
  · rw [if_neg h13, if_pos h14]; exact Or.inl ⟨_, rfl⟩
  by_cases h15 : C = 15
  · rw [if_neg h13, if_neg h14, if_pos h15]; exact rf_rf _
  · rw [if_neg h13, if_neg h14, if_neg h15]; exact rf_rf _
theorem tr_c1 {Θ : GC} {ρ : Rn} {v : Vv} (hv : isL v = false) : (tr Θ ρ v).category = 1 := by
  rcases v with i | b | ⟨C, r⟩ | k
  · rfl
  · cases hv
  · rcases tr_ref Θ ρ (C := C) (r := r) with ⟨a, ha⟩ | ha
    · show (tr Θ ρ (vr C r)).category = 1
      rw [ha]; rfl
    · show (tr Θ ρ (vr C r)).category = 1
      rw [ha]; rfl
  · rfl
theorem tr_c2 {Θ : GC} {ρ : Rn} {v : Vv} : (tr Θ ρ v).category = if isL v then 2 else 1 := by
  cases hv : isL v
  · exact tr_c1 hv
  · rcases v with i | b | ⟨C, r⟩ | k <;> first | rfl | cases hv
/-- a store into the listed locals, by rising places -/
def ins (i : Nat) (v : Vv) : List (Nat × Vv) → List (Nat × Vv)
  | [] => [(i, v)]
  | (j, w) :: t => if Nat.blt j i then (j, w) :: ins i v t else (i, v) :: (j, w) :: t
def stl (i : Nat) (v : Vv) (l : List (Nat × Vv)) : List (Nat × Vv) := ins i v (l.filter (fun q => !(Nat.beq q.1 i) && (!(Nat.beq (q.1 + 1) i && isL q.2) && !(isL v && Nat.beq q.1 (i + 1)))))
theorem ins_mem {i : Nat} {v : Vv} {q : Nat × Vv} : ∀ {l : List (Nat × Vv)}, q ∈ ins i v l → q = (i, v) ∨ q ∈ l
  | [], hq => Or.inl (List.mem_singleton.mp hq)
  | (j, w) :: t, hq => by
    unfold ins at hq
    by_cases h1 : Nat.blt j i = true
    · rw [if_pos h1] at hq
      rcases List.mem_cons.mp hq with e | e
      · exact Or.inr (by rw [e]; exact List.mem_cons_self)
      · rcases ins_mem e with e | e
        · exact Or.inl e
        · exact Or.inr (List.mem_cons_of_mem _ e)
    · rw [if_neg h1] at hq
      rcases List.mem_cons.mp hq with e | e
      · exact Or.inl e
      · exact Or.inr e
theorem stl_mem {i : Nat} {v : Vv} {q : Nat × Vv} {l : List (Nat × Vv)} (hq : q ∈ stl i v l) : q = (i, v) ∨ (q ∈ l ∧ ¬ q.1 = i ∧ ¬ (q.1 + 1 = i ∧ isL q.2 = true) ∧ ¬ (isL v = true ∧ q.1 = i + 1)) := by
  rcases ins_mem hq with e | e
  · exact Or.inl e
  · obtain ⟨e1, e2⟩ := List.mem_filter.mp e
    refine Or.inr ⟨e1, ?_, ?_, ?_⟩
    · intro z; simp [z] at e2
    · intro z; simp [z.1, z.2] at e2
    · intro z; simp [z.1, z.2] at e2
theorem stl_ok {i : Nat} {v : Vv} {l l' : List (Nat × Vv)} {h : Hp} (hlv : ∀ q ∈ l, vok h q.2) (ha : vok h v) (hk : stl i v l = l') : ∀ q ∈ l', vok h q.2 := fun q hq => by
  rw [← hk] at hq
  rcases stl_mem hq with e | e
  · rw [e]; exact ha
  · exact hlv q e.1
theorem stl1_has {Θ : GC} {ρ : Rn} {la : Array Slot} {n i : Nat} {v : Vv} {l l' : List (Nat × Vv)} (hl : lv_has la n ((i, tr Θ ρ v) :: (trl Θ ρ l).filter (fun q => !(q.1 == i) && !(q.1 + 1 == i && q.2.category == 2)))) (hk : stl i v l = l') : lv_has la n (trl Θ ρ l') := by
  refine ⟨hl.1, hl.2.1, fun q hq => hl.2.2 q ?_⟩
  obtain ⟨q0, h1, rfl⟩ := List.mem_map.mp hq
  rw [← hk] at h1
  rcases stl_mem h1 with e | ⟨e1, e2, e3, e4⟩
  · rw [e]; exact List.mem_cons_self
  · refine List.mem_cons_of_mem _ (List.mem_filter.mpr ⟨List.mem_map.mpr ⟨q0, e1, rfl⟩, ?_⟩)
    have hc := tr_c2 (Θ := Θ) (ρ := ρ) (v := q0.2)
    cases hx : isL q0.2
    · rw [hx] at hc
      simp [e2, hc]
    · have e5 : ¬ q0.1 + 1 = i := fun z => e3 ⟨z, hx⟩
      simp [e2, e5]
theorem stl2_has {Θ : GC} {ρ : Rn} {la : Array Slot} {n i : Nat} {x : BitVec 64} {l l' : List (Nat × Vv)} (hl : lv_has la n ((i, tr Θ ρ (vl x)) :: (trl Θ ρ l).filter (fun q => !(q.1 == i) && (!(q.1 == i + 1) && !(q.1 + 1 == i && q.2.category == 2))))) (hk : stl i (vl x) l = l') : lv_has la n (trl Θ ρ l') := by
  refine ⟨hl.1, hl.2.1, fun q hq => hl.2.2 q ?_⟩
  obtain ⟨q0, h1, rfl⟩ := List.mem_map.mp hq
  rw [← hk] at h1
  rcases stl_mem h1 with e | ⟨e1, e2, e3, e4⟩
  · rw [e]; exact List.mem_cons_self
  · refine List.mem_cons_of_mem _ (List.mem_filter.mpr ⟨List.mem_map.mpr ⟨q0, e1, rfl⟩, ?_⟩)
    have hc := tr_c2 (Θ := Θ) (ρ := ρ) (v := q0.2)
    have e6 : ¬ q0.1 = i + 1 := fun z => e4 ⟨rfl, z⟩
    cases hx : isL q0.2
    · rw [hx] at hc
      simp [e2, hc, e6]
    · have e5 : ¬ q0.1 + 1 = i := fun z => e3 ⟨z, hx⟩
      simp [e2, e5, e6]
theorem gwB {Θ : GC} {M : MD} {fr lc : Nat} {p : Program} {R : Room} {s : State} {m : MethodId} {meth : Method} {c : Code} {args : Array Value} {w : Cond} (hF : Fr Θ M fr lc p R s m meth c) (hw : w ∈ GW) : w.before args s = true :=
  word_at (State.WarmedH.refl s) (good_of_word (List.mem_filter.mp hw).2) (hF.2.2.2.2.2.2.2.2.1.2.1 w hw)
section
variable {Θ : GC} {M : MD} {fr lc mc ms pc pc' : Nat} {ls : List (Nat × Vv)} {st : List Vv} {h : Hp} {Q : Ro → Hp → Prop}
theorem Ev.iload {i q : Nat} {x : Int} (d : Dq (mB M) pc (.iload i) 2 pc') (hq : ls[q]? = some (i, vi x)) (k : Ev Θ M fr lc mc ms pc' ls (vi x :: st) h Q) : Ev Θ M fr lc mc ms pc ls (st) h Q := by
  intro p e R s m args below meth c H locs cells slots ρ la hF hR hS0 hS1 hc hs hl hlv hst
  obtain ⟨d, rfl⟩ := d
  have hm : (i, vi x) ∈ ls := List.mem_of_getElem? hq
  have hg := lv_at hl q (i := i) (v := tr Θ ρ (vi x)) (by rw [List.getElem?_map, hq]; rfl)
  exact lv_iload hF.1 hF.2.1 d hg (k p e R s m args below meth c H locs cells slots ρ la hF hR hS0 hS1 hc hs hl hlv (vokc (hlv _ hm) hst))
theorem Ev.iload_n {n : Fin 4} {i q : Nat} {x : Int} (d : Dq (mB M) pc (.iload_n n) 1 pc') (hi : (n : Nat) = i) (hq : ls[q]? = some (i, vi x)) (k : Ev Θ M fr lc mc ms pc' ls (vi x :: st) h Q) : Ev Θ M fr lc mc ms pc ls (st) h Q := by
  intro p e R s m args below meth c H locs cells slots ρ la hF hR hS0 hS1 hc hs hl hlv hst
  obtain ⟨d, rfl⟩ := d
  have hm : (i, vi x) ∈ ls := List.mem_of_getElem? hq
  have hg := lv_at hl q (i := i) (v := tr Θ ρ (vi x)) (by rw [List.getElem?_map, hq]; rfl)
  exact lv_iload_n hF.1 hF.2.1 d hi hg (k p e R s m args below meth c H locs cells slots ρ la hF hR hS0 hS1 hc hs hl hlv (vokc (hlv _ hm) hst))
theorem Ev.lload {i q : Nat} {x : BitVec 64} (d : Dq (mB M) pc (.lload i) 2 pc') (hq : ls[q]? = some (i, vl x)) (k : Ev Θ M fr lc mc ms pc' ls (vl x :: st) h Q) : Ev Θ M fr lc mc ms pc ls (st) h Q := by
  intro p e R s m args below meth c H locs cells slots ρ la hF hR hS0 hS1 hc hs hl hlv hst
  obtain ⟨d, rfl⟩ := d
  have hm : (i, vl x) ∈ ls := List.mem_of_getElem? hq
  have hg := lv_at hl q (i := i) (v := tr Θ ρ (vl x)) (by rw [List.getElem?_map, hq]; rfl)
  exact lv_lload hF.1 hF.2.1 d hg (k p e R s m args below meth c H locs cells slots ρ la hF hR hS0 hS1 hc hs hl hlv (vokc (hlv _ hm) hst))
theorem Ev.lload_n {n : Fin 4} {i q : Nat} {x : BitVec 64} (d : Dq (mB M) pc (.lload_n n) 1 pc') (hi : (n : Nat) = i) (hq : ls[q]? = some (i, vl x)) (k : Ev Θ M fr lc mc ms pc' ls (vl x :: st) h Q) : Ev Θ M fr lc mc ms pc ls (st) h Q := by
  intro p e R s m args below meth c H locs cells slots ρ la hF hR hS0 hS1 hc hs hl hlv hst
  obtain ⟨d, rfl⟩ := d
  have hm : (i, vl x) ∈ ls := List.mem_of_getElem? hq
  have hg := lv_at hl q (i := i) (v := tr Θ ρ (vl x)) (by rw [List.getElem?_map, hq]; rfl)
  exact lv_lload_n hF.1 hF.2.1 d hi hg (k p e R s m args below meth c H locs cells slots ρ la hF hR hS0 hS1 hc hs hl hlv (vokc (hlv _ hm) hst))
theorem Ev.aload {i q C r : Nat} (d : Dq (mB M) pc (.aload i) 2 pc') (hq : ls[q]? = some (i, vr C r)) (k : Ev Θ M fr lc mc ms pc' ls (vr C r :: st) h Q) : Ev Θ M fr lc mc ms pc ls (st) h Q := by
  intro p e R s m args below meth c H locs cells slots ρ la hF hR hS0 hS1 hc hs hl hlv hst
  obtain ⟨d, rfl⟩ := d
  have hm : (i, vr C r) ∈ ls := List.mem_of_getElem? hq
  have hg := lv_at hl q (i := i) (v := tr Θ ρ (vr C r)) (by rw [List.getElem?_map, hq]; rfl)
  have kk := k p e R s m args below meth c H locs cells slots ρ la hF hR hS0 hS1 hc hs hl hlv (vokc (hlv _ hm) hst)
  rw [List.map_cons] at kk
  rcases tr_ref Θ ρ (C := C) (r := r) with ⟨a, ha⟩ | ha
  · rw [ha] at hg kk; exact lv_aload hF.1 hF.2.1 d hg kk
  · rw [ha] at hg kk; exact lv_aloadN hF.1 hF.2.1 d hg kk
theorem Ev.aload_n {n : Fin 4} {i q C r : Nat} (d : Dq (mB M) pc (.aload_n n) 1 pc') (hi : (n : Nat) = i) (hq : ls[q]? = some (i, vr C r)) (k : Ev Θ M fr lc mc ms pc' ls (vr C r :: st) h Q) : Ev Θ M fr lc mc ms pc ls (st) h Q := by
  intro p e R s m args below meth c H locs cells slots ρ la hF hR hS0 hS1 hc hs hl hlv hst
  obtain ⟨d, rfl⟩ := d
  have hm : (i, vr C r) ∈ ls := List.mem_of_getElem? hq
  have hg := lv_at hl q (i := i) (v := tr Θ ρ (vr C r)) (by rw [List.getElem?_map, hq]; rfl)
  have kk := k p e R s m args below meth c H locs cells slots ρ la hF hR hS0 hS1 hc hs hl hlv (vokc (hlv _ hm) hst)
  rw [List.map_cons] at kk
  rcases tr_ref Θ ρ (C := C) (r := r) with ⟨a, ha⟩ | ha
  · rw [ha] at hg kk; exact lv_aload_n hF.1 hF.2.1 d hi hg kk
  · rw [ha] at hg kk; exact lv_aload_nN hF.1 hF.2.1 d hi hg kk
theorem Ev.aloadt {i q r : Nat} (d : Dq (mB M) pc (.aload i) 2 pc') (hq : ls[q]? = some (i, vt r)) (k : Ev Θ M fr lc mc ms pc' ls (vt r :: st) h Q) : Ev Θ M fr lc mc ms pc ls (st) h Q := by
  intro p e R s m args below meth c H locs cells slots ρ la hF hR hS0 hS1 hc hs hl hlv hst
  obtain ⟨d, rfl⟩ := d
  have hm : (i, vt r) ∈ ls := List.mem_of_getElem? hq
  have hg := lv_at hl q (i := i) (v := tr Θ ρ (vt r)) (by rw [List.getElem?_map, hq]; rfl)
  have kk := k p e R s m args below meth c H locs cells slots ρ la hF hR hS0 hS1 hc hs hl hlv (vokc (hlv _ hm) hst)
  rw [List.map_cons] at kk
  exact lv_aload hF.1 hF.2.1 d hg kk
theorem Ev.aloadt_n {n : Fin 4} {i q r : Nat} (d : Dq (mB M) pc (.aload_n n) 1 pc') (hi : (n : Nat) = i) (hq : ls[q]? = some (i, vt r)) (k : Ev Θ M fr lc mc ms pc' ls (vt r :: st) h Q) : Ev Θ M fr lc mc ms pc ls (st) h Q := by
  intro p e R s m args below meth c H locs cells slots ρ la hF hR hS0 hS1 hc hs hl hlv hst
  obtain ⟨d, rfl⟩ := d
  have hm : (i, vt r) ∈ ls := List.mem_of_getElem? hq
  have hg := lv_at hl q (i := i) (v := tr Θ ρ (vt r)) (by rw [List.getElem?_map, hq]; rfl)
  have kk := k p e R s m args below meth c H locs cells slots ρ la hF hR hS0 hS1 hc hs hl hlv (vokc (hlv _ hm) hst)
  rw [List.map_cons] at kk
  exact lv_aload_n hF.1 hF.2.1 d hi hg kk
theorem Ev.iconst {n : Int} (d : Dq (mB M) pc (.iconst n) 1 pc') (hr : inR n) (k : Ev Θ M fr lc mc ms pc' ls (vi n :: st) h Q) : Ev Θ M fr lc mc ms pc ls (st) h Q := by
  intro p e R s m args below meth c H locs cells slots ρ la hF hR hS0 hS1 hc hs hl hlv hst
  obtain ⟨d, rfl⟩ := d
  exact lv_iconst hF.1 hF.2.1 d rfl (k p e R s m args below meth c H locs cells slots ρ la hF hR hS0 hS1 hc hs hl hlv (vokc (a := vi n) hr hst))
theorem Ev.bipush {n : Int} (d : Dq (mB M) pc (.bipush n) 2 pc') (hr : inR n) (hn : (Int8.ofInt n).toInt32 = Int32.ofInt n) (k : Ev Θ M fr lc mc ms pc' ls (vi n :: st) h Q) : Ev Θ M fr lc mc ms pc ls (st) h Q := by
  intro p e R s m args below meth c H locs cells slots ρ la hF hR hS0 hS1 hc hs hl hlv hst
  obtain ⟨d, rfl⟩ := d
  exact lv_bipush hF.1 hF.2.1 d hn (k p e R s m args below meth c H locs cells slots ρ la hF hR hS0 hS1 hc hs hl hlv (vokc (a := vi n) hr hst))
theorem Ev.sipush {n : Int} (d : Dq (mB M) pc (.sipush n) 3 pc') (hr : inR n) (hn : (Int16.ofInt n).toInt32 = Int32.ofInt n) (k : Ev Θ M fr lc mc ms pc' ls (vi n :: st) h Q) : Ev Θ M fr lc mc ms pc ls (st) h Q := by
  intro p e R s m args below meth c H locs cells slots ρ la hF hR hS0 hS1 hc hs hl hlv hst
  obtain ⟨d, rfl⟩ := d
  exact lv_sipush hF.1 hF.2.1 d hn (k p e R s m args below meth c H locs cells slots ρ la hF hR hS0 hS1 hc hs hl hlv (vokc (a := vi n) hr hst))
theorem Ev.lconst {n : Fin 2} {b : BitVec 64} (d : Dq (mB M) pc (.lconst n) 1 pc') (hn : Int64.ofNat (n : Nat) = Int64.ofBitVec b) (k : Ev Θ M fr lc mc ms pc' ls (vl b :: st) h Q) : Ev Θ M fr lc mc ms pc ls (st) h Q := by
  intro p e R s m args below meth c H locs cells slots ρ la hF hR hS0 hS1 hc hs hl hlv hst
  obtain ⟨d, rfl⟩ := d
  exact lv_lconst hF.1 hF.2.1 d hn (k p e R s m args below meth c H locs cells slots ρ la hF hR hS0 hS1 hc hs hl hlv (vokc (a := vl b) trivial hst))
theorem Ev.ldc {n : Int} {ix : Nat} (d : Dq (mB M) pc (.ldc ix) 2 pc') (hr : inR n) (hw : Cond.constant (mO M) ix (Int32.ofInt n) ∈ GW) (k : Ev Θ M fr lc mc ms pc' ls (vi n :: st) h Q) : Ev Θ M fr lc mc ms pc ls (st) h Q := by
  intro p e R s m args below meth c H locs cells slots ρ la hF hR hS0 hS1 hc hs hl hlv hst
  obtain ⟨d, rfl⟩ := d
  exact lv_ldc hF.1 hF.2.1 hF.2.2.2.2.1 (gwB hF hw) d (k p e R s m args below meth c H locs cells slots ρ la hF hR hS0 hS1 hc hs hl hlv (vokc (a := vi n) hr hst))
theorem Ev.ldc_w {n : Int} {ix : Nat} (d : Dq (mB M) pc (.ldc_w ix) 3 pc') (hr : inR n) (hw : Cond.constant (mO M) ix (Int32.ofInt n) ∈ GW) (k : Ev Θ M fr lc mc ms pc' ls (vi n :: st) h Q) : Ev Θ M fr lc mc ms pc ls (st) h Q := by
  intro p e R s m args below meth c H locs cells slots ρ la hF hR hS0 hS1 hc hs hl hlv hst
  obtain ⟨d, rfl⟩ := d
  exact lv_ldcw hF.1 hF.2.1 hF.2.2.2.2.1 (gwB hF hw) d (k p e R s m args below meth c H locs cells slots ρ la hF hR hS0 hS1 hc hs hl hlv (vokc (a := vi n) hr hst))
theorem Ev.ldc2 {b : BitVec 64} {ix : Nat} (d : Dq (mB M) pc (.ldc2_w ix) 3 pc') (hw : Cond.constantLong (mO M) ix (Int64.ofBitVec b) ∈ GW) (k : Ev Θ M fr lc mc ms pc' ls (vl b :: st) h Q) : Ev Θ M fr lc mc ms pc ls (st) h Q := by
  intro p e R s m args below meth c H locs cells slots ρ la hF hR hS0 hS1 hc hs hl hlv hst
  obtain ⟨d, rfl⟩ := d
  exact lv_ldc2 hF.1 hF.2.1 hF.2.2.2.2.1 (gwB hF hw) d (k p e R s m args below meth c H locs cells slots ρ la hF hR hS0 hS1 hc hs hl hlv (vokc (a := vl b) trivial hst))
theorem Ev.isub {a b : Int} (d : Dq (mB M) pc .isub 1 pc') (hr : inR (a - b)) (k : Ev Θ M fr lc mc ms pc' ls (vi (a - b) :: st) h Q) : Ev Θ M fr lc mc ms pc ls (vi b :: vi a :: st) h Q := by
  intro p e R s m args below meth c H locs cells slots ρ la hF hR hS0 hS1 hc hs hl hlv hst
  obtain ⟨d, rfl⟩ := d
  have hb := vok1 hst
  have ha := vok1 hb.2
  have kk := k p e R s m args below meth c H locs cells slots ρ la hF hR hS0 hS1 hc hs hl hlv (vokc (a := vi (a - b)) hr ha.2)
  have e1 : Int32.ofInt a - Int32.ofInt b = Int32.ofInt (a - b) := (Int32.ofInt_sub _ _).symm
  refine lv_isub hF.1 hF.2.1 d ?_
  rw [e1]
  exact kk
theorem Ev.imul {a b : Int} (d : Dq (mB M) pc .imul 1 pc') (hr : inR (a * b)) (k : Ev Θ M fr lc mc ms pc' ls (vi (a * b) :: st) h Q) : Ev Θ M fr lc mc ms pc ls (vi b :: vi a :: st) h Q := by
  intro p e R s m args below meth c H locs cells slots ρ la hF hR hS0 hS1 hc hs hl hlv hst
  obtain ⟨d, rfl⟩ := d
  have hb := vok1 hst
  have ha := vok1 hb.2
  have kk := k p e R s m args below meth c H locs cells slots ρ la hF hR hS0 hS1 hc hs hl hlv (vokc (a := vi (a * b)) hr ha.2)
  have e1 : Int32.ofInt a * Int32.ofInt b = Int32.ofInt (a * b) := (Int32.ofInt_mul _ _).symm
  refine lv_imul hF.1 hF.2.1 d ?_
  rw [e1]
  exact kk
theorem Ev.iand {a b : Int} (d : Dq (mB M) pc .iand 1 pc')  (k : Ev Θ M fr lc mc ms pc' ls (vi (biand a b) :: st) h Q) : Ev Θ M fr lc mc ms pc ls (vi b :: vi a :: st) h Q := by
  intro p e R s m args below meth c H locs cells slots ρ la hF hR hS0 hS1 hc hs hl hlv hst
  obtain ⟨d, rfl⟩ := d
  have hb := vok1 hst
  have ha := vok1 hb.2
  have kk := k p e R s m args below meth c H locs cells slots ρ la hF hR hS0 hS1 hc hs hl hlv (vokc (a := vi (biand a b)) (inR_toInt _) ha.2)
  have e1 : Int32.ofInt a &&& Int32.ofInt b = Int32.ofInt (biand a b) := (ofi _).symm
  refine lv_iand hF.1 hF.2.1 d ?_
  rw [e1]
  exact kk
theorem Ev.ior {a b : Int} (d : Dq (mB M) pc .ior 1 pc')  (k : Ev Θ M fr lc mc ms pc' ls (vi (bior a b) :: st) h Q) : Ev Θ M fr lc mc ms pc ls (vi b :: vi a :: st) h Q := by
  intro p e R s m args below meth c H locs cells slots ρ la hF hR hS0 hS1 hc hs hl hlv hst
  obtain ⟨d, rfl⟩ := d
  have hb := vok1 hst
  have ha := vok1 hb.2
  have kk := k p e R s m args below meth c H locs cells slots ρ la hF hR hS0 hS1 hc hs hl hlv (vokc (a := vi (bior a b)) (inR_toInt _) ha.2)
  have e1 : Int32.ofInt a ||| Int32.ofInt b = Int32.ofInt (bior a b) := (ofi _).symm
  refine lv_ior hF.1 hF.2.1 d ?_
  rw [e1]
  exact kk
theorem Ev.ixor {a b : Int} (d : Dq (mB M) pc .ixor 1 pc')  (k : Ev Θ M fr lc mc ms pc' ls (vi (bixor a b) :: st) h Q) : Ev Θ M fr lc mc ms pc ls (vi b :: vi a :: st) h Q := by
  intro p e R s m args below meth c H locs cells slots ρ la hF hR hS0 hS1 hc hs hl hlv hst
  obtain ⟨d, rfl⟩ := d
  have hb := vok1 hst
  have ha := vok1 hb.2
  have kk := k p e R s m args below meth c H locs cells slots ρ la hF hR hS0 hS1 hc hs hl hlv (vokc (a := vi (bixor a b)) (inR_toInt _) ha.2)
  have e1 : Int32.ofInt a ^^^ Int32.ofInt b = Int32.ofInt (bixor a b) := (ofi _).symm
  refine lv_ixor hF.1 hF.2.1 d ?_
  rw [e1]
  exact kk
theorem Ev.irem {a b : Int} (d : Dq (mB M) pc .irem 1 pc') (h0 : 0 ≤ a) (h1 : 0 < b) (k : Ev Θ M fr lc mc ms pc' ls (vi (a % b) :: st) h Q) : Ev Θ M fr lc mc ms pc ls (vi b :: vi a :: st) h Q := by
  intro p e R s m args below meth c H locs cells slots ρ la hF hR hS0 hS1 hc hs hl hlv hst
  obtain ⟨d, rfl⟩ := d
  have hb := vok1 hst
  have ha := vok1 hb.2
  have kk := k p e R s m args below meth c H locs cells slots ρ la hF hR hS0 hS1 hc hs hl hlv (vokc (a := vi (a % b)) (i_remR ha.1 h0 h1) ha.2)
  have e1 : Int32.ofInt a - Int32.ofInt a / Int32.ofInt b * Int32.ofInt b = Int32.ofInt (a % b) := i_rem ha.1 hb.1 h0 h1
  refine lv_irem hF.1 hF.2.1 d (fun z => by have z2 : Int32.ofInt b = Int32.ofInt 0 := z; rw [i32_inj hb.1 (by unfold inR; omega)] at z2; omega) ?_
  rw [e1]
  exact kk
theorem Ev.ishl {a b : Int} (d : Dq (mB M) pc .ishl 1 pc') (h0 : 0 ≤ b) (h1 : b < 32) (k : Ev Θ M fr lc mc ms pc' ls (vi (w32 (a * 2 ^ b.toNat)) :: st) h Q) : Ev Θ M fr lc mc ms pc ls (vi b :: vi a :: st) h Q := by
  intro p e R s m args below meth c H locs cells slots ρ la hF hR hS0 hS1 hc hs hl hlv hst
  obtain ⟨d, rfl⟩ := d
  have hb := vok1 hst
  have ha := vok1 hb.2
  have kk := k p e R s m args below meth c H locs cells slots ρ la hF hR hS0 hS1 hc hs hl hlv (vokc (a := vi (w32 (a * 2 ^ b.toNat))) (inR_w32 _) ha.2)
  have e1 : Int32.ofInt a <<< (Int32.ofInt b &&& 31) = Int32.ofInt (w32 (a * 2 ^ b.toNat)) := i_shl h0 h1
  refine lv_ishl hF.1 hF.2.1 d ?_
  rw [e1]
  exact kk
theorem Ev.ishr {a b : Int} (d : Dq (mB M) pc .ishr 1 pc') (h0 : 0 ≤ b) (h1 : b < 32) (k : Ev Θ M fr lc mc ms pc' ls (vi (a / 2 ^ b.toNat) :: st) h Q) : Ev Θ M fr lc mc ms pc ls (vi b :: vi a :: st) h Q := by
  intro p e R s m args below meth c H locs cells slots ρ la hF hR hS0 hS1 hc hs hl hlv hst
  obtain ⟨d, rfl⟩ := d
  have hb := vok1 hst
  have ha := vok1 hb.2
  have kk := k p e R s m args below meth c H locs cells slots ρ la hF hR hS0 hS1 hc hs hl hlv (vokc (a := vi (a / 2 ^ b.toNat)) (i_shrR ha.1) ha.2)
  have e1 : Int32.ofInt a >>> (Int32.ofInt b &&& 31) = Int32.ofInt (a / 2 ^ b.toNat) := i_shr ha.1 h0 h1
  refine lv_ishr hF.1 hF.2.1 d ?_
  rw [e1]
  exact kk
theorem Ev.iushr {a b : Int} (d : Dq (mB M) pc .iushr 1 pc') (h0 : 0 ≤ b) (h1 : b < 32) (k : Ev Θ M fr lc mc ms pc' ls (vi (w32 (a % 4294967296 / 2 ^ b.toNat)) :: st) h Q) : Ev Θ M fr lc mc ms pc ls (vi b :: vi a :: st) h Q := by
  intro p e R s m args below meth c H locs cells slots ρ la hF hR hS0 hS1 hc hs hl hlv hst
  obtain ⟨d, rfl⟩ := d
  have hb := vok1 hst
  have ha := vok1 hb.2
  exact lv_iushr hF.1 hF.2.1 d (i_ushr h0 h1) (k p e R s m args below meth c H locs cells slots ρ la hF hR hS0 hS1 hc hs hl hlv (vokc (a := vi (w32 (a % 4294967296 / 2 ^ b.toNat))) (inR_w32 _) ha.2))
theorem Ev.ineg {a : Int} (d : Dq (mB M) pc .ineg 1 pc') (hr : inR (-a)) (k : Ev Θ M fr lc mc ms pc' ls (vi (-a) :: st) h Q) : Ev Θ M fr lc mc ms pc ls (vi a :: st) h Q := by
  intro p e R s m args below meth c H locs cells slots ρ la hF hR hS0 hS1 hc hs hl hlv hst
  obtain ⟨d, rfl⟩ := d
  have ha := vok1 hst
  have kk := k p e R s m args below meth c H locs cells slots ρ la hF hR hS0 hS1 hc hs hl hlv (vokc (a := vi (-a)) hr ha.2)
  refine lv_ineg hF.1 hF.2.1 d ?_
  rw [← Int32.ofInt_neg]
  exact kk
theorem Ev.ladd {a b : BitVec 64} (d : Dq (mB M) pc .ladd 1 pc')  (k : Ev Θ M fr lc mc ms pc' ls (vl (a + b) :: st) h Q) : Ev Θ M fr lc mc ms pc ls (vl b :: vl a :: st) h Q := by
  intro p e R s m args below meth c H locs cells slots ρ la hF hR hS0 hS1 hc hs hl hlv hst
  obtain ⟨d, rfl⟩ := d
  have hb := vok1 hst
  have ha := vok1 hb.2
  have kk := k p e R s m args below meth c H locs cells slots ρ la hF hR hS0 hS1 hc hs hl hlv (vokc (a := vl (a + b)) trivial ha.2)
  refine lv_ladd hF.1 hF.2.1 d ?_
  rw [← l_add]
  exact kk
theorem Ev.lsub {a b : BitVec 64} (d : Dq (mB M) pc .lsub 1 pc')  (k : Ev Θ M fr lc mc ms pc' ls (vl (a - b) :: st) h Q) : Ev Θ M fr lc mc ms pc ls (vl b :: vl a :: st) h Q := by
  intro p e R s m args below meth c H locs cells slots ρ la hF hR hS0 hS1 hc hs hl hlv hst
  obtain ⟨d, rfl⟩ := d
  have hb := vok1 hst
  have ha := vok1 hb.2
  have kk := k p e R s m args below meth c H locs cells slots ρ la hF hR hS0 hS1 hc hs hl hlv (vokc (a := vl (a - b)) trivial ha.2)
  refine lv_lsub hF.1 hF.2.1 d ?_
  rw [← l_sub]
  exact kk
theorem Ev.land {a b : BitVec 64} (d : Dq (mB M) pc .land 1 pc')  (k : Ev Θ M fr lc mc ms pc' ls (vl (a &&& b) :: st) h Q) : Ev Θ M fr lc mc ms pc ls (vl b :: vl a :: st) h Q := by
  intro p e R s m args below meth c H locs cells slots ρ la hF hR hS0 hS1 hc hs hl hlv hst
  obtain ⟨d, rfl⟩ := d
  have hb := vok1 hst
  have ha := vok1 hb.2
  have kk := k p e R s m args below meth c H locs cells slots ρ la hF hR hS0 hS1 hc hs hl hlv (vokc (a := vl (a &&& b)) trivial ha.2)
  refine lv_land hF.1 hF.2.1 d ?_
  rw [← l_and]
  exact kk
theorem Ev.lor {a b : BitVec 64} (d : Dq (mB M) pc .lor 1 pc')  (k : Ev Θ M fr lc mc ms pc' ls (vl (a ||| b) :: st) h Q) : Ev Θ M fr lc mc ms pc ls (vl b :: vl a :: st) h Q := by
  intro p e R s m args below meth c H locs cells slots ρ la hF hR hS0 hS1 hc hs hl hlv hst
  obtain ⟨d, rfl⟩ := d
  have hb := vok1 hst
  have ha := vok1 hb.2
  have kk := k p e R s m args below meth c H locs cells slots ρ la hF hR hS0 hS1 hc hs hl hlv (vokc (a := vl (a ||| b)) trivial ha.2)
  refine lv_lor hF.1 hF.2.1 d ?_
  rw [← l_or]
  exact kk
theorem Ev.lxor {a b : BitVec 64} (d : Dq (mB M) pc .lxor 1 pc')  (k : Ev Θ M fr lc mc ms pc' ls (vl (a ^^^ b) :: st) h Q) : Ev Θ M fr lc mc ms pc ls (vl b :: vl a :: st) h Q := by
  intro p e R s m args below meth c H locs cells slots ρ la hF hR hS0 hS1 hc hs hl hlv hst
  obtain ⟨d, rfl⟩ := d
  have hb := vok1 hst
  have ha := vok1 hb.2
  have kk := k p e R s m args below meth c H locs cells slots ρ la hF hR hS0 hS1 hc hs hl hlv (vokc (a := vl (a ^^^ b)) trivial ha.2)
  refine lv_lxor hF.1 hF.2.1 d ?_
  rw [← l_xor]
  exact kk
theorem Ev.lshl {a : BitVec 64} {b : Int} (d : Dq (mB M) pc .lshl 1 pc') (h0 : 0 ≤ b) (h1 : b < 64) (k : Ev Θ M fr lc mc ms pc' ls (vl (a <<< b.toNat) :: st) h Q) : Ev Θ M fr lc mc ms pc ls (vi b :: vl a :: st) h Q := by
  intro p e R s m args below meth c H locs cells slots ρ la hF hR hS0 hS1 hc hs hl hlv hst
  obtain ⟨d, rfl⟩ := d
  have hb := vok1 hst
  have ha := vok1 hb.2
  exact lv_lshl hF.1 hF.2.1 d (l_shl h0 h1) (k p e R s m args below meth c H locs cells slots ρ la hF hR hS0 hS1 hc hs hl hlv (vokc (a := vl (a <<< b.toNat)) trivial ha.2))
theorem Ev.lushr {a : BitVec 64} {b : Int} (d : Dq (mB M) pc .lushr 1 pc') (h0 : 0 ≤ b) (h1 : b < 64) (k : Ev Θ M fr lc mc ms pc' ls (vl (a >>> b.toNat) :: st) h Q) : Ev Θ M fr lc mc ms pc ls (vi b :: vl a :: st) h Q := by
  intro p e R s m args below meth c H locs cells slots ρ la hF hR hS0 hS1 hc hs hl hlv hst
  obtain ⟨d, rfl⟩ := d
  have hb := vok1 hst
  have ha := vok1 hb.2
  exact lv_lushr hF.1 hF.2.1 d (l_ushr h0 h1) (k p e R s m args below meth c H locs cells slots ρ la hF hR hS0 hS1 hc hs hl hlv (vokc (a := vl (a >>> b.toNat)) trivial ha.2))
theorem Ev.lcmp {a b : BitVec 64} (d : Dq (mB M) pc .lcmp 1 pc')  (k : Ev Θ M fr lc mc ms pc' ls (vi (lcm a b) :: st) h Q) : Ev Θ M fr lc mc ms pc ls (vl b :: vl a :: st) h Q := by
  intro p e R s m args below meth c H locs cells slots ρ la hF hR hS0 hS1 hc hs hl hlv hst
  obtain ⟨d, rfl⟩ := d
  have hb := vok1 hst
  have ha := vok1 hb.2
  have kk := k p e R s m args below meth c H locs cells slots ρ la hF hR hS0 hS1 hc hs hl hlv (vokc (a := vi (lcm a b)) (lcmR a b) ha.2)
  refine W.lcmp hF.1 hF.2.1 d ?_
  rw [← l_cmp]
  exact kk
theorem Ev.i2l {a : Int} (d : Dq (mB M) pc .i2l 1 pc')  (k : Ev Θ M fr lc mc ms pc' ls (vl (BitVec.ofInt 64 a) :: st) h Q) : Ev Θ M fr lc mc ms pc ls (vi a :: st) h Q := by
  intro p e R s m args below meth c H locs cells slots ρ la hF hR hS0 hS1 hc hs hl hlv hst
  obtain ⟨d, rfl⟩ := d
  have ha := vok1 hst
  exact lv_i2l hF.1 hF.2.1 d (i_2l ha.1) (k p e R s m args below meth c H locs cells slots ρ la hF hR hS0 hS1 hc hs hl hlv (vokc (a := vl (BitVec.ofInt 64 a)) trivial ha.2))
theorem Ev.l2i {a : BitVec 64} (d : Dq (mB M) pc .l2i 1 pc')  (k : Ev Θ M fr lc mc ms pc' ls (vi (a.setWidth 32).toInt :: st) h Q) : Ev Θ M fr lc mc ms pc ls (vl a :: st) h Q := by
  intro p e R s m args below meth c H locs cells slots ρ la hF hR hS0 hS1 hc hs hl hlv hst
  obtain ⟨d, rfl⟩ := d
  have ha := vok1 hst
  exact lv_l2i hF.1 hF.2.1 d (l_2i a) (k p e R s m args below meth c H locs cells slots ρ la hF hR hS0 hS1 hc hs hl hlv (vokc (a := vi (a.setWidth 32).toInt) (l_2iR a) ha.2))
theorem Ev.i2c {a : Int} (d : Dq (mB M) pc .i2c 1 pc') (h0 : 0 ≤ a) (h1 : a < 65536) (k : Ev Θ M fr lc mc ms pc' ls (vi a :: st) h Q) : Ev Θ M fr lc mc ms pc ls (vi a :: st) h Q := by
  intro p e R s m args below meth c H locs cells slots ρ la hF hR hS0 hS1 hc hs hl hlv hst
  obtain ⟨d, rfl⟩ := d
  have ha := vok1 hst
  exact lv_i2c hF.1 hF.2.1 d (i_2c h0 h1) (k p e R s m args below meth c H locs cells slots ρ la hF hR hS0 hS1 hc hs hl hlv (vokc (a := vi a) ha.1 ha.2))
theorem Ev.dup {a : Vv} (d : Dq (mB M) pc .dup 1 pc') (hv : isL a = false) (k : Ev Θ M fr lc mc ms pc' ls (a :: a :: st) h Q) : Ev Θ M fr lc mc ms pc ls (a :: st) h Q := by
  intro p e R s m args below meth c H locs cells slots ρ la hF hR hS0 hS1 hc hs hl hlv hst
  obtain ⟨d, rfl⟩ := d
  have ha := vok1 hst
  exact lv_dup hF.1 hF.2.1 d (tr_c1 hv) (k p e R s m args below meth c H locs cells slots ρ la hF hR hS0 hS1 hc hs hl hlv (vokc ha.1 hst))
theorem Ev.pop {a : Vv} (d : Dq (mB M) pc .pop 1 pc') (hv : isL a = false) (k : Ev Θ M fr lc mc ms pc' ls (st) h Q) : Ev Θ M fr lc mc ms pc ls (a :: st) h Q := by
  intro p e R s m args below meth c H locs cells slots ρ la hF hR hS0 hS1 hc hs hl hlv hst
  obtain ⟨d, rfl⟩ := d
  have ha := vok1 hst
  exact lv_pop hF.1 hF.2.1 d (tr_c1 hv) (k p e R s m args below meth c H locs cells slots ρ la hF hR hS0 hS1 hc hs hl hlv ha.2)
theorem Ev.dup2 {a b : Vv} (d : Dq (mB M) pc .dup2 1 pc') (hv : isL a = false) (hw : isL b = false) (k : Ev Θ M fr lc mc ms pc' ls (a :: b :: a :: b :: st) h Q) : Ev Θ M fr lc mc ms pc ls (a :: b :: st) h Q := by
  intro p e R s m args below meth c H locs cells slots ρ la hF hR hS0 hS1 hc hs hl hlv hst
  obtain ⟨d, rfl⟩ := d
  have ha := vok1 hst
  have hb := vok1 ha.2
  exact lv_dup2_11 hF.1 hF.2.1 d (tr_c1 hv) (tr_c1 hw) (k p e R s m args below meth c H locs cells slots ρ la hF hR hS0 hS1 hc hs hl hlv (vokc ha.1 (vokc hb.1 hst)))
theorem Ev.dup2l {a : BitVec 64} (d : Dq (mB M) pc .dup2 1 pc')  (k : Ev Θ M fr lc mc ms pc' ls (vl a :: vl a :: st) h Q) : Ev Θ M fr lc mc ms pc ls (vl a :: st) h Q := by
  intro p e R s m args below meth c H locs cells slots ρ la hF hR hS0 hS1 hc hs hl hlv hst
  obtain ⟨d, rfl⟩ := d
  have ha := vok1 hst
  exact lv_dup2_2 hF.1 hF.2.1 d rfl (k p e R s m args below meth c H locs cells slots ρ la hF hR hS0 hS1 hc hs hl hlv (vokc ha.1 hst))
theorem Ev.if_eq {a : Int} {off : Int} {tg : Nat} (d : Dj (mB M) pc (.ifCond .eq off) off 3 pc' tg) (kt : a = 0 → Ev Θ M fr lc mc ms tg ls st h Q) (kf : ¬ (a = 0) → Ev Θ M fr lc mc ms pc' ls st h Q) : Ev Θ M fr lc mc ms pc ls (vi a :: st) h Q := by
  intro p e R s m args below meth c H locs cells slots ρ la hF hR hS0 hS1 hc hs hl hlv hst
  obtain ⟨d, rfl, t⟩ := d
  have ha := vok1 hst
  have z0 : inR 0 := by unfold inR; omega
  refine lv_if_eq hF.1 hF.2.1 d t (fun g => kt ((i32_inj ha.1 z0).mp g) p e R s m args below meth c H locs cells slots ρ la hF hR hS0 hS1 hc hs hl hlv ha.2) (fun g => kf (fun g2 => g ((i32_inj ha.1 z0).mpr g2)) p e R s m args below meth c H locs cells slots ρ la hF hR hS0 hS1 hc hs hl hlv ha.2)
theorem Ev.if_ne {a : Int} {off : Int} {tg : Nat} (d : Dj (mB M) pc (.ifCond .ne off) off 3 pc' tg) (kt : ¬ a = 0 → Ev Θ M fr lc mc ms tg ls st h Q) (kf : a = 0 → Ev Θ M fr lc mc ms pc' ls st h Q) : Ev Θ M fr lc mc ms pc ls (vi a :: st) h Q := by
  intro p e R s m args below meth c H locs cells slots ρ la hF hR hS0 hS1 hc hs hl hlv hst
  obtain ⟨d, rfl, t⟩ := d
  have ha := vok1 hst
  have z0 : inR 0 := by unfold inR; omega
  refine lv_if_ne hF.1 hF.2.1 d t (fun g => kt ((not_congr (i32_inj ha.1 z0)).mp g) p e R s m args below meth c H locs cells slots ρ la hF hR hS0 hS1 hc hs hl hlv ha.2) (fun g => kf ((i32_inj ha.1 z0).mp g) p e R s m args below meth c H locs cells slots ρ la hF hR hS0 hS1 hc hs hl hlv ha.2)
theorem Ev.if_lt {a : Int} {off : Int} {tg : Nat} (d : Dj (mB M) pc (.ifCond .lt off) off 3 pc' tg) (kt : a < 0 → Ev Θ M fr lc mc ms tg ls st h Q) (kf : ¬ (a < 0) → Ev Θ M fr lc mc ms pc' ls st h Q) : Ev Θ M fr lc mc ms pc ls (vi a :: st) h Q := by
  intro p e R s m args below meth c H locs cells slots ρ la hF hR hS0 hS1 hc hs hl hlv hst
  obtain ⟨d, rfl, t⟩ := d
  have ha := vok1 hst
  have z0 : inR 0 := by unfold inR; omega
  refine lv_if_lt hF.1 hF.2.1 d t (fun g => kt ((i32_lt ha.1 z0).mp g) p e R s m args below meth c H locs cells slots ρ la hF hR hS0 hS1 hc hs hl hlv ha.2) (fun g => kf (fun g2 => g ((i32_lt ha.1 z0).mpr g2)) p e R s m args below meth c H locs cells slots ρ la hF hR hS0 hS1 hc hs hl hlv ha.2)
theorem Ev.if_ge {a : Int} {off : Int} {tg : Nat} (d : Dj (mB M) pc (.ifCond .ge off) off 3 pc' tg) (kt : 0 ≤ a → Ev Θ M fr lc mc ms tg ls st h Q) (kf : ¬ (0 ≤ a) → Ev Θ M fr lc mc ms pc' ls st h Q) : Ev Θ M fr lc mc ms pc ls (vi a :: st) h Q := by
  intro p e R s m args below meth c H locs cells slots ρ la hF hR hS0 hS1 hc hs hl hlv hst
  obtain ⟨d, rfl, t⟩ := d
  have ha := vok1 hst
  have z0 : inR 0 := by unfold inR; omega
  refine lv_if_ge hF.1 hF.2.1 d t (fun g => kt ((i32_le z0 ha.1).mp g) p e R s m args below meth c H locs cells slots ρ la hF hR hS0 hS1 hc hs hl hlv ha.2) (fun g => kf (fun g2 => g ((i32_le z0 ha.1).mpr g2)) p e R s m args below meth c H locs cells slots ρ la hF hR hS0 hS1 hc hs hl hlv ha.2)
theorem Ev.if_gt {a : Int} {off : Int} {tg : Nat} (d : Dj (mB M) pc (.ifCond .gt off) off 3 pc' tg) (kt : 0 < a → Ev Θ M fr lc mc ms tg ls st h Q) (kf : ¬ (0 < a) → Ev Θ M fr lc mc ms pc' ls st h Q) : Ev Θ M fr lc mc ms pc ls (vi a :: st) h Q := by
  intro p e R s m args below meth c H locs cells slots ρ la hF hR hS0 hS1 hc hs hl hlv hst
  obtain ⟨d, rfl, t⟩ := d
  have ha := vok1 hst
  have z0 : inR 0 := by unfold inR; omega
  refine lv_if_gt hF.1 hF.2.1 d t (fun g => kt ((i32_lt z0 ha.1).mp g) p e R s m args below meth c H locs cells slots ρ la hF hR hS0 hS1 hc hs hl hlv ha.2) (fun g => kf (fun g2 => g ((i32_lt z0 ha.1).mpr g2)) p e R s m args below meth c H locs cells slots ρ la hF hR hS0 hS1 hc hs hl hlv ha.2)
theorem Ev.if_le {a : Int} {off : Int} {tg : Nat} (d : Dj (mB M) pc (.ifCond .le off) off 3 pc' tg) (kt : a ≤ 0 → Ev Θ M fr lc mc ms tg ls st h Q) (kf : ¬ (a ≤ 0) → Ev Θ M fr lc mc ms pc' ls st h Q) : Ev Θ M fr lc mc ms pc ls (vi a :: st) h Q := by
  intro p e R s m args below meth c H locs cells slots ρ la hF hR hS0 hS1 hc hs hl hlv hst
  obtain ⟨d, rfl, t⟩ := d
  have ha := vok1 hst
  have z0 : inR 0 := by unfold inR; omega
  refine lv_if_le hF.1 hF.2.1 d t (fun g => kt ((i32_le ha.1 z0).mp g) p e R s m args below meth c H locs cells slots ρ la hF hR hS0 hS1 hc hs hl hlv ha.2) (fun g => kf (fun g2 => g ((i32_le ha.1 z0).mpr g2)) p e R s m args below meth c H locs cells slots ρ la hF hR hS0 hS1 hc hs hl hlv ha.2)
theorem Ev.icmp_eq {a b : Int} {off : Int} {tg : Nat} (d : Dj (mB M) pc (.if_icmp .eq off) off 3 pc' tg) (kt : a = b → Ev Θ M fr lc mc ms tg ls st h Q) (kf : ¬ (a = b) → Ev Θ M fr lc mc ms pc' ls st h Q) : Ev Θ M fr lc mc ms pc ls (vi b :: vi a :: st) h Q := by
  intro p e R s m args below meth c H locs cells slots ρ la hF hR hS0 hS1 hc hs hl hlv hst
  obtain ⟨d, rfl, t⟩ := d
  have hb := vok1 hst
  have ha := vok1 hb.2
  refine lv_icmp_eq hF.1 hF.2.1 d t (fun g => kt ((i32_inj ha.1 hb.1).mp g) p e R s m args below meth c H locs cells slots ρ la hF hR hS0 hS1 hc hs hl hlv ha.2) (fun g => kf (fun g2 => g ((i32_inj ha.1 hb.1).mpr g2)) p e R s m args below meth c H locs cells slots ρ la hF hR hS0 hS1 hc hs hl hlv ha.2)
theorem Ev.icmp_ne {a b : Int} {off : Int} {tg : Nat} (d : Dj (mB M) pc (.if_icmp .ne off) off 3 pc' tg) (kt : ¬ a = b → Ev Θ M fr lc mc ms tg ls st h Q) (kf : a = b → Ev Θ M fr lc mc ms pc' ls st h Q) : Ev Θ M fr lc mc ms pc ls (vi b :: vi a :: st) h Q := by
  intro p e R s m args below meth c H locs cells slots ρ la hF hR hS0 hS1 hc hs hl hlv hst
  obtain ⟨d, rfl, t⟩ := d
  have hb := vok1 hst
  have ha := vok1 hb.2
  refine lv_icmp_ne hF.1 hF.2.1 d t (fun g => kt ((not_congr (i32_inj ha.1 hb.1)).mp g) p e R s m args below meth c H locs cells slots ρ la hF hR hS0 hS1 hc hs hl hlv ha.2) (fun g => kf ((i32_inj ha.1 hb.1).mp g) p e R s m args below meth c H locs cells slots ρ la hF hR hS0 hS1 hc hs hl hlv ha.2)
theorem Ev.icmp_lt {a b : Int} {off : Int} {tg : Nat} (d : Dj (mB M) pc (.if_icmp .lt off) off 3 pc' tg) (kt : a < b → Ev Θ M fr lc mc ms tg ls st h Q) (kf : ¬ (a < b) → Ev Θ M fr lc mc ms pc' ls st h Q) : Ev Θ M fr lc mc ms pc ls (vi b :: vi a :: st) h Q := by
  intro p e R s m args below meth c H locs cells slots ρ la hF hR hS0 hS1 hc hs hl hlv hst
  obtain ⟨d, rfl, t⟩ := d
  have hb := vok1 hst
  have ha := vok1 hb.2
  refine lv_icmp_lt hF.1 hF.2.1 d t (fun g => kt ((i32_lt ha.1 hb.1).mp g) p e R s m args below meth c H locs cells slots ρ la hF hR hS0 hS1 hc hs hl hlv ha.2) (fun g => kf (fun g2 => g ((i32_lt ha.1 hb.1).mpr g2)) p e R s m args below meth c H locs cells slots ρ la hF hR hS0 hS1 hc hs hl hlv ha.2)
theorem Ev.icmp_ge {a b : Int} {off : Int} {tg : Nat} (d : Dj (mB M) pc (.if_icmp .ge off) off 3 pc' tg) (kt : b ≤ a → Ev Θ M fr lc mc ms tg ls st h Q) (kf : ¬ (b ≤ a) → Ev Θ M fr lc mc ms pc' ls st h Q) : Ev Θ M fr lc mc ms pc ls (vi b :: vi a :: st) h Q := by
  intro p e R s m args below meth c H locs cells slots ρ la hF hR hS0 hS1 hc hs hl hlv hst
  obtain ⟨d, rfl, t⟩ := d
  have hb := vok1 hst
  have ha := vok1 hb.2
  refine lv_icmp_ge hF.1 hF.2.1 d t (fun g => kt ((i32_le hb.1 ha.1).mp g) p e R s m args below meth c H locs cells slots ρ la hF hR hS0 hS1 hc hs hl hlv ha.2) (fun g => kf (fun g2 => g ((i32_le hb.1 ha.1).mpr g2)) p e R s m args below meth c H locs cells slots ρ la hF hR hS0 hS1 hc hs hl hlv ha.2)
theorem Ev.icmp_gt {a b : Int} {off : Int} {tg : Nat} (d : Dj (mB M) pc (.if_icmp .gt off) off 3 pc' tg) (kt : b < a → Ev Θ M fr lc mc ms tg ls st h Q) (kf : ¬ (b < a) → Ev Θ M fr lc mc ms pc' ls st h Q) : Ev Θ M fr lc mc ms pc ls (vi b :: vi a :: st) h Q := by
  intro p e R s m args below meth c H locs cells slots ρ la hF hR hS0 hS1 hc hs hl hlv hst
  obtain ⟨d, rfl, t⟩ := d
  have hb := vok1 hst
  have ha := vok1 hb.2
  refine lv_icmp_gt hF.1 hF.2.1 d t (fun g => kt ((i32_lt hb.1 ha.1).mp g) p e R s m args below meth c H locs cells slots ρ la hF hR hS0 hS1 hc hs hl hlv ha.2) (fun g => kf (fun g2 => g ((i32_lt hb.1 ha.1).mpr g2)) p e R s m args below meth c H locs cells slots ρ la hF hR hS0 hS1 hc hs hl hlv ha.2)
theorem Ev.icmp_le {a b : Int} {off : Int} {tg : Nat} (d : Dj (mB M) pc (.if_icmp .le off) off 3 pc' tg) (kt : a ≤ b → Ev Θ M fr lc mc ms tg ls st h Q) (kf : ¬ (a ≤ b) → Ev Θ M fr lc mc ms pc' ls st h Q) : Ev Θ M fr lc mc ms pc ls (vi b :: vi a :: st) h Q := by
  intro p e R s m args below meth c H locs cells slots ρ la hF hR hS0 hS1 hc hs hl hlv hst
  obtain ⟨d, rfl, t⟩ := d
  have hb := vok1 hst
  have ha := vok1 hb.2
  refine lv_icmp_le hF.1 hF.2.1 d t (fun g => kt ((i32_le ha.1 hb.1).mp g) p e R s m args below meth c H locs cells slots ρ la hF hR hS0 hS1 hc hs hl hlv ha.2) (fun g => kf (fun g2 => g ((i32_le ha.1 hb.1).mpr g2)) p e R s m args below meth c H locs cells slots ρ la hF hR hS0 hS1 hc hs hl hlv ha.2)
theorem Ev.goto {off : Int} {tg : Nat} (d : Dj (mB M) pc (.goto off) off 3 pc' tg) (k : Ev Θ M fr lc mc ms tg ls st h Q) : Ev Θ M fr lc mc ms pc ls st h Q := by
  intro p e R s m args below meth c H locs cells slots ρ la hF hR hS0 hS1 hc hs hl hlv hst
  obtain ⟨d, rfl, t⟩ := d
  exact lv_goto hF.1 hF.2.1 d t (k p e R s m args below meth c H locs cells slots ρ la hF hR hS0 hS1 hc hs hl hlv hst)
theorem Ev.tswIn {dflt lo hi : Int} {offs : Array Int} {n : Nat} {a off : Int} {tg : Nat} (d : decode (mB M) pc = .ok (.tableswitch dflt lo hi offs, n)) (h1 : lo ≤ a) (h2 : a ≤ hi) (ho : offs[(a - lo).toNat]? = some off) (t : (pc : Int) + off = (tg : Int)) (k : Ev Θ M fr lc mc ms tg ls st h Q) : Ev Θ M fr lc mc ms pc ls (vi a :: st) h Q := by
  intro p e R s m args below meth c H locs cells slots ρ la hF hR hS0 hS1 hc hs hl hlv hst
  have ha := vok1 hst
  refine lv_tableIn hF.1 hF.2.1 d ?_ ?_ ?_ t (k p e R s m args below meth c H locs cells slots ρ la hF hR hS0 hS1 hc hs hl hlv ha.2)
  · rw [i32 ha.1]; omega
  · rw [i32 ha.1]; omega
  · rw [i32 ha.1]; exact ho
theorem Ev.tswOut {dflt lo hi : Int} {offs : Array Int} {n : Nat} {a : Int} {tg : Nat} (d : decode (mB M) pc = .ok (.tableswitch dflt lo hi offs, n)) (h1 : a < lo ∨ hi < a) (t : (pc : Int) + dflt = (tg : Int)) (k : Ev Θ M fr lc mc ms tg ls st h Q) : Ev Θ M fr lc mc ms pc ls (vi a :: st) h Q := by
  intro p e R s m args below meth c H locs cells slots ρ la hF hR hS0 hS1 hc hs hl hlv hst
  have ha := vok1 hst
  refine lv_tableOut hF.1 hF.2.1 d ?_ t (k p e R s m args below meth c H locs cells slots ρ la hF hR hS0 hS1 hc hs hl hlv ha.2)
  rw [i32 ha.1]; exact h1
theorem Ev.lsw {dflt : Int} {ps : Array (Int × Int)} {n : Nat} {a off : Int} {tg : Nat} (d : decode (mB M) pc = .ok (.lookupswitch dflt ps, n)) (hp : (ps.toList.zip (ps.toList.drop 1)).all (fun (x, y) => x.1 < y.1) = true) (ho : Op.lookupswitch.offset ps.toList dflt a = off) (t : (pc : Int) + off = (tg : Int)) (k : Ev Θ M fr lc mc ms tg ls st h Q) : Ev Θ M fr lc mc ms pc ls (vi a :: st) h Q := by
  intro p e R s m args below meth c H locs cells slots ρ la hF hR hS0 hS1 hc hs hl hlv hst
  have ha := vok1 hst
  refine lv_lookup hF.1 hF.2.1 d hp ?_ t (k p e R s m args below meth c H locs cells slots ρ la hF hR hS0 hS1 hc hs hl hlv ha.2)
  rw [i32 ha.1]; exact ho
theorem Ev.istore {i : Nat} {x : Int} {ls' : List (Nat × Vv)} (d : Dq (mB M) pc (.istore i) 2 pc') (hn : i < mX M) (hk : stl i (vi x) ls = ls') (k : Ev Θ M fr lc mc ms pc' ls' st h Q) : Ev Θ M fr lc mc ms pc ls (vi x :: st) h Q := by
  intro p e R s m args below meth c H locs cells slots ρ la hF hR hS0 hS1 hc hs hl hlv hst
  obtain ⟨d, rfl⟩ := d
  have ha := vok1 hst
  refine lv_istore hF.1 hF.2.1 d hl (Nat.lt_of_lt_of_le hn (Nat.le_refl _)) rfl (fun la' hl' => k p e R s m args below meth c H locs cells slots ρ la' hF hR hS0 hS1 hc hs (stl1_has hl' hk) (stl_ok hlv ha.1 hk) ha.2)
theorem Ev.istore_n {n : Fin 4} {i : Nat} {x : Int} {ls' : List (Nat × Vv)} (d : Dq (mB M) pc (.istore_n n) 1 pc') (hi : (n : Nat) = i) (hn : i < mX M) (hk : stl i (vi x) ls = ls') (k : Ev Θ M fr lc mc ms pc' ls' st h Q) : Ev Θ M fr lc mc ms pc ls (vi x :: st) h Q := by
  intro p e R s m args below meth c H locs cells slots ρ la hF hR hS0 hS1 hc hs hl hlv hst
  obtain ⟨d, rfl⟩ := d
  have ha := vok1 hst
  refine lv_istore_n hF.1 hF.2.1 d hi hl (Nat.lt_of_lt_of_le hn (Nat.le_refl _)) rfl (fun la' hl' => k p e R s m args below meth c H locs cells slots ρ la' hF hR hS0 hS1 hc hs (stl1_has hl' hk) (stl_ok hlv ha.1 hk) ha.2)
theorem Ev.lstore {i : Nat} {x : BitVec 64} {ls' : List (Nat × Vv)} (d : Dq (mB M) pc (.lstore i) 2 pc') (hn : i + 1 < mX M) (hk : stl i (vl x) ls = ls') (k : Ev Θ M fr lc mc ms pc' ls' st h Q) : Ev Θ M fr lc mc ms pc ls (vl x :: st) h Q := by
  intro p e R s m args below meth c H locs cells slots ρ la hF hR hS0 hS1 hc hs hl hlv hst
  obtain ⟨d, rfl⟩ := d
  have ha := vok1 hst
  refine lv_lstore hF.1 hF.2.1 d hl (Nat.lt_of_lt_of_le hn (Nat.le_refl _)) rfl (fun la' hl' => k p e R s m args below meth c H locs cells slots ρ la' hF hR hS0 hS1 hc hs (stl2_has hl' hk) (stl_ok hlv ha.1 hk) ha.2)
theorem Ev.lstore_n {n : Fin 4} {i : Nat} {x : BitVec 64} {ls' : List (Nat × Vv)} (d : Dq (mB M) pc (.lstore_n n) 1 pc') (hi : (n : Nat) = i) (hn : i + 1 < mX M) (hk : stl i (vl x) ls = ls') (k : Ev Θ M fr lc mc ms pc' ls' st h Q) : Ev Θ M fr lc mc ms pc ls (vl x :: st) h Q := by
  intro p e R s m args below meth c H locs cells slots ρ la hF hR hS0 hS1 hc hs hl hlv hst
  obtain ⟨d, rfl⟩ := d
  have ha := vok1 hst
  refine lv_lstore_n hF.1 hF.2.1 d hi hl (Nat.lt_of_lt_of_le hn (Nat.le_refl _)) rfl (fun la' hl' => k p e R s m args below meth c H locs cells slots ρ la' hF hR hS0 hS1 hc hs (stl2_has hl' hk) (stl_ok hlv ha.1 hk) ha.2)
theorem Ev.astore {i C r : Nat} {ls' : List (Nat × Vv)} (d : Dq (mB M) pc (.astore i) 2 pc') (hn : i < mX M) (hk : stl i (vr C r) ls = ls') (k : Ev Θ M fr lc mc ms pc' ls' st h Q) : Ev Θ M fr lc mc ms pc ls (vr C r :: st) h Q := by
  intro p e R s m args below meth c H locs cells slots ρ la hF hR hS0 hS1 hc hs hl hlv hst
  obtain ⟨d, rfl⟩ := d
  have ha := vok1 hst
  rw [List.map_cons]
  rcases tr_ref Θ ρ (C := C) (r := r) with ⟨a, ha9⟩ | ha9
  · rw [ha9]
    exact lv_astore hF.1 hF.2.1 d hl (Nat.lt_of_lt_of_le hn (Nat.le_refl _)) rfl (fun la' hl' => k p e R s m args below meth c H locs cells slots ρ la' hF hR hS0 hS1 hc hs (stl1_has (by rw [ha9]; exact hl') hk) (stl_ok hlv ha.1 hk) ha.2)
  · rw [ha9]
    exact lv_astoreN hF.1 hF.2.1 d hl (Nat.lt_of_lt_of_le hn (Nat.le_refl _)) rfl (fun la' hl' => k p e R s m args below meth c H locs cells slots ρ la' hF hR hS0 hS1 hc hs (stl1_has (by rw [ha9]; exact hl') hk) (stl_ok hlv ha.1 hk) ha.2)
theorem Ev.astore_n {n : Fin 4} {i C r : Nat} {ls' : List (Nat × Vv)} (d : Dq (mB M) pc (.astore_n n) 1 pc') (hi : (n : Nat) = i) (hn : i < mX M) (hk : stl i (vr C r) ls = ls') (k : Ev Θ M fr lc mc ms pc' ls' st h Q) : Ev Θ M fr lc mc ms pc ls (vr C r :: st) h Q := by
  intro p e R s m args below meth c H locs cells slots ρ la hF hR hS0 hS1 hc hs hl hlv hst
  obtain ⟨d, rfl⟩ := d
  have ha := vok1 hst
  rw [List.map_cons]
  rcases tr_ref Θ ρ (C := C) (r := r) with ⟨a, ha9⟩ | ha9
  · rw [ha9]
    exact lv_astore_n hF.1 hF.2.1 d hi hl (Nat.lt_of_lt_of_le hn (Nat.le_refl _)) rfl (fun la' hl' => k p e R s m args below meth c H locs cells slots ρ la' hF hR hS0 hS1 hc hs (stl1_has (by rw [ha9]; exact hl') hk) (stl_ok hlv ha.1 hk) ha.2)
  · rw [ha9]
    exact lv_astore_nN hF.1 hF.2.1 d hi hl (Nat.lt_of_lt_of_le hn (Nat.le_refl _)) rfl (fun la' hl' => k p e R s m args below meth c H locs cells slots ρ la' hF hR hS0 hS1 hc hs (stl1_has (by rw [ha9]; exact hl') hk) (stl_ok hlv ha.1 hk) ha.2)
theorem Ev.iinc {i q : Nat} {x : Int} {n : Int} {ls' : List (Nat × Vv)} (d : Dq (mB M) pc (.iinc i n) 3 pc') (hq : ls[q]? = some (i, vi x)) (hn : i < mX M) (hr : inR (x + n)) (hk : stl i (vi (x + n)) ls = ls') (k : Ev Θ M fr lc mc ms pc' ls' st h Q) : Ev Θ M fr lc mc ms pc ls (st) h Q := by
  intro p e R s m args below meth c H locs cells slots ρ la hF hR hS0 hS1 hc hs hl hlv hst
  obtain ⟨d, rfl⟩ := d
  exact lv_iinc hF.1 hF.2.1 d hl (k := q) (x := Int32.ofInt x) (by rw [List.getElem?_map, hq]; rfl) (Int32.ofInt_add _ _).symm hn rfl (fun la' hl' => k p e R s m args below meth c H locs cells slots ρ la' hF hR hS0 hS1 hc hs (stl1_has hl' hk) (stl_ok (v := vi (x + n)) hlv hr hk) hst)
theorem Ev.keep {ls' : List (Nat × Vv)} (ks : List Nat) (hk : ks.filterMap (fun i => ls[i]?) = ls') (k : Ev Θ M fr lc mc ms pc ls' st h Q) : Ev Θ M fr lc mc ms pc ls (st) h Q := by
  intro p e R s m args below meth c H locs cells slots ρ la hF hR hS0 hS1 hc hs hl hlv hst
  have hm : ∀ q ∈ ls', q ∈ ls := fun q hq => by
    rw [← hk] at hq
    obtain ⟨i, -, hi⟩ := List.mem_filterMap.mp hq
    exact List.mem_of_getElem? hi
  refine k p e R s m args below meth c H locs cells slots ρ la hF hR hS0 hS1 hc hs ⟨hl.1, hl.2.1, fun q hq => ?_⟩ (fun q hq => hlv q (hm q hq)) hst
  obtain ⟨q0, h1, rfl⟩ := List.mem_map.mp hq
  exact hl.2.2 _ (List.mem_map.mpr ⟨q0, hm q0 h1, rfl⟩)
end
