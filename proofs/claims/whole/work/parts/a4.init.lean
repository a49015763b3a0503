/-! The constructors. P: the places of references that are still null. -/
noncomputable def zp (P : Nat → Nat → Nat → Prop) : Nat → Nat → Nat → Nat := fun C j k => @ite _ (P C j k) (Classical.propDecidable _) 0 (SR C j k)
theorem zp_t {P : Nat → Nat → Nat → Prop} {C j k : Nat} (h : P C j k) : zp P C j k = 0 := if_pos h
theorem zp_f {P : Nat → Nat → Nat → Prop} {C j k : Nat} (h : ¬ P C j k) : zp P C j k = SR C j k := if_neg h
theorem zp_ext {P P' : Nat → Nat → Nat → Prop} (h : ∀ C j k, SR C j k = 0 ∨ (P C j k ↔ P' C j k)) : zp P = zp P' := by
  funext C j k
  by_cases h1 : P C j k
  · by_cases h2 : P' C j k
    · rw [zp_t h1, zp_t h2]
    · rw [zp_t h1, zp_f h2]
      rcases h C j k with e | e
      · exact e.symm
      · exact absurd (e.mp h1) h2
  · by_cases h2 : P' C j k
    · rw [zp_f h1, zp_t h2]
      rcases h C j k with e | e
      · exact e
      · exact absurd (e.mpr h2) h1
    · rw [zp_f h1, zp_f h2]
abbrev noP : Nat → Nat → Nat → Prop := fun _ _ _ => False
theorem zp_no : zp noP = SR := by funext C j k; exact zp_f (fun h => h)
noncomputable abbrev hg (D : Nat → Nat → Prop) (x : Mm) (P : Nat → Nat → Nat → Prop) : Hp := (x.1, x.2, zp P, D, SN)
theorem hg_no {D : Nat → Nat → Prop} {x : Mm} : hg D x noP = hq D x := by unfold hg; rw [zp_no]
def row2 (P : Nat → Nat → Nat → Prop) (C J a CA b : Nat) : Nat → Nat → Nat → Prop := fun C' j' k' => P C' j' k' ∨ (C' = C ∧ j' = J ∧ a ≤ k') ∨ (C' = CA ∧ j' = J ∧ b ≤ k')
def rnk (C : Nat) : Nat := match C with
  | 0 => 0
  | 1 => 0
  | 4 => 0
  | 3 => 1
  | 11 => 2
  | 6 => 3
  | 12 => 4
  | 2 => 5
  | 5 => 5
  | 7 => 6
  | 8 => 6
  | _ => 7
def rkP (P : Nat → Nat → Nat → Prop) (C : Nat) : Prop := ∀ C' j k, P C' j k → rnk C < rnk C'
theorem rkP.no {P : Nat → Nat → Nat → Prop} {C j k : Nat} (h : rkP P C) : ¬ P C j k := fun q => Nat.lt_irrefl _ (h C j k q)
theorem rkP.row2 {P : Nat → Nat → Nat → Prop} {C J a CA b Cc : Nat} (h : rkP P C) (h1 : rnk Cc < rnk C) (h2 : rnk Cc < rnk CA) : rkP (row2 P C J a CA b) Cc := by
  intro C' j' k' q
  rcases q with q | ⟨q, -⟩ | ⟨q, -⟩
  · exact Nat.lt_trans h1 (h _ _ _ q)
  · rw [q]; exact h1
  · rw [q]; exact h2
theorem rkP.noP {C : Nat} : rkP noP C := fun _ _ _ q => q.elim
theorem SR_20 {C j k : Nat} (h : 20 ≤ C) : SR C j k = 0 := by
  unfold SR
  split <;> first | rfl | omega
def bq (q : Nat) : Nat := 1000 * (2 * (q / 5) + 1) + 20 + 10 * (q % 5)
def tb (j : Nat) : Nat := if j = 33 then 22001 else if j = 36 then 22003 else if j % 3 = 0 then 1000 * (2 * (j / 3) + 1) + 6 else if j % 3 = 1 then bq (j / 3) + 1 else bq (j / 3) + 3
/-- when a place is taken -/
def tm (C j : Nat) : Nat := match C with
  | 0 => tb j
  | 23 => tb j + 1
  | 3 => bq j
  | 6 => 1000 * (2 * j + 1)
  | 20 => 1000 * (2 * j + 1) + 1
  | 4 => 1000 * (2 * j + 1) + 2
  | 21 => 1000 * (2 * j + 1) + 3
  | 22 => 1000 * (2 * j + 1) + 4
  | 30 => 1000 * (2 * j + 1) + 5
  | 11 => 1000 * (2 * j + 1) + 8
  | 1 => if j = 11 then 22005 else 1000 * (2 * j + 1) + 9
  | 24 => if j = 11 then 22006 else 1000 * (2 * j + 1) + 10
  | 7 => 0
  | 2 => 4000
  | 12 => 4001
  | 5 => 20000
  | 25 => 22000
  | 8 => 23000
  | 26 => 23001
  | 27 => if j < 2 then 23002 + j else 23003 + j
  | 28 => 23004
  | 31 => 23008
  | _ => 0
theorem tb_0 {J : Nat} (h : J ≤ 10) : tb (3 * J) = 1000 * (2 * J + 1) + 6 := by unfold tb; rw [if_neg (by omega), if_neg (by omega), if_pos (by omega), show 3 * J / 3 = J by omega]
theorem tb_1 {q : Nat} : tb (3 * q + 1) = bq q + 1 := by unfold tb; rw [if_neg (by omega), if_neg (by omega), if_neg (by omega), if_pos (by omega), show (3 * q + 1) / 3 = q by omega]
theorem tb_2 {q : Nat} : tb (3 * q + 2) = bq q + 3 := by unfold tb; rw [if_neg (by omega), if_neg (by omega), if_neg (by omega), if_neg (by omega), show (3 * q + 2) / 3 = q by omega]
theorem bq_5 {J c : Nat} (h : c < 5) : bq (5 * J + c) = 1000 * (2 * J + 1) + 20 + 10 * c := by unfold bq; rw [show (5 * J + c) / 5 = J by omega, show (5 * J + c) % 5 = c by omega]
theorem tm_1 {J : Nat} (h : J ≤ 10) : tm 1 J = 1000 * (2 * J + 1) + 9 := if_neg (by omega)
theorem tm_24 {J : Nat} (h : J ≤ 10) : tm 24 J = 1000 * (2 * J + 1) + 10 := if_neg (by omega)
theorem tm_0 {j : Nat} : tm 0 j = tb j := rfl
theorem tm_23 {j : Nat} : tm 23 j = tb j + 1 := rfl
theorem tm_3 {j : Nat} : tm 3 j = bq j := rfl
theorem tm_6 {j : Nat} : tm 6 j = 1000 * (2 * j + 1) := rfl
theorem tm_20 {j : Nat} : tm 20 j = 1000 * (2 * j + 1) + 1 := rfl
theorem tm_4 {j : Nat} : tm 4 j = 1000 * (2 * j + 1) + 2 := rfl
theorem tm_21 {j : Nat} : tm 21 j = 1000 * (2 * j + 1) + 3 := rfl
theorem tm_22 {j : Nat} : tm 22 j = 1000 * (2 * j + 1) + 4 := rfl
theorem tm_30 {j : Nat} : tm 30 j = 1000 * (2 * j + 1) + 5 := rfl
theorem tm_11 {j : Nat} : tm 11 j = 1000 * (2 * j + 1) + 8 := rfl
def BD (D : Nat → Nat → Prop) (T : Nat) : Prop := ∀ C j, D C j → tm C j < T
theorem BD.mono {D : Nat → Nat → Prop} {T T' : Nat} (h : BD D T) (q : T ≤ T') : BD D T' := fun C j w => Nat.lt_of_lt_of_le (h C j w) q
abbrev ad (D : Nat → Nat → Prop) (C j : Nat) : Nat → Nat → Prop := fun C' j' => D C' j' ∨ (C' = C ∧ j' = j)
theorem BD.ad {D : Nat → Nat → Prop} {T C j : Nat} (h : BD D T) (q : T ≤ tm C j) : BD (ad D C j) (tm C j + 1) := by
  intro C' j' w
  rcases w with w | ⟨rfl, rfl⟩
  · exact Nat.lt_succ_of_le (Nat.le_trans (Nat.le_of_lt (h _ _ w)) q)
  · exact Nat.lt_succ_self _
theorem BD.new {D : Nat → Nat → Prop} {T C j : Nat} (h : BD D T) (q : T ≤ tm C j) : ¬ D C j := fun w => Nat.lt_irrefl _ (Nat.lt_of_lt_of_le (h _ _ w) q)
theorem up2_SN {C j n : Nat} (h : SN C j = n) : up2 SN C j n = SN := by
  funext C' j'
  unfold up2
  split
  · next q => rw [q.1, q.2, h]
  · rfl
theorem alc_o {D : Nat → Nat → Prop} {x : Mm} {P : Nat → Nat → Nat → Prop} {C j n : Nat} (CA b : Nat) (h : SN C j = n) (hb : ∀ k, b ≤ k → SR CA j k = 0) : alc (hg D x P) C j n = hg (ad D C j) x (row2 P C j 0 CA b) := by
  show ((x.1, x.2, zr (zp P) C j, _, up2 SN C j n) : Hp) = (x.1, x.2, zp (row2 P C j 0 CA b), _, SN)
  rw [up2_SN h]
  have e : zr (zp P) C j = zp (row2 P C j 0 CA b) := by
    funext C' j' k'
    unfold zr
    by_cases q : C' = C ∧ j' = j
    · rw [if_pos q, zp_t (Or.inr (Or.inl ⟨q.1, q.2, Nat.zero_le _⟩))]
    · rw [if_neg q]
      by_cases w : P C' j' k'
      · rw [zp_t w, zp_t (Or.inl w)]
      · rw [zp_f w]
        by_cases u : row2 P C j 0 CA b C' j' k'
        · rw [zp_t u]
          rcases u with u | u | ⟨u1, u2, u3⟩
          · exact absurd u w
          · exact absurd ⟨u.1, u.2.1⟩ q
          · rw [u1, u2]; exact hb _ u3
        · rw [zp_f u]
  rw [e]
theorem alc_a {D : Nat → Nat → Prop} {x : Mm} {P : Nat → Nat → Nat → Prop} {C j n : Nat} (hC : 20 ≤ C) (h : SN C j = n) : alc (hg D x P) C j n = hg (ad D C j) x P := by
  show ((x.1, x.2, zr (zp P) C j, _, up2 SN C j n) : Hp) = (x.1, x.2, zp P, _, SN)
  rw [up2_SN h]
  have e : zr (zp P) C j = zp P := by
    funext C' j' k'
    unfold zr
    by_cases q : C' = C ∧ j' = j
    · rw [if_pos q]
      by_cases w : P C' j' k'
      · rw [zp_t w]
      · rw [zp_f w, SR_20 (by omega)]
    · rw [if_neg q]
  rw [e]
/-- the array's row starts -/
theorem alc_q {D : Nat → Nat → Prop} {x : Mm} {P : Nat → Nat → Nat → Prop} {C J a CA b n : Nat} (h : SN CA J = n) : alc (hg D x (row2 P C J a CA b)) CA J n = hg (ad D CA J) x (row2 P C J a CA 0) := by
  show ((x.1, x.2, zr (zp (row2 P C J a CA b)) CA J, _, up2 SN CA J n) : Hp) = (x.1, x.2, zp (row2 P C J a CA 0), _, SN)
  rw [up2_SN h]
  have e : zr (zp (row2 P C J a CA b)) CA J = zp (row2 P C J a CA 0) := by
    funext C' j' k'
    unfold zr
    by_cases q : C' = CA ∧ j' = J
    · rw [if_pos q, zp_t (Or.inr (Or.inr ⟨q.1, q.2, Nat.zero_le _⟩))]
    · rw [if_neg q]
      by_cases w : row2 P C J a CA b C' j' k'
      · rw [zp_t w, zp_t]
        rcases w with w | w | w
        · exact Or.inl w
        · exact Or.inr (Or.inl w)
        · exact absurd ⟨w.1, w.2.1⟩ q
      · rw [zp_f w, zp_f]
        intro u
        rcases u with u | u | u
        · exact w (Or.inl u)
        · exact w (Or.inr (Or.inl u))
        · exact absurd ⟨u.1, u.2.1⟩ q
  rw [e]
theorem set_o {D : Nat → Nat → Prop} {x : Mm} {P : Nat → Nat → Nat → Prop} {C J a CA b s r : Nat} (hP : rkP P C) (hc : C ≠ CA) (ha : a ≤ s) (hs : ∀ k, a ≤ k → k < s → SR C J k = 0) (hr : r = SR C J s) : setR (hg D x (row2 P C J a CA b)) C J s r = hg D x (row2 P C J (s + 1) CA b) := by
  show ((x.1, x.2, up3 (zp (row2 P C J a CA b)) C J s r, D, SN) : Hp) = (x.1, x.2, zp (row2 P C J (s + 1) CA b), D, SN)
  have e : up3 (zp (row2 P C J a CA b)) C J s r = zp (row2 P C J (s + 1) CA b) := by
    funext C' j' k'
    by_cases q : C' = C ∧ j' = J ∧ k' = s
    · obtain ⟨rfl, rfl, rfl⟩ := q
      rw [up3_s, zp_f, hr]
      intro u
      rcases u with u | u | u
      · exact hP.no u
      · omega
      · exact hc u.1
    · rw [up3_n q]
      by_cases w : row2 P C J (s + 1) CA b C' j' k'
      · rw [zp_t w, zp_t]
        rcases w with w | w | w
        · exact Or.inl w
        · exact Or.inr (Or.inl ⟨w.1, w.2.1, by omega⟩)
        · exact Or.inr (Or.inr w)
      · rw [zp_f w]
        by_cases u : row2 P C J a CA b C' j' k'
        · rw [zp_t u]
          rcases u with u | u | u
          · exact absurd (Or.inl u) w
          · have h1 : ¬ s + 1 ≤ k' := fun h => w (Or.inr (Or.inl ⟨u.1, u.2.1, h⟩))
            have h2 : k' ≠ s := fun h => q ⟨u.1, u.2.1, h⟩
            rw [u.1, u.2.1]
            exact (hs k' u.2.2 (by omega)).symm
          · exact absurd (Or.inr (Or.inr u)) w
        · rw [zp_f u]
  rw [e]
theorem set_q {D : Nat → Nat → Prop} {x : Mm} {P : Nat → Nat → Nat → Prop} {C J a CA s r : Nat} (hP : rkP P C) (hk : rnk CA < rnk C) (hr : r = SR CA J s) : setR (hg D x (row2 P C J a CA s)) CA J s r = hg D x (row2 P C J a CA (s + 1)) := by
  show ((x.1, x.2, up3 (zp (row2 P C J a CA s)) CA J s r, D, SN) : Hp) = (x.1, x.2, zp (row2 P C J a CA (s + 1)), D, SN)
  have e : up3 (zp (row2 P C J a CA s)) CA J s r = zp (row2 P C J a CA (s + 1)) := by
    funext C' j' k'
    by_cases q : C' = CA ∧ j' = J ∧ k' = s
    · obtain ⟨rfl, rfl, rfl⟩ := q
      rw [up3_s, zp_f, hr]
      intro u
      rcases u with u | u | u
      · have := hP _ _ _ u; omega
      · rw [u.1] at hk; omega
      · omega
    · rw [up3_n q]
      by_cases w : row2 P C J a CA (s + 1) C' j' k'
      · rw [zp_t w, zp_t]
        rcases w with w | w | w
        · exact Or.inl w
        · exact Or.inr (Or.inl w)
        · exact Or.inr (Or.inr ⟨w.1, w.2.1, by omega⟩)
      · rw [zp_f w]
        by_cases u : row2 P C J a CA s C' j' k'
        · rcases u with u | u | u
          · exact absurd (Or.inl u) w
          · exact absurd (Or.inr (Or.inl u)) w
          · have h1 : ¬ s + 1 ≤ k' := fun h => w (Or.inr (Or.inr ⟨u.1, u.2.1, h⟩))
            exact absurd ⟨u.1, u.2.1, by omega⟩ q
        · rw [zp_f u]
  rw [e]
theorem hg_end {D : Nat → Nat → Prop} {x : Mm} {P : Nat → Nat → Nat → Prop} {C J a CA b : Nat} (h1 : ∀ k, a ≤ k → SR C J k = 0) (h2 : ∀ k, b ≤ k → SR CA J k = 0) : hg D x (row2 P C J a CA b) = hg D x P := by
  have e : zp (row2 P C J a CA b) = zp P := zp_ext fun C' j' k' => by
    by_cases q : C' = C ∧ j' = J ∧ a ≤ k'
    · left; rw [q.1, q.2.1]; exact h1 _ q.2.2
    · by_cases w : C' = CA ∧ j' = J ∧ b ≤ k'
      · left; rw [w.1, w.2.1]; exact h2 _ w.2.2
      · right
        refine ⟨fun u => ?_, fun u => Or.inl u⟩
        rcases u with u | u | u
        · exact u
        · exact absurd u q
        · exact absurd u w
  unfold hg
  rw [e]
abbrev RetB (x : Mm) (P : Nat → Nat → Nat → Prop) (T : Nat) : Ro → Hp → Prop := fun o h' => o = .inl none ∧ ∃ D', BD D' T ∧ h' = hg D' x P
abbrev RetC (x : Mm) (T : Nat) : Ro → Hp → Prop := fun o h' => o = .inl none ∧ ∃ D', BD D' T ∧ h' = hq D' x
section
variable {Θ : GC} {M : MD} {fr lc mc ms pc pc' : Nat} {ls : List (Nat × Vv)} {st : List Vv} {h : Hp} {Q : Ro → Hp → Prop} {D : Nat → Nat → Prop} {x : Mm} {P : Nat → Nat → Nat → Prop} {T : Nat}
theorem Ev.newB {C ix N mc1 ms1 : Nat} (j CA b : Nat) {Cn : String} {Tt : u_T} {ty0 : Nat → FieldType} (f : COK C Cn Tt N ty0) (w1 : Cond.classLink (mO M) ix Cn ∈ GW) (w2 : Cond.instantiable Cn N ∈ GW) (w3 : Cond.initialized Cn ∈ GW) (hb : BD D T) (ht : T ≤ tm C j) (hn : SN C j = 0) (hz : ∀ k, b ≤ k → SR CA j k = 0) (hm : mc = mc1 + 1) (hsl : ms = ms1 + N) (d : Dq (mB M) pc (.new ix) 3 pc') (kk : ∀ D', BD D' (tm C j + 1) → Ev Θ M fr lc mc1 ms1 pc' ls (vr C (j + 1) :: st) (hg D' x (row2 P C j 0 CA b)) Q) : Ev Θ M fr lc mc ms pc ls st (hg D x P) Q :=
  Ev.new j f w1 w2 w3 (hb.new ht) hm hsl d (by rw [alc_o CA b hn hz]; exact kk _ (hb.ad ht))
theorem Ev.newIB {k : Int} {mc1 ms1 : Nat} (C j : Nat) (hA : 20 ≤ C ∧ C < 30) (hb : BD D T) (ht : T ≤ tm C j) (hn : SN C j = k.toNat) (h0 : 0 ≤ k) (h1 : k < 100000) (hm : mc = mc1 + 1) (hsl : ms = ms1 + k.toNat) (d : Dq (mB M) pc (.newarray .int) 2 pc') (kk : ∀ D', BD D' (tm C j + 1) → Ev Θ M fr lc mc1 ms1 pc' ls (vr C (j + 1) :: st) (hg D' x P) Q) : Ev Θ M fr lc mc ms pc ls (vi k :: st) (hg D x P) Q :=
  Ev.newI C j hA (hb.new ht) g0 h0 h1 hm hsl d (by rw [alc_a hA.1 hn]; exact kk _ (hb.ad ht))
theorem Ev.newJB {k : Int} {mc1 ms1 : Nat} (C j : Nat) (hA : 30 ≤ C ∧ C < 40) (hb : BD D T) (ht : T ≤ tm C j) (hn : SN C j = k.toNat) (h0 : 0 ≤ k) (h1 : k < 100000) (hm : mc = mc1 + 1) (hsl : ms = ms1 + k.toNat) (d : Dq (mB M) pc (.newarray .long) 2 pc') (kk : ∀ D', BD D' (tm C j + 1) → Ev Θ M fr lc mc1 ms1 pc' ls (vr C (j + 1) :: st) (hg D' x P) Q) : Ev Θ M fr lc mc ms pc ls (vi k :: st) (hg D x P) Q :=
  Ev.newJ C j hA (hb.new ht) g1 h0 h1 hm hsl d (by rw [alc_a (by omega) hn]; exact kk _ (hb.ad ht))
theorem Ev.newQB {CA ix mc1 ms1 C J a b : Nat} {Cn : String} {k : Int} (hb : BD D T) (ht : T ≤ tm CA J) (hCA : (CA = 11 ∧ Cn = RX3) ∨ (CA = 12 ∧ Cn = RX6)) (w1 : Cond.classLink (mO M) ix Cn ∈ GW) (hn : SN CA J = k.toNat) (h0 : 0 ≤ k) (h1 : k < 100000) (hm : mc = mc1 + 1) (hsl : ms = ms1 + k.toNat) (d : Dq (mB M) pc (.anewarray ix) 3 pc') (kk : ∀ D', BD D' (tm CA J + 1) → Ev Θ M fr lc mc1 ms1 pc' ls (vr CA (J + 1) :: st) (hg D' x (row2 P C J a CA 0)) Q) : Ev Θ M fr lc mc ms pc ls (vi k :: st) (hg D x (row2 P C J a CA b)) Q :=
  Ev.newQ J (hb.new ht) hCA w1 h0 h1 hm hsl d (by rw [alc_q hn]; exact kk _ (hb.ad ht))
theorem Ev.putB {C J ix s C2 r a CA b : Nat} (f : FOK (mO M) ix C s (C2 + 2) true) (hC2 : noS C2) (h98 : C2 ≠ 98) (hi : (mY M).name = "<init>") (hdecl : vwCl[C]?.map (·.1) = some (mO M)) (hP : rkP P C) (hc : C ≠ CA) (ha : a ≤ s) (hs : ∀ k, a ≤ k → k < s → SR C J k = 0) (hr : r = SR C J s) (d : Dq (mB M) pc (.putfield ix) 3 pc') (kk : Ev Θ M fr lc mc ms pc' ls st (hg D x (row2 P C J (s + 1) CA b)) Q) : Ev Θ M fr lc mc ms pc ls (vr C2 r :: vr C (J + 1) :: st) (hg D x (row2 P C J a CA b)) Q :=
  Ev.putRF f hC2 h98 hi hdecl d (by rw [set_o hP hc ha hs hr]; exact kk)
theorem Ev.aastoreB {CA C C0 J r a s : Nat} {k : Int} (hCA : (CA = 11 ∧ C = 3) ∨ (CA = 12 ∧ C = 6)) (h0 : 0 ≤ k) (h1 : k < SN CA J) (hks : k.toNat = s) (hP : rkP P C0) (hk : rnk CA < rnk C0) (hr : r + 1 = SR CA J s) (d : Dq (mB M) pc .aastore 1 pc') (kk : Ev Θ M fr lc mc ms pc' ls st (hg D x (row2 P C0 J a CA (s + 1))) Q) : Ev Θ M fr lc mc ms pc ls (vr C (r + 1) :: vi k :: vr CA (J + 1) :: st) (hg D x (row2 P C0 J a CA s)) Q :=
  Ev.aastore hCA h0 h1 d (by rw [hks, set_q hP hk hr]; exact kk)
theorem Ev.callB {N : MD} {ix C j fr' lc' mc' ms' mc1 ms1 : Nat} {host : Option String} (f : IOK (mO M) host ix N 0) (hM : Cal Θ N fr' lc' mc' ms' [vr C (j + 1)] h (RetB x P T)) (h9 : C < 9) (hb : Bud N fr lc mc ms fr' lc' mc' ms' mc1 ms1 st) (d : Dq (mB M) pc (.invokespecial ix) 3 pc')
    (k : ∀ D', BD D' T → Ev Θ M fr lc mc1 ms1 pc' ls st (hg D' x P) Q) : Ev Θ M fr lc mc ms pc ls (vr C (j + 1) :: st) h Q :=
  Ev.callI (as := []) f h9 rfl rfl hM (fun E h' q => by cases q.1) hb.1 hb.2.1 hb.2.2.1 hb.2.2.2.1 hb.2.2.2.2 d (fun r h' q => by
    obtain ⟨q1, D', q2, rfl⟩ := q
    cases q1; exact k D' q2)
theorem Ev.callC {N : MD} {ix C j fr' lc' mc' ms' mc1 ms1 : Nat} {host : Option String} (f : IOK (mO M) host ix N 0) (hM : Cal Θ N fr' lc' mc' ms' [vr C (j + 1)] h (RetC x T)) (h9 : C < 9) (hb : Bud N fr lc mc ms fr' lc' mc' ms' mc1 ms1 st) (d : Dq (mB M) pc (.invokespecial ix) 3 pc')
    (k : ∀ D', BD D' T → Ev Θ M fr lc mc1 ms1 pc' ls st (hq D' x) Q) : Ev Θ M fr lc mc ms pc ls (vr C (j + 1) :: st) h Q :=
  Ev.callI (as := []) f h9 rfl rfl hM (fun E h' q => by cases q.1) hb.1 hb.2.1 hb.2.2.1 hb.2.2.2.1 hb.2.2.2.2 d (fun r h' q => by
    obtain ⟨q1, D', q2, rfl⟩ := q
    cases q1; exact k D' q2)
end
theorem hz11 {j k : Nat} (h : 5 ≤ k) : SR 11 j k = 0 := if_neg (by omega)
theorem hz12 {j k : Nat} (h : 8 ≤ k) : SR 12 j k = 0 := if_neg (by omega)
theorem he0 {j k : Nat} (h : 2 ≤ k) : SR 0 j k = 0 := by
  unfold SR
  split <;> first | rfl | omega
theorem he1 {j k : Nat} (h : 2 ≤ k) : SR 1 j k = 0 := by
  unfold SR
  split <;> first | rfl | omega
theorem he2 {j k : Nat} (h : 3 ≤ k) : SR 2 j k = 0 := by
  unfold SR
  split <;> first | rfl | omega
theorem he3 {j k : Nat} (h : 7 ≤ k) : SR 3 j k = 0 := by
  unfold SR
  split <;> first | rfl | omega
theorem he4 {j k : Nat} (h : 5 ≤ k) : SR 4 j k = 0 := by
  unfold SR
  split <;> first | rfl | omega
theorem he5 {j k : Nat} (h : 3 ≤ k) : SR 5 j k = 0 := by
  unfold SR
  split <;> first | rfl | omega
theorem he6 {j k : Nat} (h : 8 ≤ k) : SR 6 j k = 0 := by
  unfold SR
  split <;> first | rfl | omega
theorem he7 {j k : Nat} (h : 8 ≤ k) : SR 7 j k = 0 := by
  unfold SR
  split <;> first | rfl | omega
theorem he8 {j k : Nat} (h : 17 ≤ k) : SR 8 j k = 0 := by
  unfold SR
  split <;> first | rfl | omega
theorem hs0 {j k a b : Nat} (h1 : a ≤ k) (h2 : k < b) (w : (a = 0 ∧ b = 1)) : SR 0 j k = 0 := by
  unfold SR
  split <;> first | rfl | omega
theorem hs1 {j k a b : Nat} (h1 : a ≤ k) (h2 : k < b) (w : (a = 0 ∧ b = 1)) : SR 1 j k = 0 := by
  unfold SR
  split <;> first | rfl | omega
theorem hs2 {j k a b : Nat} (h1 : a ≤ k) (h2 : k < b) (w : (a = 0 ∧ b = 2)) : SR 2 j k = 0 := by
  unfold SR
  split <;> first | rfl | omega
theorem hs3 {j k a b : Nat} (h1 : a ≤ k) (h2 : k < b) (w : (a = 0 ∧ b = 5)) : SR 3 j k = 0 := by
  unfold SR
  split <;> first | rfl | omega
theorem hs4 {j k a b : Nat} (h1 : a ≤ k) (h2 : k < b) (w : (a = 0 ∧ b = 2)) : SR 4 j k = 0 := by
  unfold SR
  split <;> first | rfl | omega
theorem hs5 {j k a b : Nat} (h1 : a ≤ k) (h2 : k < b) (w : (a = 0 ∧ b = 1)) : SR 5 j k = 0 := by
  unfold SR
  split <;> first | rfl | omega
theorem hs6 {j k a b : Nat} (h1 : a ≤ k) (h2 : k < b) (w : (a = 0 ∧ b = 3)) : SR 6 j k = 0 := by
  unfold SR
  split <;> first | rfl | omega
theorem hs7 {j k a b : Nat} (h1 : a ≤ k) (h2 : k < b) (w : (a = 2 ∧ b = 3)) : SR 7 j k = 0 := by
  unfold SR
  split <;> first | rfl | omega
theorem hs8 {j k a b : Nat} (h1 : a ≤ k) (h2 : k < b) (w : (a = 0 ∧ b = 1) ∨ (a = 2 ∧ b = 8) ∨ (a = 12 ∧ b = 15)) : SR 8 j k = 0 := by
  unfold SR
  split <;> first | rfl | omega
set_option maxHeartbeats 4000000 in
set_option maxRecDepth 20000 in
theorem c_X0_init (Θ : GC) (b : Nat) {P : Nat → Nat → Nat → Prop} {D : Nat → Nat → Prop} {x : Mm} (hP : rkP P 0) (hb : BD D (tb b + 1)) : Cal Θ mX0_init 1 20 1 360 [vr 0 (b + 1)] (hg D x (row2 P 0 (b) 0 40 0)) (RetB x P (tb b + 2)) := by
  refine Cal.of (by decide +kernel) rfl rfl (Nat.le_of_ble_eq_true rfl) ?_
  show Ev Θ mX0_init 1 20 1 360 0 [(0, vr 0 (b + 1))] [] (hg D x (row2 P 0 (b) 0 40 0)) (RetB x P (tb b + 2))
  refine Ev.aload_n (q := 0) ⟨dX0_init_0, rfl⟩ rfl rfl ?_
  refine Ev.objInit oX0_3 g2 g3 (by decide) (by decide) (by decide) ⟨dX0_init_1, rfl⟩ ?_
  refine Ev.aload_n (q := 0) ⟨dX0_init_4, rfl⟩ rfl rfl ?_
  refine Ev.sipush ⟨dX0_init_5, rfl⟩ (inRd rfl) (by decide) ?_
  refine Ev.newIB (mc1 := 0) (ms1 := 0) 23 (b) (by decide) hb (by first | omega | (simp only [tm_0, tm_23, tm_3, tm_6, tm_20, tm_4, tm_21, tm_22, tm_30, tm_11, tb_1, tb_2]; omega) | simp only [tm_0, tm_23, tm_3, tm_6, tm_20, tm_4, tm_21, tm_22, tm_30, tm_11, tb_1, tb_2]) rfl (by decide) (by decide) rfl rfl ⟨dX0_init_8, rfl⟩ (fun D1 hb1 => ?_)
  refine Ev.putB (a := 0) (C2 := 23) fX0_9 (by decide) (by decide) rfl rfl hP (by decide) (by decide) (fun k h1 h2 => hs0 h1 h2 (by decide)) rfl ⟨dX0_init_10, rfl⟩ ?_
  exact Ev.ret ⟨dX0_init_13, rfl⟩ rfl ⟨rfl, _, hb1.mono (by first | omega | (simp only [tm_0, tm_23, tm_3, tm_6, tm_20, tm_4, tm_21, tm_22, tm_30, tm_11, tb_1, tb_2]; omega) | simp only [tm_0, tm_23, tm_3, tm_6, tm_20, tm_4, tm_21, tm_22, tm_30, tm_11, tb_1, tb_2]), hg_end (fun k hk => he0 hk) (fun k _ => SR_20 (by decide))⟩
set_option maxHeartbeats 4000000 in
set_option maxRecDepth 20000 in
theorem c_X1_init (Θ : GC) (b : Nat) {P : Nat → Nat → Nat → Prop} {D : Nat → Nat → Prop} {x : Mm} (hP : rkP P 1) (hb : BD D (tm 24 b)) : Cal Θ mX1_init 1 20 1 240 [vr 1 (b + 1)] (hg D x (row2 P 1 (b) 0 40 0)) (RetB x P (tm 24 b + 1)) := by
  refine Cal.of (by decide +kernel) rfl rfl (Nat.le_of_ble_eq_true rfl) ?_
  show Ev Θ mX1_init 1 20 1 240 0 [(0, vr 1 (b + 1))] [] (hg D x (row2 P 1 (b) 0 40 0)) (RetB x P (tm 24 b + 1))
  refine Ev.aload_n (q := 0) ⟨dX1_init_0, rfl⟩ rfl rfl ?_
  refine Ev.objInit oX1_3 g2 g3 (by decide) (by decide) (by decide) ⟨dX1_init_1, rfl⟩ ?_
  refine Ev.aload_n (q := 0) ⟨dX1_init_4, rfl⟩ rfl rfl ?_
  refine Ev.sipush ⟨dX1_init_5, rfl⟩ (inRd rfl) (by decide) ?_
  refine Ev.newIB (mc1 := 0) (ms1 := 0) 24 (b) (by decide) hb (by first | omega | (simp only [tm_0, tm_23, tm_3, tm_6, tm_20, tm_4, tm_21, tm_22, tm_30, tm_11, tb_1, tb_2]; omega) | simp only [tm_0, tm_23, tm_3, tm_6, tm_20, tm_4, tm_21, tm_22, tm_30, tm_11, tb_1, tb_2]) rfl (by decide) (by decide) rfl rfl ⟨dX1_init_8, rfl⟩ (fun D1 hb1 => ?_)
  refine Ev.putB (a := 0) (C2 := 24) fX1_9 (by decide) (by decide) rfl rfl hP (by decide) (by decide) (fun k h1 h2 => hs1 h1 h2 (by decide)) rfl ⟨dX1_init_10, rfl⟩ ?_
  exact Ev.ret ⟨dX1_init_13, rfl⟩ rfl ⟨rfl, _, hb1.mono (by first | omega | (simp only [tm_0, tm_23, tm_3, tm_6, tm_20, tm_4, tm_21, tm_22, tm_30, tm_11, tb_1, tb_2]; omega) | simp only [tm_0, tm_23, tm_3, tm_6, tm_20, tm_4, tm_21, tm_22, tm_30, tm_11, tb_1, tb_2]), hg_end (fun k hk => he1 hk) (fun k _ => SR_20 (by decide))⟩
set_option maxHeartbeats 4000000 in
set_option maxRecDepth 20000 in
theorem c_X4_init (Θ : GC) (J : Nat) {P : Nat → Nat → Nat → Prop} {D : Nat → Nat → Prop} {x : Mm} (hP : rkP P 4) (hb : BD D (1000 * (2 * J + 1) + 3)) : Cal Θ mX4_init 1 20 3 180 [vr 4 (J + 1)] (hg D x (row2 P 4 (J) 0 40 0)) (RetB x P (1000 * (2 * J + 1) + 6)) := by
  refine Cal.of (by decide +kernel) rfl rfl (Nat.le_of_ble_eq_true rfl) ?_
  show Ev Θ mX4_init 1 20 3 180 0 [(0, vr 4 (J + 1))] [] (hg D x (row2 P 4 (J) 0 40 0)) (RetB x P (1000 * (2 * J + 1) + 6))
  refine Ev.aload_n (q := 0) ⟨dX4_init_0, rfl⟩ rfl rfl ?_
  refine Ev.objInit oX4_3 g2 g3 (by decide) (by decide) (by decide) ⟨dX4_init_1, rfl⟩ ?_
  refine Ev.aload_n (q := 0) ⟨dX4_init_4, rfl⟩ rfl rfl ?_
  refine Ev.bipush ⟨dX4_init_5, rfl⟩ (inRd rfl) (by decide) ?_
  refine Ev.newIB (mc1 := 2) (ms1 := 120) 21 (J) (by decide) hb (by first | omega | (simp only [tm_0, tm_23, tm_3, tm_6, tm_20, tm_4, tm_21, tm_22, tm_30, tm_11, tb_1, tb_2]; omega) | simp only [tm_0, tm_23, tm_3, tm_6, tm_20, tm_4, tm_21, tm_22, tm_30, tm_11, tb_1, tb_2]) rfl (by decide) (by decide) rfl rfl ⟨dX4_init_7, rfl⟩ (fun D1 hb1 => ?_)
  refine Ev.putB (a := 0) (C2 := 21) fX4_9 (by decide) (by decide) rfl rfl hP (by decide) (by decide) (fun k h1 h2 => hs4 h1 h2 (by decide)) rfl ⟨dX4_init_9, rfl⟩ ?_
  refine Ev.aload_n (q := 0) ⟨dX4_init_12, rfl⟩ rfl rfl ?_
  refine Ev.bipush ⟨dX4_init_13, rfl⟩ (inRd rfl) (by decide) ?_
  refine Ev.newIB (mc1 := 1) (ms1 := 60) 22 (J) (by decide) hb1 (by first | omega | (simp only [tm_0, tm_23, tm_3, tm_6, tm_20, tm_4, tm_21, tm_22, tm_30, tm_11, tb_1, tb_2]; omega) | simp only [tm_0, tm_23, tm_3, tm_6, tm_20, tm_4, tm_21, tm_22, tm_30, tm_11, tb_1, tb_2]) rfl (by decide) (by decide) rfl rfl ⟨dX4_init_15, rfl⟩ (fun D2 hb2 => ?_)
  refine Ev.putB (a := 3) (C2 := 22) fX4_15 (by decide) (by decide) rfl rfl hP (by decide) (by decide) (fun k h1 h2 => absurd h1 (by omega)) rfl ⟨dX4_init_17, rfl⟩ ?_
  refine Ev.aload_n (q := 0) ⟨dX4_init_20, rfl⟩ rfl rfl ?_
  refine Ev.bipush ⟨dX4_init_21, rfl⟩ (inRd rfl) (by decide) ?_
  refine Ev.newJB (mc1 := 0) (ms1 := 0) 30 (J) (by decide) hb2 (by first | omega | (simp only [tm_0, tm_23, tm_3, tm_6, tm_20, tm_4, tm_21, tm_22, tm_30, tm_11, tb_1, tb_2]; omega) | simp only [tm_0, tm_23, tm_3, tm_6, tm_20, tm_4, tm_21, tm_22, tm_30, tm_11, tb_1, tb_2]) rfl (by decide) (by decide) rfl rfl ⟨dX4_init_23, rfl⟩ (fun D3 hb3 => ?_)
  refine Ev.putB (a := 4) (C2 := 30) fX4_18 (by decide) (by decide) rfl rfl hP (by decide) (by decide) (fun k h1 h2 => absurd h1 (by omega)) rfl ⟨dX4_init_25, rfl⟩ ?_
  exact Ev.ret ⟨dX4_init_28, rfl⟩ rfl ⟨rfl, _, hb3.mono (by first | omega | (simp only [tm_0, tm_23, tm_3, tm_6, tm_20, tm_4, tm_21, tm_22, tm_30, tm_11, tb_1, tb_2]; omega) | simp only [tm_0, tm_23, tm_3, tm_6, tm_20, tm_4, tm_21, tm_22, tm_30, tm_11, tb_1, tb_2]), hg_end (fun k hk => he4 hk) (fun k _ => SR_20 (by decide))⟩
set_option maxHeartbeats 4000000 in
set_option maxRecDepth 20000 in
theorem c_X3_init (Θ : GC) (q : Nat) {P : Nat → Nat → Nat → Prop} {D : Nat → Nat → Prop} {x : Mm} (hP : rkP P 3) (hb : BD D (bq q + 1)) : Cal Θ mX3_init 2 40 4 724 [vr 3 (q + 1)] (hg D x (row2 P 3 (q) 0 40 0)) (RetB x P (bq q + 5)) := by
  refine Cal.of (by decide +kernel) rfl rfl (Nat.le_of_ble_eq_true rfl) ?_
  show Ev Θ mX3_init 2 40 4 724 0 [(0, vr 3 (q + 1))] [] (hg D x (row2 P 3 (q) 0 40 0)) (RetB x P (bq q + 5))
  refine Ev.aload_n (q := 0) ⟨dX3_init_0, rfl⟩ rfl rfl ?_
  refine Ev.objInit oX3_1 g2 g3 (by decide) (by decide) (by decide) ⟨dX3_init_1, rfl⟩ ?_
  refine Ev.aload_n (q := 0) ⟨dX3_init_4, rfl⟩ rfl rfl ?_
  refine Ev.newB (mc1 := 3) (ms1 := 722) (3 * q + 1) 40 0 cok0 kX3_7 g5 g4 hb (by first | omega | (simp only [tm_0, tm_23, tm_3, tm_6, tm_20, tm_4, tm_21, tm_22, tm_30, tm_11, tb_1, tb_2]; omega) | simp only [tm_0, tm_23, tm_3, tm_6, tm_20, tm_4, tm_21, tm_22, tm_30, tm_11, tb_1, tb_2]) rfl (fun k _ => SR_20 (by decide)) rfl rfl ⟨dX3_init_5, rfl⟩ (fun D1 hb1 => ?_)
  refine Ev.dup ⟨dX3_init_8, rfl⟩ rfl ?_
  refine Ev.callB (mc1 := 2) (ms1 := 362) iX3_9 (c_X0_init Θ (3 * q + 1) (rkP.row2 hP (by decide) (by decide)) (hb1.mono (by first | omega | (simp only [tm_0, tm_23, tm_3, tm_6, tm_20, tm_4, tm_21, tm_22, tm_30, tm_11, tb_1, tb_2]; omega) | simp only [tm_0, tm_23, tm_3, tm_6, tm_20, tm_4, tm_21, tm_22, tm_30, tm_11, tb_1, tb_2]))) (by decide) ⟨by decide, by decide, by decide, by decide, Nat.le_of_ble_eq_true rfl⟩ ⟨dX3_init_9, rfl⟩ (fun D2 hb2 => ?_)
  refine Ev.putB (a := 0) (C2 := 0) fX3_10 (by decide) (by decide) rfl rfl hP (by decide) (by decide) (fun k h1 h2 => hs3 h1 h2 (by decide)) rfl ⟨dX3_init_12, rfl⟩ ?_
  refine Ev.aload_n (q := 0) ⟨dX3_init_15, rfl⟩ rfl rfl ?_
  refine Ev.newB (mc1 := 1) (ms1 := 360) (3 * q + 2) 40 0 cok0 kX3_7 g5 g4 hb2 (by first | omega | (simp only [tm_0, tm_23, tm_3, tm_6, tm_20, tm_4, tm_21, tm_22, tm_30, tm_11, tb_1, tb_2]; omega) | simp only [tm_0, tm_23, tm_3, tm_6, tm_20, tm_4, tm_21, tm_22, tm_30, tm_11, tb_1, tb_2]) rfl (fun k _ => SR_20 (by decide)) rfl rfl ⟨dX3_init_16, rfl⟩ (fun D3 hb3 => ?_)
  refine Ev.dup ⟨dX3_init_19, rfl⟩ rfl ?_
  refine Ev.callB (mc1 := 0) (ms1 := 0) iX3_9 (c_X0_init Θ (3 * q + 2) (rkP.row2 hP (by decide) (by decide)) (hb3.mono (by first | omega | (simp only [tm_0, tm_23, tm_3, tm_6, tm_20, tm_4, tm_21, tm_22, tm_30, tm_11, tb_1, tb_2]; omega) | simp only [tm_0, tm_23, tm_3, tm_6, tm_20, tm_4, tm_21, tm_22, tm_30, tm_11, tb_1, tb_2]))) (by decide) ⟨by decide, by decide, by decide, by decide, Nat.le_of_ble_eq_true rfl⟩ ⟨dX3_init_20, rfl⟩ (fun D4 hb4 => ?_)
  refine Ev.putB (a := 6) (C2 := 0) fX3_16 (by decide) (by decide) rfl rfl hP (by decide) (by decide) (fun k h1 h2 => absurd h1 (by omega)) rfl ⟨dX3_init_23, rfl⟩ ?_
  exact Ev.ret ⟨dX3_init_26, rfl⟩ rfl ⟨rfl, _, hb4.mono (by first | omega | (simp only [tm_0, tm_23, tm_3, tm_6, tm_20, tm_4, tm_21, tm_22, tm_30, tm_11, tb_1, tb_2]; omega) | simp only [tm_0, tm_23, tm_3, tm_6, tm_20, tm_4, tm_21, tm_22, tm_30, tm_11, tb_1, tb_2]), hg_end (fun k hk => he3 hk) (fun k _ => SR_20 (by decide))⟩
set_option maxHeartbeats 4000000 in
set_option maxRecDepth 20000 in
theorem c_X6_init (Θ : GC) (J : Nat) (hJ : J ≤ 10) {P : Nat → Nat → Nat → Prop} {D : Nat → Nat → Prop} {x : Mm} (hP : rkP P 6) (hb : BD D (1000 * (2 * J + 1) + 1)) : Cal Θ mX6_init 3 60 35 4455 [vr 6 (J + 1)] (hg D x (row2 P 6 (J) 0 11 5)) (RetB x P (1000 * (2 * J + 1) + 100)) := by
  refine Cal.of (by decide +kernel) rfl rfl (Nat.le_of_ble_eq_true rfl) ?_
  show Ev Θ mX6_init 3 60 35 4455 0 [(0, vr 6 (J + 1))] [] (hg D x (row2 P 6 (J) 0 11 5)) (RetB x P (1000 * (2 * J + 1) + 100))
  refine Ev.aload_n (q := 0) ⟨dX6_init_0, rfl⟩ rfl rfl ?_
  refine Ev.objInit oX6_3 g2 g3 (by decide) (by decide) (by decide) ⟨dX6_init_1, rfl⟩ ?_
  refine Ev.aload_n (q := 0) ⟨dX6_init_4, rfl⟩ rfl rfl ?_
  refine Ev.bipush ⟨dX6_init_5, rfl⟩ (inRd rfl) (by decide) ?_
  refine Ev.newIB (mc1 := 34) (ms1 := 4449) 20 (J) (by decide) hb (by first | omega | (simp only [tm_0, tm_23, tm_3, tm_6, tm_20, tm_4, tm_21, tm_22, tm_30, tm_11, tm_1 hJ, tm_24 hJ, tb_0 hJ, tb_1, tb_2, bq_5 (J := J) (c := 0) (by decide), bq_5 (J := J) (c := 1) (by decide), bq_5 (J := J) (c := 2) (by decide), bq_5 (J := J) (c := 3) (by decide), bq_5 (J := J) (c := 4) (by decide)]; omega) | simp only [tm_0, tm_23, tm_3, tm_6, tm_20, tm_4, tm_21, tm_22, tm_30, tm_11, tm_1 hJ, tm_24 hJ, tb_0 hJ, tb_1, tb_2, bq_5 (J := J) (c := 0) (by decide), bq_5 (J := J) (c := 1) (by decide), bq_5 (J := J) (c := 2) (by decide), bq_5 (J := J) (c := 3) (by decide), bq_5 (J := J) (c := 4) (by decide)]) rfl (by decide) (by decide) rfl rfl ⟨dX6_init_7, rfl⟩ (fun D1 hb1 => ?_)
  refine Ev.putB (a := 0) (C2 := 20) fX6_9 (by decide) (by decide) rfl rfl hP (by decide) (by decide) (fun k h1 h2 => hs6 h1 h2 (by decide)) rfl ⟨dX6_init_9, rfl⟩ ?_
  refine Ev.aload_n (q := 0) ⟨dX6_init_12, rfl⟩ rfl rfl ?_
  refine Ev.newB (mc1 := 33) (ms1 := 4444) (J) 40 0 cok4 kX6_15 g13 g12 hb1 (by first | omega | (simp only [tm_0, tm_23, tm_3, tm_6, tm_20, tm_4, tm_21, tm_22, tm_30, tm_11, tm_1 hJ, tm_24 hJ, tb_0 hJ, tb_1, tb_2, bq_5 (J := J) (c := 0) (by decide), bq_5 (J := J) (c := 1) (by decide), bq_5 (J := J) (c := 2) (by decide), bq_5 (J := J) (c := 3) (by decide), bq_5 (J := J) (c := 4) (by decide)]; omega) | simp only [tm_0, tm_23, tm_3, tm_6, tm_20, tm_4, tm_21, tm_22, tm_30, tm_11, tm_1 hJ, tm_24 hJ, tb_0 hJ, tb_1, tb_2, bq_5 (J := J) (c := 0) (by decide), bq_5 (J := J) (c := 1) (by decide), bq_5 (J := J) (c := 2) (by decide), bq_5 (J := J) (c := 3) (by decide), bq_5 (J := J) (c := 4) (by decide)]) rfl (fun k _ => SR_20 (by decide)) rfl rfl ⟨dX6_init_13, rfl⟩ (fun D2 hb2 => ?_)
  refine Ev.dup ⟨dX6_init_16, rfl⟩ rfl ?_
  refine Ev.callB (mc1 := 30) (ms1 := 4264) iX6_17 (c_X4_init Θ (J) (rkP.row2 hP (by decide) (by decide)) (hb2.mono (by first | omega | (simp only [tm_0, tm_23, tm_3, tm_6, tm_20, tm_4, tm_21, tm_22, tm_30, tm_11, tm_1 hJ, tm_24 hJ, tb_0 hJ, tb_1, tb_2, bq_5 (J := J) (c := 0) (by decide), bq_5 (J := J) (c := 1) (by decide), bq_5 (J := J) (c := 2) (by decide), bq_5 (J := J) (c := 3) (by decide), bq_5 (J := J) (c := 4) (by decide)]; omega) | simp only [tm_0, tm_23, tm_3, tm_6, tm_20, tm_4, tm_21, tm_22, tm_30, tm_11, tm_1 hJ, tm_24 hJ, tb_0 hJ, tb_1, tb_2, bq_5 (J := J) (c := 0) (by decide), bq_5 (J := J) (c := 1) (by decide), bq_5 (J := J) (c := 2) (by decide), bq_5 (J := J) (c := 3) (by decide), bq_5 (J := J) (c := 4) (by decide)]))) (by decide) ⟨by decide, by decide, by decide, by decide, Nat.le_of_ble_eq_true rfl⟩ ⟨dX6_init_17, rfl⟩ (fun D3 hb3 => ?_)
  refine Ev.putB (a := 4) (C2 := 4) fX6_18 (by decide) (by decide) rfl rfl hP (by decide) (by decide) (fun k h1 h2 => absurd h1 (by omega)) rfl ⟨dX6_init_20, rfl⟩ ?_
  refine Ev.aload_n (q := 0) ⟨dX6_init_23, rfl⟩ rfl rfl ?_
  refine Ev.newB (mc1 := 29) (ms1 := 4262) (3 * J) 40 0 cok0 kX6_22 g5 g4 hb3 (by first | omega | (simp only [tm_0, tm_23, tm_3, tm_6, tm_20, tm_4, tm_21, tm_22, tm_30, tm_11, tm_1 hJ, tm_24 hJ, tb_0 hJ, tb_1, tb_2, bq_5 (J := J) (c := 0) (by decide), bq_5 (J := J) (c := 1) (by decide), bq_5 (J := J) (c := 2) (by decide), bq_5 (J := J) (c := 3) (by decide), bq_5 (J := J) (c := 4) (by decide)]; omega) | simp only [tm_0, tm_23, tm_3, tm_6, tm_20, tm_4, tm_21, tm_22, tm_30, tm_11, tm_1 hJ, tm_24 hJ, tb_0 hJ, tb_1, tb_2, bq_5 (J := J) (c := 0) (by decide), bq_5 (J := J) (c := 1) (by decide), bq_5 (J := J) (c := 2) (by decide), bq_5 (J := J) (c := 3) (by decide), bq_5 (J := J) (c := 4) (by decide)]) rfl (fun k _ => SR_20 (by decide)) rfl rfl ⟨dX6_init_24, rfl⟩ (fun D4 hb4 => ?_)
  refine Ev.dup ⟨dX6_init_27, rfl⟩ rfl ?_
  refine Ev.callB (mc1 := 28) (ms1 := 3902) iX6_24 (c_X0_init Θ (3 * J) (rkP.row2 hP (by decide) (by decide)) (hb4.mono (by first | omega | (simp only [tm_0, tm_23, tm_3, tm_6, tm_20, tm_4, tm_21, tm_22, tm_30, tm_11, tm_1 hJ, tm_24 hJ, tb_0 hJ, tb_1, tb_2, bq_5 (J := J) (c := 0) (by decide), bq_5 (J := J) (c := 1) (by decide), bq_5 (J := J) (c := 2) (by decide), bq_5 (J := J) (c := 3) (by decide), bq_5 (J := J) (c := 4) (by decide)]; omega) | simp only [tm_0, tm_23, tm_3, tm_6, tm_20, tm_4, tm_21, tm_22, tm_30, tm_11, tm_1 hJ, tm_24 hJ, tb_0 hJ, tb_1, tb_2, bq_5 (J := J) (c := 0) (by decide), bq_5 (J := J) (c := 1) (by decide), bq_5 (J := J) (c := 2) (by decide), bq_5 (J := J) (c := 3) (by decide), bq_5 (J := J) (c := 4) (by decide)]))) (by decide) ⟨by decide, by decide, by decide, by decide, Nat.le_of_ble_eq_true rfl⟩ ⟨dX6_init_28, rfl⟩ (fun D5 hb5 => ?_)
  refine Ev.putB (a := 5) (C2 := 0) fX6_25 (by decide) (by decide) rfl rfl hP (by decide) (by decide) (fun k h1 h2 => absurd h1 (by omega)) rfl ⟨dX6_init_31, rfl⟩ ?_
  refine Ev.aload_n (q := 0) ⟨dX6_init_34, rfl⟩ rfl rfl ?_
  refine Ev.iconst ⟨dX6_init_35, rfl⟩ (inRd rfl) ?_
  refine Ev.newQB (mc1 := 27) (ms1 := 3897) hb5 (by first | omega | (simp only [tm_0, tm_23, tm_3, tm_6, tm_20, tm_4, tm_21, tm_22, tm_30, tm_11, tm_1 hJ, tm_24 hJ, tb_0 hJ, tb_1, tb_2, bq_5 (J := J) (c := 0) (by decide), bq_5 (J := J) (c := 1) (by decide), bq_5 (J := J) (c := 2) (by decide), bq_5 (J := J) (c := 3) (by decide), bq_5 (J := J) (c := 4) (by decide)]; omega) | simp only [tm_0, tm_23, tm_3, tm_6, tm_20, tm_4, tm_21, tm_22, tm_30, tm_11, tm_1 hJ, tm_24 hJ, tb_0 hJ, tb_1, tb_2, bq_5 (J := J) (c := 0) (by decide), bq_5 (J := J) (c := 1) (by decide), bq_5 (J := J) (c := 2) (by decide), bq_5 (J := J) (c := 3) (by decide), bq_5 (J := J) (c := 4) (by decide)]) (Or.inl ⟨rfl, rfl⟩) kX6_29 rfl (by decide) (by decide) rfl rfl ⟨dX6_init_36, rfl⟩ (fun D6 hb6 => ?_)
  refine Ev.putB (a := 6) (C2 := 11) fX6_31 (by decide) (by decide) rfl rfl hP (by decide) (by decide) (fun k h1 h2 => absurd h1 (by omega)) rfl ⟨dX6_init_39, rfl⟩ ?_
  refine Ev.aload_n (q := 0) ⟨dX6_init_42, rfl⟩ rfl rfl ?_
  refine Ev.newB (mc1 := 26) (ms1 := 3895) (J) 40 0 cok1 kX6_35 g7 g6 hb6 (by first | omega | (simp only [tm_0, tm_23, tm_3, tm_6, tm_20, tm_4, tm_21, tm_22, tm_30, tm_11, tm_1 hJ, tm_24 hJ, tb_0 hJ, tb_1, tb_2, bq_5 (J := J) (c := 0) (by decide), bq_5 (J := J) (c := 1) (by decide), bq_5 (J := J) (c := 2) (by decide), bq_5 (J := J) (c := 3) (by decide), bq_5 (J := J) (c := 4) (by decide)]; omega) | simp only [tm_0, tm_23, tm_3, tm_6, tm_20, tm_4, tm_21, tm_22, tm_30, tm_11, tm_1 hJ, tm_24 hJ, tb_0 hJ, tb_1, tb_2, bq_5 (J := J) (c := 0) (by decide), bq_5 (J := J) (c := 1) (by decide), bq_5 (J := J) (c := 2) (by decide), bq_5 (J := J) (c := 3) (by decide), bq_5 (J := J) (c := 4) (by decide)]) rfl (fun k _ => SR_20 (by decide)) rfl rfl ⟨dX6_init_43, rfl⟩ (fun D7 hb7 => ?_)
  refine Ev.dup ⟨dX6_init_46, rfl⟩ rfl ?_
  refine Ev.callB (mc1 := 25) (ms1 := 3655) iX6_37 (c_X1_init Θ (J) (rkP.row2 hP (by decide) (by decide)) (hb7.mono (by first | omega | (simp only [tm_0, tm_23, tm_3, tm_6, tm_20, tm_4, tm_21, tm_22, tm_30, tm_11, tm_1 hJ, tm_24 hJ, tb_0 hJ, tb_1, tb_2, bq_5 (J := J) (c := 0) (by decide), bq_5 (J := J) (c := 1) (by decide), bq_5 (J := J) (c := 2) (by decide), bq_5 (J := J) (c := 3) (by decide), bq_5 (J := J) (c := 4) (by decide)]; omega) | simp only [tm_0, tm_23, tm_3, tm_6, tm_20, tm_4, tm_21, tm_22, tm_30, tm_11, tm_1 hJ, tm_24 hJ, tb_0 hJ, tb_1, tb_2, bq_5 (J := J) (c := 0) (by decide), bq_5 (J := J) (c := 1) (by decide), bq_5 (J := J) (c := 2) (by decide), bq_5 (J := J) (c := 3) (by decide), bq_5 (J := J) (c := 4) (by decide)]))) (by decide) ⟨by decide, by decide, by decide, by decide, Nat.le_of_ble_eq_true rfl⟩ ⟨dX6_init_47, rfl⟩ (fun D8 hb8 => ?_)
  refine Ev.putB (a := 7) (C2 := 1) fX6_38 (by decide) (by decide) rfl rfl hP (by decide) (by decide) (fun k h1 h2 => absurd h1 (by omega)) rfl ⟨dX6_init_50, rfl⟩ ?_
  refine Ev.iconst ⟨dX6_init_53, rfl⟩ (inRd rfl) ?_
  refine Ev.istore_n (i := 1) (ls' := [(0, vr 6 (J + 1)), (1, vi (0 : Int))]) ⟨dX6_init_54, rfl⟩ rfl (by decide) rfl ?_
  refine Ev.iload_n (q := 1) ⟨dX6_init_55, rfl⟩ rfl rfl ?_
  refine Ev.iconst ⟨dX6_init_56, rfl⟩ (inRd rfl) ?_
  refine Ev.icmp_ge jX6_init_57 (fun hc => absurd hc (show ¬ (5 : Int) ≤ 0 by decide)) (fun _ => ?_)
  refine Ev.aload_n (q := 0) ⟨dX6_init_60, rfl⟩ rfl rfl ?_
  refine Ev.getRk (C2 := 11) (r := J) fX6_31 (zp_f (fun u => by
    rcases u with u | u | u
    · exact hP.no u
    · exact absurd u.2.2 (by decide)
    · exact absurd u.1 (by decide))) (by decide) (by decide) ⟨dX6_init_61, rfl⟩ ?_
  refine Ev.iload_n (q := 1) ⟨dX6_init_64, rfl⟩ rfl rfl ?_
  refine Ev.newB (mc1 := 24) (ms1 := 3648) (5 * J + 0) 40 0 cok3 kX6_29 g11 g10 hb8 (by first | omega | (simp only [tm_0, tm_23, tm_3, tm_6, tm_20, tm_4, tm_21, tm_22, tm_30, tm_11, tm_1 hJ, tm_24 hJ, tb_0 hJ, tb_1, tb_2, bq_5 (J := J) (c := 0) (by decide), bq_5 (J := J) (c := 1) (by decide), bq_5 (J := J) (c := 2) (by decide), bq_5 (J := J) (c := 3) (by decide), bq_5 (J := J) (c := 4) (by decide)]; omega) | simp only [tm_0, tm_23, tm_3, tm_6, tm_20, tm_4, tm_21, tm_22, tm_30, tm_11, tm_1 hJ, tm_24 hJ, tb_0 hJ, tb_1, tb_2, bq_5 (J := J) (c := 0) (by decide), bq_5 (J := J) (c := 1) (by decide), bq_5 (J := J) (c := 2) (by decide), bq_5 (J := J) (c := 3) (by decide), bq_5 (J := J) (c := 4) (by decide)]) rfl (fun k _ => SR_20 (by decide)) rfl rfl ⟨dX6_init_65, rfl⟩ (fun D9 hb9 => ?_)
  refine Ev.dup ⟨dX6_init_68, rfl⟩ rfl ?_
  refine Ev.callB (mc1 := 20) (ms1 := 2924) iX6_42 (c_X3_init Θ (5 * J + 0) (rkP.row2 hP (by decide) (by decide)) (hb9.mono (by first | omega | (simp only [tm_0, tm_23, tm_3, tm_6, tm_20, tm_4, tm_21, tm_22, tm_30, tm_11, tm_1 hJ, tm_24 hJ, tb_0 hJ, tb_1, tb_2, bq_5 (J := J) (c := 0) (by decide), bq_5 (J := J) (c := 1) (by decide), bq_5 (J := J) (c := 2) (by decide), bq_5 (J := J) (c := 3) (by decide), bq_5 (J := J) (c := 4) (by decide)]; omega) | simp only [tm_0, tm_23, tm_3, tm_6, tm_20, tm_4, tm_21, tm_22, tm_30, tm_11, tm_1 hJ, tm_24 hJ, tb_0 hJ, tb_1, tb_2, bq_5 (J := J) (c := 0) (by decide), bq_5 (J := J) (c := 1) (by decide), bq_5 (J := J) (c := 2) (by decide), bq_5 (J := J) (c := 3) (by decide), bq_5 (J := J) (c := 4) (by decide)]))) (by decide) ⟨by decide, by decide, by decide, by decide, Nat.le_of_ble_eq_true rfl⟩ ⟨dX6_init_69, rfl⟩ (fun D10 hb10 => ?_)
  refine Ev.aastoreB (s := 0) (Or.inl ⟨rfl, rfl⟩) (by decide) (show (0 : Int) < ((5 : Nat) : Int) by decide) rfl hP (by decide) rfl ⟨dX6_init_72, rfl⟩ ?_
  refine Ev.iinc (q := 1) (ls' := [(0, vr 6 (J + 1)), (1, vi (1 : Int))]) ⟨dX6_init_73, rfl⟩ rfl (by decide) (inRd rfl) rfl ?_
  refine Ev.goto jX6_init_76 ?_
  refine Ev.iload_n (q := 1) ⟨dX6_init_55, rfl⟩ rfl rfl ?_
  refine Ev.iconst ⟨dX6_init_56, rfl⟩ (inRd rfl) ?_
  refine Ev.icmp_ge jX6_init_57 (fun hc => absurd hc (show ¬ (5 : Int) ≤ 1 by decide)) (fun _ => ?_)
  refine Ev.aload_n (q := 0) ⟨dX6_init_60, rfl⟩ rfl rfl ?_
  refine Ev.getRk (C2 := 11) (r := J) fX6_31 (zp_f (fun u => by
    rcases u with u | u | u
    · exact hP.no u
    · exact absurd u.2.2 (by decide)
    · exact absurd u.1 (by decide))) (by decide) (by decide) ⟨dX6_init_61, rfl⟩ ?_
  refine Ev.iload_n (q := 1) ⟨dX6_init_64, rfl⟩ rfl rfl ?_
  refine Ev.newB (mc1 := 19) (ms1 := 2917) (5 * J + 1) 40 0 cok3 kX6_29 g11 g10 hb10 (by first | omega | (simp only [tm_0, tm_23, tm_3, tm_6, tm_20, tm_4, tm_21, tm_22, tm_30, tm_11, tm_1 hJ, tm_24 hJ, tb_0 hJ, tb_1, tb_2, bq_5 (J := J) (c := 0) (by decide), bq_5 (J := J) (c := 1) (by decide), bq_5 (J := J) (c := 2) (by decide), bq_5 (J := J) (c := 3) (by decide), bq_5 (J := J) (c := 4) (by decide)]; omega) | simp only [tm_0, tm_23, tm_3, tm_6, tm_20, tm_4, tm_21, tm_22, tm_30, tm_11, tm_1 hJ, tm_24 hJ, tb_0 hJ, tb_1, tb_2, bq_5 (J := J) (c := 0) (by decide), bq_5 (J := J) (c := 1) (by decide), bq_5 (J := J) (c := 2) (by decide), bq_5 (J := J) (c := 3) (by decide), bq_5 (J := J) (c := 4) (by decide)]) rfl (fun k _ => SR_20 (by decide)) rfl rfl ⟨dX6_init_65, rfl⟩ (fun D11 hb11 => ?_)
  refine Ev.dup ⟨dX6_init_68, rfl⟩ rfl ?_
  refine Ev.callB (mc1 := 15) (ms1 := 2193) iX6_42 (c_X3_init Θ (5 * J + 1) (rkP.row2 hP (by decide) (by decide)) (hb11.mono (by first | omega | (simp only [tm_0, tm_23, tm_3, tm_6, tm_20, tm_4, tm_21, tm_22, tm_30, tm_11, tm_1 hJ, tm_24 hJ, tb_0 hJ, tb_1, tb_2, bq_5 (J := J) (c := 0) (by decide), bq_5 (J := J) (c := 1) (by decide), bq_5 (J := J) (c := 2) (by decide), bq_5 (J := J) (c := 3) (by decide), bq_5 (J := J) (c := 4) (by decide)]; omega) | simp only [tm_0, tm_23, tm_3, tm_6, tm_20, tm_4, tm_21, tm_22, tm_30, tm_11, tm_1 hJ, tm_24 hJ, tb_0 hJ, tb_1, tb_2, bq_5 (J := J) (c := 0) (by decide), bq_5 (J := J) (c := 1) (by decide), bq_5 (J := J) (c := 2) (by decide), bq_5 (J := J) (c := 3) (by decide), bq_5 (J := J) (c := 4) (by decide)]))) (by decide) ⟨by decide, by decide, by decide, by decide, Nat.le_of_ble_eq_true rfl⟩ ⟨dX6_init_69, rfl⟩ (fun D12 hb12 => ?_)
  refine Ev.aastoreB (s := 1) (Or.inl ⟨rfl, rfl⟩) (by decide) (show (1 : Int) < ((5 : Nat) : Int) by decide) rfl hP (by decide) rfl ⟨dX6_init_72, rfl⟩ ?_
  refine Ev.iinc (q := 1) (ls' := [(0, vr 6 (J + 1)), (1, vi (2 : Int))]) ⟨dX6_init_73, rfl⟩ rfl (by decide) (inRd rfl) rfl ?_
  refine Ev.goto jX6_init_76 ?_
  refine Ev.iload_n (q := 1) ⟨dX6_init_55, rfl⟩ rfl rfl ?_
  refine Ev.iconst ⟨dX6_init_56, rfl⟩ (inRd rfl) ?_
  refine Ev.icmp_ge jX6_init_57 (fun hc => absurd hc (show ¬ (5 : Int) ≤ 2 by decide)) (fun _ => ?_)
  refine Ev.aload_n (q := 0) ⟨dX6_init_60, rfl⟩ rfl rfl ?_
  refine Ev.getRk (C2 := 11) (r := J) fX6_31 (zp_f (fun u => by
    rcases u with u | u | u
    · exact hP.no u
    · exact absurd u.2.2 (by decide)
    · exact absurd u.1 (by decide))) (by decide) (by decide) ⟨dX6_init_61, rfl⟩ ?_
  refine Ev.iload_n (q := 1) ⟨dX6_init_64, rfl⟩ rfl rfl ?_
  refine Ev.newB (mc1 := 14) (ms1 := 2186) (5 * J + 2) 40 0 cok3 kX6_29 g11 g10 hb12 (by first | omega | (simp only [tm_0, tm_23, tm_3, tm_6, tm_20, tm_4, tm_21, tm_22, tm_30, tm_11, tm_1 hJ, tm_24 hJ, tb_0 hJ, tb_1, tb_2, bq_5 (J := J) (c := 0) (by decide), bq_5 (J := J) (c := 1) (by decide), bq_5 (J := J) (c := 2) (by decide), bq_5 (J := J) (c := 3) (by decide), bq_5 (J := J) (c := 4) (by decide)]; omega) | simp only [tm_0, tm_23, tm_3, tm_6, tm_20, tm_4, tm_21, tm_22, tm_30, tm_11, tm_1 hJ, tm_24 hJ, tb_0 hJ, tb_1, tb_2, bq_5 (J := J) (c := 0) (by decide), bq_5 (J := J) (c := 1) (by decide), bq_5 (J := J) (c := 2) (by decide), bq_5 (J := J) (c := 3) (by decide), bq_5 (J := J) (c := 4) (by decide)]) rfl (fun k _ => SR_20 (by decide)) rfl rfl ⟨dX6_init_65, rfl⟩ (fun D13 hb13 => ?_)
  refine Ev.dup ⟨dX6_init_68, rfl⟩ rfl ?_
  refine Ev.callB (mc1 := 10) (ms1 := 1462) iX6_42 (c_X3_init Θ (5 * J + 2) (rkP.row2 hP (by decide) (by decide)) (hb13.mono (by first | omega | (simp only [tm_0, tm_23, tm_3, tm_6, tm_20, tm_4, tm_21, tm_22, tm_30, tm_11, tm_1 hJ, tm_24 hJ, tb_0 hJ, tb_1, tb_2, bq_5 (J := J) (c := 0) (by decide), bq_5 (J := J) (c := 1) (by decide), bq_5 (J := J) (c := 2) (by decide), bq_5 (J := J) (c := 3) (by decide), bq_5 (J := J) (c := 4) (by decide)]; omega) | simp only [tm_0, tm_23, tm_3, tm_6, tm_20, tm_4, tm_21, tm_22, tm_30, tm_11, tm_1 hJ, tm_24 hJ, tb_0 hJ, tb_1, tb_2, bq_5 (J := J) (c := 0) (by decide), bq_5 (J := J) (c := 1) (by decide), bq_5 (J := J) (c := 2) (by decide), bq_5 (J := J) (c := 3) (by decide), bq_5 (J := J) (c := 4) (by decide)]))) (by decide) ⟨by decide, by decide, by decide, by decide, Nat.le_of_ble_eq_true rfl⟩ ⟨dX6_init_69, rfl⟩ (fun D14 hb14 => ?_)
  refine Ev.aastoreB (s := 2) (Or.inl ⟨rfl, rfl⟩) (by decide) (show (2 : Int) < ((5 : Nat) : Int) by decide) rfl hP (by decide) rfl ⟨dX6_init_72, rfl⟩ ?_
  refine Ev.iinc (q := 1) (ls' := [(0, vr 6 (J + 1)), (1, vi (3 : Int))]) ⟨dX6_init_73, rfl⟩ rfl (by decide) (inRd rfl) rfl ?_
  refine Ev.goto jX6_init_76 ?_
  refine Ev.iload_n (q := 1) ⟨dX6_init_55, rfl⟩ rfl rfl ?_
  refine Ev.iconst ⟨dX6_init_56, rfl⟩ (inRd rfl) ?_
  refine Ev.icmp_ge jX6_init_57 (fun hc => absurd hc (show ¬ (5 : Int) ≤ 3 by decide)) (fun _ => ?_)
  refine Ev.aload_n (q := 0) ⟨dX6_init_60, rfl⟩ rfl rfl ?_
  refine Ev.getRk (C2 := 11) (r := J) fX6_31 (zp_f (fun u => by
    rcases u with u | u | u
    · exact hP.no u
    · exact absurd u.2.2 (by decide)
    · exact absurd u.1 (by decide))) (by decide) (by decide) ⟨dX6_init_61, rfl⟩ ?_
  refine Ev.iload_n (q := 1) ⟨dX6_init_64, rfl⟩ rfl rfl ?_
  refine Ev.newB (mc1 := 9) (ms1 := 1455) (5 * J + 3) 40 0 cok3 kX6_29 g11 g10 hb14 (by first | omega | (simp only [tm_0, tm_23, tm_3, tm_6, tm_20, tm_4, tm_21, tm_22, tm_30, tm_11, tm_1 hJ, tm_24 hJ, tb_0 hJ, tb_1, tb_2, bq_5 (J := J) (c := 0) (by decide), bq_5 (J := J) (c := 1) (by decide), bq_5 (J := J) (c := 2) (by decide), bq_5 (J := J) (c := 3) (by decide), bq_5 (J := J) (c := 4) (by decide)]; omega) | simp only [tm_0, tm_23, tm_3, tm_6, tm_20, tm_4, tm_21, tm_22, tm_30, tm_11, tm_1 hJ, tm_24 hJ, tb_0 hJ, tb_1, tb_2, bq_5 (J := J) (c := 0) (by decide), bq_5 (J := J) (c := 1) (by decide), bq_5 (J := J) (c := 2) (by decide), bq_5 (J := J) (c := 3) (by decide), bq_5 (J := J) (c := 4) (by decide)]) rfl (fun k _ => SR_20 (by decide)) rfl rfl ⟨dX6_init_65, rfl⟩ (fun D15 hb15 => ?_)
  refine Ev.dup ⟨dX6_init_68, rfl⟩ rfl ?_
  refine Ev.callB (mc1 := 5) (ms1 := 731) iX6_42 (c_X3_init Θ (5 * J + 3) (rkP.row2 hP (by decide) (by decide)) (hb15.mono (by first | omega | (simp only [tm_0, tm_23, tm_3, tm_6, tm_20, tm_4, tm_21, tm_22, tm_30, tm_11, tm_1 hJ, tm_24 hJ, tb_0 hJ, tb_1, tb_2, bq_5 (J := J) (c := 0) (by decide), bq_5 (J := J) (c := 1) (by decide), bq_5 (J := J) (c := 2) (by decide), bq_5 (J := J) (c := 3) (by decide), bq_5 (J := J) (c := 4) (by decide)]; omega) | simp only [tm_0, tm_23, tm_3, tm_6, tm_20, tm_4, tm_21, tm_22, tm_30, tm_11, tm_1 hJ, tm_24 hJ, tb_0 hJ, tb_1, tb_2, bq_5 (J := J) (c := 0) (by decide), bq_5 (J := J) (c := 1) (by decide), bq_5 (J := J) (c := 2) (by decide), bq_5 (J := J) (c := 3) (by decide), bq_5 (J := J) (c := 4) (by decide)]))) (by decide) ⟨by decide, by decide, by decide, by decide, Nat.le_of_ble_eq_true rfl⟩ ⟨dX6_init_69, rfl⟩ (fun D16 hb16 => ?_)
  refine Ev.aastoreB (s := 3) (Or.inl ⟨rfl, rfl⟩) (by decide) (show (3 : Int) < ((5 : Nat) : Int) by decide) rfl hP (by decide) rfl ⟨dX6_init_72, rfl⟩ ?_
  refine Ev.iinc (q := 1) (ls' := [(0, vr 6 (J + 1)), (1, vi (4 : Int))]) ⟨dX6_init_73, rfl⟩ rfl (by decide) (inRd rfl) rfl ?_
  refine Ev.goto jX6_init_76 ?_
  refine Ev.iload_n (q := 1) ⟨dX6_init_55, rfl⟩ rfl rfl ?_
  refine Ev.iconst ⟨dX6_init_56, rfl⟩ (inRd rfl) ?_
  refine Ev.icmp_ge jX6_init_57 (fun hc => absurd hc (show ¬ (5 : Int) ≤ 4 by decide)) (fun _ => ?_)
  refine Ev.aload_n (q := 0) ⟨dX6_init_60, rfl⟩ rfl rfl ?_
  refine Ev.getRk (C2 := 11) (r := J) fX6_31 (zp_f (fun u => by
    rcases u with u | u | u
    · exact hP.no u
    · exact absurd u.2.2 (by decide)
    · exact absurd u.1 (by decide))) (by decide) (by decide) ⟨dX6_init_61, rfl⟩ ?_
  refine Ev.iload_n (q := 1) ⟨dX6_init_64, rfl⟩ rfl rfl ?_
  refine Ev.newB (mc1 := 4) (ms1 := 724) (5 * J + 4) 40 0 cok3 kX6_29 g11 g10 hb16 (by first | omega | (simp only [tm_0, tm_23, tm_3, tm_6, tm_20, tm_4, tm_21, tm_22, tm_30, tm_11, tm_1 hJ, tm_24 hJ, tb_0 hJ, tb_1, tb_2, bq_5 (J := J) (c := 0) (by decide), bq_5 (J := J) (c := 1) (by decide), bq_5 (J := J) (c := 2) (by decide), bq_5 (J := J) (c := 3) (by decide), bq_5 (J := J) (c := 4) (by decide)]; omega) | simp only [tm_0, tm_23, tm_3, tm_6, tm_20, tm_4, tm_21, tm_22, tm_30, tm_11, tm_1 hJ, tm_24 hJ, tb_0 hJ, tb_1, tb_2, bq_5 (J := J) (c := 0) (by decide), bq_5 (J := J) (c := 1) (by decide), bq_5 (J := J) (c := 2) (by decide), bq_5 (J := J) (c := 3) (by decide), bq_5 (J := J) (c := 4) (by decide)]) rfl (fun k _ => SR_20 (by decide)) rfl rfl ⟨dX6_init_65, rfl⟩ (fun D17 hb17 => ?_)
  refine Ev.dup ⟨dX6_init_68, rfl⟩ rfl ?_
  refine Ev.callB (mc1 := 0) (ms1 := 0) iX6_42 (c_X3_init Θ (5 * J + 4) (rkP.row2 hP (by decide) (by decide)) (hb17.mono (by first | omega | (simp only [tm_0, tm_23, tm_3, tm_6, tm_20, tm_4, tm_21, tm_22, tm_30, tm_11, tm_1 hJ, tm_24 hJ, tb_0 hJ, tb_1, tb_2, bq_5 (J := J) (c := 0) (by decide), bq_5 (J := J) (c := 1) (by decide), bq_5 (J := J) (c := 2) (by decide), bq_5 (J := J) (c := 3) (by decide), bq_5 (J := J) (c := 4) (by decide)]; omega) | simp only [tm_0, tm_23, tm_3, tm_6, tm_20, tm_4, tm_21, tm_22, tm_30, tm_11, tm_1 hJ, tm_24 hJ, tb_0 hJ, tb_1, tb_2, bq_5 (J := J) (c := 0) (by decide), bq_5 (J := J) (c := 1) (by decide), bq_5 (J := J) (c := 2) (by decide), bq_5 (J := J) (c := 3) (by decide), bq_5 (J := J) (c := 4) (by decide)]))) (by decide) ⟨by decide, by decide, by decide, by decide, Nat.le_of_ble_eq_true rfl⟩ ⟨dX6_init_69, rfl⟩ (fun D18 hb18 => ?_)
  refine Ev.aastoreB (s := 4) (Or.inl ⟨rfl, rfl⟩) (by decide) (show (4 : Int) < ((5 : Nat) : Int) by decide) rfl hP (by decide) rfl ⟨dX6_init_72, rfl⟩ ?_
  refine Ev.iinc (q := 1) (ls' := [(0, vr 6 (J + 1)), (1, vi (5 : Int))]) ⟨dX6_init_73, rfl⟩ rfl (by decide) (inRd rfl) rfl ?_
  refine Ev.goto jX6_init_76 ?_
  refine Ev.iload_n (q := 1) ⟨dX6_init_55, rfl⟩ rfl rfl ?_
  refine Ev.iconst ⟨dX6_init_56, rfl⟩ (inRd rfl) ?_
  refine Ev.icmp_ge jX6_init_57 (fun _ => ?_) (fun hc => absurd (show (5 : Int) ≤ 5 by decide) hc)
  exact Ev.ret ⟨dX6_init_79, rfl⟩ rfl ⟨rfl, _, hb18.mono (by first | omega | (simp only [tm_0, tm_23, tm_3, tm_6, tm_20, tm_4, tm_21, tm_22, tm_30, tm_11, tm_1 hJ, tm_24 hJ, tb_0 hJ, tb_1, tb_2, bq_5 (J := J) (c := 0) (by decide), bq_5 (J := J) (c := 1) (by decide), bq_5 (J := J) (c := 2) (by decide), bq_5 (J := J) (c := 3) (by decide), bq_5 (J := J) (c := 4) (by decide)]; omega) | simp only [tm_0, tm_23, tm_3, tm_6, tm_20, tm_4, tm_21, tm_22, tm_30, tm_11, tm_1 hJ, tm_24 hJ, tb_0 hJ, tb_1, tb_2, bq_5 (J := J) (c := 0) (by decide), bq_5 (J := J) (c := 1) (by decide), bq_5 (J := J) (c := 2) (by decide), bq_5 (J := J) (c := 3) (by decide), bq_5 (J := J) (c := 4) (by decide)]), hg_end (fun k hk => he6 hk) (fun k hk => hz11 hk)⟩
set_option maxHeartbeats 4000000 in
set_option maxRecDepth 20000 in
theorem c_X2_init (Θ : GC)  {P : Nat → Nat → Nat → Prop} {D : Nat → Nat → Prop} {x : Mm} (hP : rkP P 2) (hb : BD D (4001)) : Cal Θ mX2_init 4 81 289 35712 [vr 2 (0 + 1)] (hg D x (row2 P 2 (0) 0 12 8)) (RetB x P (19500)) := by
  refine Cal.of (by decide +kernel) rfl rfl (Nat.le_of_ble_eq_true rfl) ?_
  show Ev Θ mX2_init 4 81 289 35712 0 [(0, vr 2 (0 + 1))] [] (hg D x (row2 P 2 (0) 0 12 8)) (RetB x P (19500))
  refine Ev.aload_n (q := 0) ⟨dX2_init_0, rfl⟩ rfl rfl ?_
  refine Ev.objInit oX2_3 g2 g3 (by decide) (by decide) (by decide) ⟨dX2_init_1, rfl⟩ ?_
  refine Ev.aload_n (q := 0) ⟨dX2_init_4, rfl⟩ rfl rfl ?_
  refine Ev.bipush ⟨dX2_init_5, rfl⟩ (inRd rfl) (by decide) ?_
  refine Ev.newQB (mc1 := 288) (ms1 := 35704) hb (by decide) (Or.inr ⟨rfl, rfl⟩) kX2_9 rfl (by decide) (by decide) rfl rfl ⟨dX2_init_7, rfl⟩ (fun D1 hb1 => ?_)
  refine Ev.putB (a := 0) (C2 := 12) fX2_11 (by decide) (by decide) rfl rfl hP (by decide) (by decide) (fun k h1 h2 => hs2 h1 h2 (by decide)) rfl ⟨dX2_init_10, rfl⟩ ?_
  refine Ev.iconst ⟨dX2_init_13, rfl⟩ (inRd rfl) ?_
  refine Ev.istore_n (i := 1) (ls' := [(0, vr 2 (0 + 1)), (1, vi (0 : Int))]) ⟨dX2_init_14, rfl⟩ rfl (by decide) rfl ?_
  refine Ev.iload_n (q := 1) ⟨dX2_init_15, rfl⟩ rfl rfl ?_
  refine Ev.bipush ⟨dX2_init_16, rfl⟩ (inRd rfl) (by decide) ?_
  refine Ev.icmp_ge jX2_init_18 (fun hc => absurd hc (show ¬ (8 : Int) ≤ 0 by decide)) (fun _ => ?_)
  refine Ev.aload_n (q := 0) ⟨dX2_init_21, rfl⟩ rfl rfl ?_
  refine Ev.getRk (C2 := 12) (r := 0) fX2_11 (zp_f (fun u => by
    rcases u with u | u | u
    · exact hP.no u
    · exact absurd u.2.2 (by decide)
    · exact absurd u.1 (by decide))) (by decide) (by decide) ⟨dX2_init_22, rfl⟩ ?_
  refine Ev.iload_n (q := 1) ⟨dX2_init_25, rfl⟩ rfl rfl ?_
  refine Ev.newB (mc1 := 287) (ms1 := 35696) (2) 11 5 cok6 kX2_9 g17 g16 hb1 (by decide) rfl (fun k hk => hz11 (j := 2) hk) rfl rfl ⟨dX2_init_26, rfl⟩ (fun D2 hb2 => ?_)
  refine Ev.dup ⟨dX2_init_29, rfl⟩ rfl ?_
  refine Ev.callB (mc1 := 252) (ms1 := 31241) iX2_17 (c_X6_init Θ (2) (by decide) (rkP.row2 hP (by decide) (by decide)) (hb2.mono (by decide))) (by decide) ⟨by decide, by decide, by decide, by decide, Nat.le_of_ble_eq_true rfl⟩ ⟨dX2_init_30, rfl⟩ (fun D3 hb3 => ?_)
  refine Ev.aastoreB (s := 0) (Or.inr ⟨rfl, rfl⟩) (by decide) (show (0 : Int) < ((8 : Nat) : Int) by decide) rfl hP (by decide) rfl ⟨dX2_init_33, rfl⟩ ?_
  refine Ev.iinc (q := 1) (ls' := [(0, vr 2 (0 + 1)), (1, vi (1 : Int))]) ⟨dX2_init_34, rfl⟩ rfl (by decide) (inRd rfl) rfl ?_
  refine Ev.goto jX2_init_37 ?_
  refine Ev.iload_n (q := 1) ⟨dX2_init_15, rfl⟩ rfl rfl ?_
  refine Ev.bipush ⟨dX2_init_16, rfl⟩ (inRd rfl) (by decide) ?_
  refine Ev.icmp_ge jX2_init_18 (fun hc => absurd hc (show ¬ (8 : Int) ≤ 1 by decide)) (fun _ => ?_)
  refine Ev.aload_n (q := 0) ⟨dX2_init_21, rfl⟩ rfl rfl ?_
  refine Ev.getRk (C2 := 12) (r := 0) fX2_11 (zp_f (fun u => by
    rcases u with u | u | u
    · exact hP.no u
    · exact absurd u.2.2 (by decide)
    · exact absurd u.1 (by decide))) (by decide) (by decide) ⟨dX2_init_22, rfl⟩ ?_
  refine Ev.iload_n (q := 1) ⟨dX2_init_25, rfl⟩ rfl rfl ?_
  refine Ev.newB (mc1 := 251) (ms1 := 31233) (3) 11 5 cok6 kX2_9 g17 g16 hb3 (by decide) rfl (fun k hk => hz11 (j := 3) hk) rfl rfl ⟨dX2_init_26, rfl⟩ (fun D4 hb4 => ?_)
  refine Ev.dup ⟨dX2_init_29, rfl⟩ rfl ?_
  refine Ev.callB (mc1 := 216) (ms1 := 26778) iX2_17 (c_X6_init Θ (3) (by decide) (rkP.row2 hP (by decide) (by decide)) (hb4.mono (by decide))) (by decide) ⟨by decide, by decide, by decide, by decide, Nat.le_of_ble_eq_true rfl⟩ ⟨dX2_init_30, rfl⟩ (fun D5 hb5 => ?_)
  refine Ev.aastoreB (s := 1) (Or.inr ⟨rfl, rfl⟩) (by decide) (show (1 : Int) < ((8 : Nat) : Int) by decide) rfl hP (by decide) rfl ⟨dX2_init_33, rfl⟩ ?_
  refine Ev.iinc (q := 1) (ls' := [(0, vr 2 (0 + 1)), (1, vi (2 : Int))]) ⟨dX2_init_34, rfl⟩ rfl (by decide) (inRd rfl) rfl ?_
  refine Ev.goto jX2_init_37 ?_
  refine Ev.iload_n (q := 1) ⟨dX2_init_15, rfl⟩ rfl rfl ?_
  refine Ev.bipush ⟨dX2_init_16, rfl⟩ (inRd rfl) (by decide) ?_
  refine Ev.icmp_ge jX2_init_18 (fun hc => absurd hc (show ¬ (8 : Int) ≤ 2 by decide)) (fun _ => ?_)
  refine Ev.aload_n (q := 0) ⟨dX2_init_21, rfl⟩ rfl rfl ?_
  refine Ev.getRk (C2 := 12) (r := 0) fX2_11 (zp_f (fun u => by
    rcases u with u | u | u
    · exact hP.no u
    · exact absurd u.2.2 (by decide)
    · exact absurd u.1 (by decide))) (by decide) (by decide) ⟨dX2_init_22, rfl⟩ ?_
  refine Ev.iload_n (q := 1) ⟨dX2_init_25, rfl⟩ rfl rfl ?_
  refine Ev.newB (mc1 := 215) (ms1 := 26770) (4) 11 5 cok6 kX2_9 g17 g16 hb5 (by decide) rfl (fun k hk => hz11 (j := 4) hk) rfl rfl ⟨dX2_init_26, rfl⟩ (fun D6 hb6 => ?_)
  refine Ev.dup ⟨dX2_init_29, rfl⟩ rfl ?_
  refine Ev.callB (mc1 := 180) (ms1 := 22315) iX2_17 (c_X6_init Θ (4) (by decide) (rkP.row2 hP (by decide) (by decide)) (hb6.mono (by decide))) (by decide) ⟨by decide, by decide, by decide, by decide, Nat.le_of_ble_eq_true rfl⟩ ⟨dX2_init_30, rfl⟩ (fun D7 hb7 => ?_)
  refine Ev.aastoreB (s := 2) (Or.inr ⟨rfl, rfl⟩) (by decide) (show (2 : Int) < ((8 : Nat) : Int) by decide) rfl hP (by decide) rfl ⟨dX2_init_33, rfl⟩ ?_
  refine Ev.iinc (q := 1) (ls' := [(0, vr 2 (0 + 1)), (1, vi (3 : Int))]) ⟨dX2_init_34, rfl⟩ rfl (by decide) (inRd rfl) rfl ?_
  refine Ev.goto jX2_init_37 ?_
  refine Ev.iload_n (q := 1) ⟨dX2_init_15, rfl⟩ rfl rfl ?_
  refine Ev.bipush ⟨dX2_init_16, rfl⟩ (inRd rfl) (by decide) ?_
  refine Ev.icmp_ge jX2_init_18 (fun hc => absurd hc (show ¬ (8 : Int) ≤ 3 by decide)) (fun _ => ?_)
  refine Ev.aload_n (q := 0) ⟨dX2_init_21, rfl⟩ rfl rfl ?_
  refine Ev.getRk (C2 := 12) (r := 0) fX2_11 (zp_f (fun u => by
    rcases u with u | u | u
    · exact hP.no u
    · exact absurd u.2.2 (by decide)
    · exact absurd u.1 (by decide))) (by decide) (by decide) ⟨dX2_init_22, rfl⟩ ?_
  refine Ev.iload_n (q := 1) ⟨dX2_init_25, rfl⟩ rfl rfl ?_
  refine Ev.newB (mc1 := 179) (ms1 := 22307) (5) 11 5 cok6 kX2_9 g17 g16 hb7 (by decide) rfl (fun k hk => hz11 (j := 5) hk) rfl rfl ⟨dX2_init_26, rfl⟩ (fun D8 hb8 => ?_)
  refine Ev.dup ⟨dX2_init_29, rfl⟩ rfl ?_
  refine Ev.callB (mc1 := 144) (ms1 := 17852) iX2_17 (c_X6_init Θ (5) (by decide) (rkP.row2 hP (by decide) (by decide)) (hb8.mono (by decide))) (by decide) ⟨by decide, by decide, by decide, by decide, Nat.le_of_ble_eq_true rfl⟩ ⟨dX2_init_30, rfl⟩ (fun D9 hb9 => ?_)
  refine Ev.aastoreB (s := 3) (Or.inr ⟨rfl, rfl⟩) (by decide) (show (3 : Int) < ((8 : Nat) : Int) by decide) rfl hP (by decide) rfl ⟨dX2_init_33, rfl⟩ ?_
  refine Ev.iinc (q := 1) (ls' := [(0, vr 2 (0 + 1)), (1, vi (4 : Int))]) ⟨dX2_init_34, rfl⟩ rfl (by decide) (inRd rfl) rfl ?_
  refine Ev.goto jX2_init_37 ?_
  refine Ev.iload_n (q := 1) ⟨dX2_init_15, rfl⟩ rfl rfl ?_
  refine Ev.bipush ⟨dX2_init_16, rfl⟩ (inRd rfl) (by decide) ?_
  refine Ev.icmp_ge jX2_init_18 (fun hc => absurd hc (show ¬ (8 : Int) ≤ 4 by decide)) (fun _ => ?_)
  refine Ev.aload_n (q := 0) ⟨dX2_init_21, rfl⟩ rfl rfl ?_
  refine Ev.getRk (C2 := 12) (r := 0) fX2_11 (zp_f (fun u => by
    rcases u with u | u | u
    · exact hP.no u
    · exact absurd u.2.2 (by decide)
    · exact absurd u.1 (by decide))) (by decide) (by decide) ⟨dX2_init_22, rfl⟩ ?_
  refine Ev.iload_n (q := 1) ⟨dX2_init_25, rfl⟩ rfl rfl ?_
  refine Ev.newB (mc1 := 143) (ms1 := 17844) (6) 11 5 cok6 kX2_9 g17 g16 hb9 (by decide) rfl (fun k hk => hz11 (j := 6) hk) rfl rfl ⟨dX2_init_26, rfl⟩ (fun D10 hb10 => ?_)
  refine Ev.dup ⟨dX2_init_29, rfl⟩ rfl ?_
  refine Ev.callB (mc1 := 108) (ms1 := 13389) iX2_17 (c_X6_init Θ (6) (by decide) (rkP.row2 hP (by decide) (by decide)) (hb10.mono (by decide))) (by decide) ⟨by decide, by decide, by decide, by decide, Nat.le_of_ble_eq_true rfl⟩ ⟨dX2_init_30, rfl⟩ (fun D11 hb11 => ?_)
  refine Ev.aastoreB (s := 4) (Or.inr ⟨rfl, rfl⟩) (by decide) (show (4 : Int) < ((8 : Nat) : Int) by decide) rfl hP (by decide) rfl ⟨dX2_init_33, rfl⟩ ?_
  refine Ev.iinc (q := 1) (ls' := [(0, vr 2 (0 + 1)), (1, vi (5 : Int))]) ⟨dX2_init_34, rfl⟩ rfl (by decide) (inRd rfl) rfl ?_
  refine Ev.goto jX2_init_37 ?_
  refine Ev.iload_n (q := 1) ⟨dX2_init_15, rfl⟩ rfl rfl ?_
  refine Ev.bipush ⟨dX2_init_16, rfl⟩ (inRd rfl) (by decide) ?_
  refine Ev.icmp_ge jX2_init_18 (fun hc => absurd hc (show ¬ (8 : Int) ≤ 5 by decide)) (fun _ => ?_)
  refine Ev.aload_n (q := 0) ⟨dX2_init_21, rfl⟩ rfl rfl ?_
  refine Ev.getRk (C2 := 12) (r := 0) fX2_11 (zp_f (fun u => by
    rcases u with u | u | u
    · exact hP.no u
    · exact absurd u.2.2 (by decide)
    · exact absurd u.1 (by decide))) (by decide) (by decide) ⟨dX2_init_22, rfl⟩ ?_
  refine Ev.iload_n (q := 1) ⟨dX2_init_25, rfl⟩ rfl rfl ?_
  refine Ev.newB (mc1 := 107) (ms1 := 13381) (7) 11 5 cok6 kX2_9 g17 g16 hb11 (by decide) rfl (fun k hk => hz11 (j := 7) hk) rfl rfl ⟨dX2_init_26, rfl⟩ (fun D12 hb12 => ?_)
  refine Ev.dup ⟨dX2_init_29, rfl⟩ rfl ?_
  refine Ev.callB (mc1 := 72) (ms1 := 8926) iX2_17 (c_X6_init Θ (7) (by decide) (rkP.row2 hP (by decide) (by decide)) (hb12.mono (by decide))) (by decide) ⟨by decide, by decide, by decide, by decide, Nat.le_of_ble_eq_true rfl⟩ ⟨dX2_init_30, rfl⟩ (fun D13 hb13 => ?_)
  refine Ev.aastoreB (s := 5) (Or.inr ⟨rfl, rfl⟩) (by decide) (show (5 : Int) < ((8 : Nat) : Int) by decide) rfl hP (by decide) rfl ⟨dX2_init_33, rfl⟩ ?_
  refine Ev.iinc (q := 1) (ls' := [(0, vr 2 (0 + 1)), (1, vi (6 : Int))]) ⟨dX2_init_34, rfl⟩ rfl (by decide) (inRd rfl) rfl ?_
  refine Ev.goto jX2_init_37 ?_
  refine Ev.iload_n (q := 1) ⟨dX2_init_15, rfl⟩ rfl rfl ?_
  refine Ev.bipush ⟨dX2_init_16, rfl⟩ (inRd rfl) (by decide) ?_
  refine Ev.icmp_ge jX2_init_18 (fun hc => absurd hc (show ¬ (8 : Int) ≤ 6 by decide)) (fun _ => ?_)
  refine Ev.aload_n (q := 0) ⟨dX2_init_21, rfl⟩ rfl rfl ?_
  refine Ev.getRk (C2 := 12) (r := 0) fX2_11 (zp_f (fun u => by
    rcases u with u | u | u
    · exact hP.no u
    · exact absurd u.2.2 (by decide)
    · exact absurd u.1 (by decide))) (by decide) (by decide) ⟨dX2_init_22, rfl⟩ ?_
  refine Ev.iload_n (q := 1) ⟨dX2_init_25, rfl⟩ rfl rfl ?_
  refine Ev.newB (mc1 := 71) (ms1 := 8918) (8) 11 5 cok6 kX2_9 g17 g16 hb13 (by decide) rfl (fun k hk => hz11 (j := 8) hk) rfl rfl ⟨dX2_init_26, rfl⟩ (fun D14 hb14 => ?_)
  refine Ev.dup ⟨dX2_init_29, rfl⟩ rfl ?_
  refine Ev.callB (mc1 := 36) (ms1 := 4463) iX2_17 (c_X6_init Θ (8) (by decide) (rkP.row2 hP (by decide) (by decide)) (hb14.mono (by decide))) (by decide) ⟨by decide, by decide, by decide, by decide, Nat.le_of_ble_eq_true rfl⟩ ⟨dX2_init_30, rfl⟩ (fun D15 hb15 => ?_)
  refine Ev.aastoreB (s := 6) (Or.inr ⟨rfl, rfl⟩) (by decide) (show (6 : Int) < ((8 : Nat) : Int) by decide) rfl hP (by decide) rfl ⟨dX2_init_33, rfl⟩ ?_
  refine Ev.iinc (q := 1) (ls' := [(0, vr 2 (0 + 1)), (1, vi (7 : Int))]) ⟨dX2_init_34, rfl⟩ rfl (by decide) (inRd rfl) rfl ?_
  refine Ev.goto jX2_init_37 ?_
  refine Ev.iload_n (q := 1) ⟨dX2_init_15, rfl⟩ rfl rfl ?_
  refine Ev.bipush ⟨dX2_init_16, rfl⟩ (inRd rfl) (by decide) ?_
  refine Ev.icmp_ge jX2_init_18 (fun hc => absurd hc (show ¬ (8 : Int) ≤ 7 by decide)) (fun _ => ?_)
  refine Ev.aload_n (q := 0) ⟨dX2_init_21, rfl⟩ rfl rfl ?_
  refine Ev.getRk (C2 := 12) (r := 0) fX2_11 (zp_f (fun u => by
    rcases u with u | u | u
    · exact hP.no u
    · exact absurd u.2.2 (by decide)
    · exact absurd u.1 (by decide))) (by decide) (by decide) ⟨dX2_init_22, rfl⟩ ?_
  refine Ev.iload_n (q := 1) ⟨dX2_init_25, rfl⟩ rfl rfl ?_
  refine Ev.newB (mc1 := 35) (ms1 := 4455) (9) 11 5 cok6 kX2_9 g17 g16 hb15 (by decide) rfl (fun k hk => hz11 (j := 9) hk) rfl rfl ⟨dX2_init_26, rfl⟩ (fun D16 hb16 => ?_)
  refine Ev.dup ⟨dX2_init_29, rfl⟩ rfl ?_
  refine Ev.callB (mc1 := 0) (ms1 := 0) iX2_17 (c_X6_init Θ (9) (by decide) (rkP.row2 hP (by decide) (by decide)) (hb16.mono (by decide))) (by decide) ⟨by decide, by decide, by decide, by decide, Nat.le_of_ble_eq_true rfl⟩ ⟨dX2_init_30, rfl⟩ (fun D17 hb17 => ?_)
  refine Ev.aastoreB (s := 7) (Or.inr ⟨rfl, rfl⟩) (by decide) (show (7 : Int) < ((8 : Nat) : Int) by decide) rfl hP (by decide) rfl ⟨dX2_init_33, rfl⟩ ?_
  refine Ev.iinc (q := 1) (ls' := [(0, vr 2 (0 + 1)), (1, vi (8 : Int))]) ⟨dX2_init_34, rfl⟩ rfl (by decide) (inRd rfl) rfl ?_
  refine Ev.goto jX2_init_37 ?_
  refine Ev.iload_n (q := 1) ⟨dX2_init_15, rfl⟩ rfl rfl ?_
  refine Ev.bipush ⟨dX2_init_16, rfl⟩ (inRd rfl) (by decide) ?_
  refine Ev.icmp_ge jX2_init_18 (fun _ => ?_) (fun hc => absurd (show (8 : Int) ≤ 8 by decide) hc)
  exact Ev.ret ⟨dX2_init_40, rfl⟩ rfl ⟨rfl, _, hb17.mono (by decide), hg_end (fun k hk => he2 hk) (fun k hk => hz12 hk)⟩
set_option maxHeartbeats 4000000 in
set_option maxRecDepth 20000 in
theorem c_X5_init (Θ : GC)  {P : Nat → Nat → Nat → Prop} {D : Nat → Nat → Prop} {x : Mm} (hP : rkP P 5) (hb : BD D (20001)) : Cal Θ mX5_init 4 81 37 5063 [vr 5 (0 + 1)] (hg D x (row2 P 5 (0) 0 40 0)) (RetB x P (22001)) := by
  refine Cal.of (by decide +kernel) rfl rfl (Nat.le_of_ble_eq_true rfl) ?_
  show Ev Θ mX5_init 4 81 37 5063 0 [(0, vr 5 (0 + 1))] [] (hg D x (row2 P 5 (0) 0 40 0)) (RetB x P (22001))
  refine Ev.aload_n (q := 0) ⟨dX5_init_0, rfl⟩ rfl rfl ?_
  refine Ev.objInit oX5_3 g2 g3 (by decide) (by decide) (by decide) ⟨dX5_init_1, rfl⟩ ?_
  refine Ev.aload_n (q := 0) ⟨dX5_init_4, rfl⟩ rfl rfl ?_
  refine Ev.newB (mc1 := 36) (ms1 := 5055) (10) 11 5 cok6 kX5_9 g17 g16 hb (by decide) rfl (fun k hk => hz11 (j := 10) hk) rfl rfl ⟨dX5_init_5, rfl⟩ (fun D1 hb1 => ?_)
  refine Ev.dup ⟨dX5_init_8, rfl⟩ rfl ?_
  refine Ev.callB (mc1 := 1) (ms1 := 600) iX5_11 (c_X6_init Θ (10) (by decide) (rkP.row2 hP (by decide) (by decide)) (hb1.mono (by decide))) (by decide) ⟨by decide, by decide, by decide, by decide, Nat.le_of_ble_eq_true rfl⟩ ⟨dX5_init_9, rfl⟩ (fun D2 hb2 => ?_)
  refine Ev.putB (a := 0) (C2 := 6) fX5_12 (by decide) (by decide) rfl rfl hP (by decide) (by decide) (fun k h1 h2 => hs5 h1 h2 (by decide)) rfl ⟨dX5_init_12, rfl⟩ ?_
  refine Ev.aload_n (q := 0) ⟨dX5_init_15, rfl⟩ rfl rfl ?_
  refine Ev.sipush ⟨dX5_init_16, rfl⟩ (inRd rfl) (by decide) ?_
  refine Ev.newIB (mc1 := 0) (ms1 := 0) 25 (0) (by decide) hb2 (by decide) rfl (by decide) (by decide) rfl rfl ⟨dX5_init_19, rfl⟩ (fun D3 hb3 => ?_)
  refine Ev.putB (a := 2) (C2 := 25) fX5_18 (by decide) (by decide) rfl rfl hP (by decide) (by decide) (fun k h1 h2 => absurd h1 (by omega)) rfl ⟨dX5_init_21, rfl⟩ ?_
  exact Ev.ret ⟨dX5_init_24, rfl⟩ rfl ⟨rfl, _, hb3.mono (by decide), hg_end (fun k hk => he5 hk) (fun k _ => SR_20 (by decide))⟩
set_option maxHeartbeats 4000000 in
set_option maxRecDepth 20000 in
theorem c_X7_init (Θ : GC) (z : Nat) (x y : Mm) (hy : F_X6_reset z 0 x = some y) {D : Nat → Nat → Prop} (hb : BD D (1)) : Cal Θ mX7_init 5 102 406 50677 [vr 7 (0 + 1)] (hg D x (row2 noP 7 (0) 0 40 0)) (RetC y 22007) := by
  refine Cal.of (by decide +kernel) rfl rfl (Nat.le_of_ble_eq_true rfl) ?_
  show Ev Θ mX7_init 5 102 406 50677 0 [(0, vr 7 (0 + 1))] [] (hg D x (row2 noP 7 (0) 0 40 0)) (RetC y 22007)
  refine Ev.aload_n (q := 0) ⟨dX7_init_0, rfl⟩ rfl rfl ?_
  refine Ev.objInit oX7_1 g2 g3 (by decide) (by decide) (by decide) ⟨dX7_init_1, rfl⟩ ?_
  refine Ev.aload_n (q := 0) ⟨dX7_init_4, rfl⟩ rfl rfl ?_
  refine Ev.newB (mc1 := 405) (ms1 := 50669) (0) 11 5 cok6 kX7_7 g17 g16 hb (by decide) rfl (fun k hk => hz11 (j := 0) hk) rfl rfl ⟨dX7_init_5, rfl⟩ (fun D1 hb1 => ?_)
  refine Ev.dup ⟨dX7_init_8, rfl⟩ rfl ?_
  refine Ev.callB (mc1 := 370) (ms1 := 46214) iX7_9 (c_X6_init Θ (0) (by decide) (rkP.row2 rkP.noP (by decide) (by decide)) (hb1.mono (by decide))) (by decide) ⟨by decide, by decide, by decide, by decide, Nat.le_of_ble_eq_true rfl⟩ ⟨dX7_init_9, rfl⟩ (fun D2 hb2 => ?_)
  refine Ev.putB (a := 0) (C2 := 6) fX7_10 (by decide) (by decide) rfl rfl rkP.noP (by decide) (by decide) (fun k h1 h2 => absurd h1 (by omega)) rfl ⟨dX7_init_12, rfl⟩ ?_
  refine Ev.aload_n (q := 0) ⟨dX7_init_15, rfl⟩ rfl rfl ?_
  refine Ev.newB (mc1 := 369) (ms1 := 46206) (1) 11 5 cok6 kX7_7 g17 g16 hb2 (by decide) rfl (fun k hk => hz11 (j := 1) hk) rfl rfl ⟨dX7_init_16, rfl⟩ (fun D3 hb3 => ?_)
  refine Ev.dup ⟨dX7_init_19, rfl⟩ rfl ?_
  refine Ev.callB (mc1 := 334) (ms1 := 41751) iX7_9 (c_X6_init Θ (1) (by decide) (rkP.row2 rkP.noP (by decide) (by decide)) (hb3.mono (by decide))) (by decide) ⟨by decide, by decide, by decide, by decide, Nat.le_of_ble_eq_true rfl⟩ ⟨dX7_init_20, rfl⟩ (fun D4 hb4 => ?_)
  refine Ev.putB (a := 1) (C2 := 6) fX7_16 (by decide) (by decide) rfl rfl rkP.noP (by decide) (by decide) (fun k h1 h2 => absurd h1 (by omega)) rfl ⟨dX7_init_23, rfl⟩ ?_
  refine Ev.aload_n (q := 0) ⟨dX7_init_26, rfl⟩ rfl rfl ?_
  refine Ev.newB (mc1 := 333) (ms1 := 41748) (0) 12 8 cok2 kX7_19 g9 g8 hb4 (by decide) rfl (fun k hk => hz12 (j := 0) hk) rfl rfl ⟨dX7_init_27, rfl⟩ (fun D5 hb5 => ?_)
  refine Ev.dup ⟨dX7_init_30, rfl⟩ rfl ?_
  refine Ev.callB (mc1 := 44) (ms1 := 6036) iX7_21 (c_X2_init Θ  (rkP.row2 rkP.noP (by decide) (by decide)) (hb5.mono (by decide))) (by decide) ⟨by decide, by decide, by decide, by decide, Nat.le_of_ble_eq_true rfl⟩ ⟨dX7_init_31, rfl⟩ (fun D6 hb6 => ?_)
  refine Ev.putB (a := 2) (C2 := 2) fX7_22 (by decide) (by decide) rfl rfl rkP.noP (by decide) (by decide) (fun k h1 h2 => hs7 h1 h2 (by decide)) rfl ⟨dX7_init_34, rfl⟩ ?_
  refine Ev.aload_n (q := 0) ⟨dX7_init_37, rfl⟩ rfl rfl ?_
  refine Ev.newB (mc1 := 43) (ms1 := 6029) (0) 40 0 cok5 kX7_26 g15 g14 hb6 (by decide) rfl (fun k _ => SR_20 (by decide)) rfl rfl ⟨dX7_init_38, rfl⟩ (fun D7 hb7 => ?_)
  refine Ev.dup ⟨dX7_init_41, rfl⟩ rfl ?_
  refine Ev.callB (mc1 := 6) (ms1 := 966) iX7_28 (c_X5_init Θ  (rkP.row2 rkP.noP (by decide) (by decide)) (hb7.mono (by decide))) (by decide) ⟨by decide, by decide, by decide, by decide, Nat.le_of_ble_eq_true rfl⟩ ⟨dX7_init_42, rfl⟩ (fun D8 hb8 => ?_)
  refine Ev.putB (a := 4) (C2 := 5) fX7_29 (by decide) (by decide) rfl rfl rkP.noP (by decide) (by decide) (fun k h1 h2 => absurd h1 (by omega)) rfl ⟨dX7_init_45, rfl⟩ ?_
  refine Ev.aload_n (q := 0) ⟨dX7_init_48, rfl⟩ rfl rfl ?_
  refine Ev.newB (mc1 := 5) (ms1 := 964) (33) 40 0 cok0 kX7_33 g5 g4 hb8 (by decide) rfl (fun k _ => SR_20 (by decide)) rfl rfl ⟨dX7_init_49, rfl⟩ (fun D9 hb9 => ?_)
  refine Ev.dup ⟨dX7_init_52, rfl⟩ rfl ?_
  refine Ev.callB (mc1 := 4) (ms1 := 604) iX7_35 (c_X0_init Θ (33) (rkP.row2 rkP.noP (by decide) (by decide)) (hb9.mono (by decide))) (by decide) ⟨by decide, by decide, by decide, by decide, Nat.le_of_ble_eq_true rfl⟩ ⟨dX7_init_53, rfl⟩ (fun D10 hb10 => ?_)
  refine Ev.putB (a := 5) (C2 := 0) fX7_36 (by decide) (by decide) rfl rfl rkP.noP (by decide) (by decide) (fun k h1 h2 => absurd h1 (by omega)) rfl ⟨dX7_init_56, rfl⟩ ?_
  refine Ev.aload_n (q := 0) ⟨dX7_init_59, rfl⟩ rfl rfl ?_
  refine Ev.newB (mc1 := 3) (ms1 := 602) (36) 40 0 cok0 kX7_33 g5 g4 hb10 (by decide) rfl (fun k _ => SR_20 (by decide)) rfl rfl ⟨dX7_init_60, rfl⟩ (fun D11 hb11 => ?_)
  refine Ev.dup ⟨dX7_init_63, rfl⟩ rfl ?_
  refine Ev.callB (mc1 := 2) (ms1 := 242) iX7_35 (c_X0_init Θ (36) (rkP.row2 rkP.noP (by decide) (by decide)) (hb11.mono (by decide))) (by decide) ⟨by decide, by decide, by decide, by decide, Nat.le_of_ble_eq_true rfl⟩ ⟨dX7_init_64, rfl⟩ (fun D12 hb12 => ?_)
  refine Ev.putB (a := 6) (C2 := 0) fX7_40 (by decide) (by decide) rfl rfl rkP.noP (by decide) (by decide) (fun k h1 h2 => absurd h1 (by omega)) rfl ⟨dX7_init_67, rfl⟩ ?_
  refine Ev.aload_n (q := 0) ⟨dX7_init_70, rfl⟩ rfl rfl ?_
  refine Ev.newB (mc1 := 1) (ms1 := 240) (11) 40 0 cok1 kX7_43 g7 g6 hb12 (by decide) rfl (fun k _ => SR_20 (by decide)) rfl rfl ⟨dX7_init_71, rfl⟩ (fun D13 hb13 => ?_)
  refine Ev.dup ⟨dX7_init_74, rfl⟩ rfl ?_
  refine Ev.callB (mc1 := 0) (ms1 := 0) iX7_45 (c_X1_init Θ (11) (rkP.row2 rkP.noP (by decide) (by decide)) (hb13.mono (by decide))) (by decide) ⟨by decide, by decide, by decide, by decide, Nat.le_of_ble_eq_true rfl⟩ ⟨dX7_init_75, rfl⟩ (fun D14 hb14 => ?_)
  refine Ev.putB (a := 7) (C2 := 1) fX7_46 (by decide) (by decide) rfl rfl rkP.noP (by decide) (by decide) (fun k h1 h2 => absurd h1 (by omega)) rfl ⟨dX7_init_78, rfl⟩ ?_
  refine Ev.cast (h2 := hq D14 x) ?_ rfl rfl ((hg_end (fun k hk => he7 hk) (fun k _ => SR_20 (by decide))).trans hg_no)
  refine Ev.aload_n (q := 0) ⟨dX7_init_81, rfl⟩ rfl rfl ?_
  refine Ev.getRk (C2 := 6) (r := 0) fX7_10 rfl (by decide) (by decide) ⟨dX7_init_82, rfl⟩ ?_
  refine Ev.callVN (mc1 := 0) (ms1 := 0) (h1 := hq D14 y) vX7_50 (c_X6_reset Θ D14 z 0 x y hy) rfl rfl (by decide) rfl ⟨by decide, by decide, by decide, by decide, Nat.le_of_ble_eq_true rfl⟩ ⟨dX7_init_85, rfl⟩ ?_
  exact Ev.ret ⟨dX7_init_88, rfl⟩ rfl ⟨rfl, _, hb14.mono (by decide), rfl⟩
set_option maxHeartbeats 4000000 in
set_option maxRecDepth 20000 in
theorem c_X8_init (Θ : GC) (z : Nat) (x y0 y : Mm) (hy0 : F_X8_forgetRead z 0 x = some y0) (hy : F_X8_takeRead z 0 y0 = some y) {D : Nat → Nat → Prop} (hb : BD D (23001)) : Cal Θ mX8_init 2 42 7 70358 [vr 8 (0 + 1)] (hg D x (row2 noP 8 (0) 0 40 0)) (RetC y 23008) := by
  refine Cal.of (by decide +kernel) rfl rfl (Nat.le_of_ble_eq_true rfl) ?_
  show Ev Θ mX8_init 2 42 7 70358 0 [(0, vr 8 (0 + 1))] [] (hg D x (row2 noP 8 (0) 0 40 0)) (RetC y 23008)
  refine Ev.aload_n (q := 0) ⟨dX8_init_0, rfl⟩ rfl rfl ?_
  refine Ev.objInit oX8_3 g2 g3 (by decide) (by decide) (by decide) ⟨dX8_init_1, rfl⟩ ?_
  refine Ev.aload_n (q := 0) ⟨dX8_init_4, rfl⟩ rfl rfl ?_
  refine Ev.sipush ⟨dX8_init_5, rfl⟩ (inRd rfl) (by decide) ?_
  refine Ev.newIB (mc1 := 6) (ms1 := 69758) 26 (0) (by decide) hb (by decide) rfl (by decide) (by decide) rfl rfl ⟨dX8_init_8, rfl⟩ (fun D1 hb1 => ?_)
  refine Ev.putB (a := 0) (C2 := 26) fX8_9 (by decide) (by decide) rfl rfl rkP.noP (by decide) (by decide) (fun k h1 h2 => hs8 h1 h2 (by decide)) rfl ⟨dX8_init_10, rfl⟩ ?_
  refine Ev.aload_n (q := 0) ⟨dX8_init_13, rfl⟩ rfl rfl ?_
  refine Ev.sipush ⟨dX8_init_14, rfl⟩ (inRd rfl) (by decide) ?_
  refine Ev.newIB (mc1 := 5) (ms1 := 64392) 27 (0) (by decide) hb1 (by decide) rfl (by decide) (by decide) rfl rfl ⟨dX8_init_17, rfl⟩ (fun D2 hb2 => ?_)
  refine Ev.putB (a := 2) (C2 := 27) fX8_13 (by decide) (by decide) rfl rfl rkP.noP (by decide) (by decide) (fun k h1 h2 => hs8 h1 h2 (by decide)) rfl ⟨dX8_init_19, rfl⟩ ?_
  refine Ev.aload_n (q := 0) ⟨dX8_init_22, rfl⟩ rfl rfl ?_
  refine Ev.sipush ⟨dX8_init_23, rfl⟩ (inRd rfl) (by decide) ?_
  refine Ev.newIB (mc1 := 4) (ms1 := 59026) 27 (1) (by decide) hb2 (by decide) rfl (by decide) (by decide) rfl rfl ⟨dX8_init_26, rfl⟩ (fun D3 hb3 => ?_)
  refine Ev.putB (a := 9) (C2 := 27) fX8_16 (by decide) (by decide) rfl rfl rkP.noP (by decide) (by decide) (fun k h1 h2 => absurd h1 (by omega)) rfl ⟨dX8_init_28, rfl⟩ ?_
  refine Ev.aload_n (q := 0) ⟨dX8_init_31, rfl⟩ rfl rfl ?_
  refine Ev.ldc (n := 42928) ⟨dX8_init_32, rfl⟩ (inRd rfl) wX8_19 ?_
  refine Ev.newIB (mc1 := 3) (ms1 := 16098) 28 (0) (by decide) hb3 (by decide) rfl (by decide) (by decide) rfl rfl ⟨dX8_init_34, rfl⟩ (fun D4 hb4 => ?_)
  refine Ev.putB (a := 10) (C2 := 28) fX8_20 (by decide) (by decide) rfl rfl rkP.noP (by decide) (by decide) (fun k h1 h2 => absurd h1 (by omega)) rfl ⟨dX8_init_36, rfl⟩ ?_
  refine Ev.aload_n (q := 0) ⟨dX8_init_39, rfl⟩ rfl rfl ?_
  refine Ev.sipush ⟨dX8_init_40, rfl⟩ (inRd rfl) (by decide) ?_
  refine Ev.newIB (mc1 := 2) (ms1 := 10732) 27 (2) (by decide) hb4 (by decide) rfl (by decide) (by decide) rfl rfl ⟨dX8_init_43, rfl⟩ (fun D5 hb5 => ?_)
  refine Ev.putB (a := 11) (C2 := 27) fX8_23 (by decide) (by decide) rfl rfl rkP.noP (by decide) (by decide) (fun k h1 h2 => absurd h1 (by omega)) rfl ⟨dX8_init_45, rfl⟩ ?_
  refine Ev.aload_n (q := 0) ⟨dX8_init_48, rfl⟩ rfl rfl ?_
  refine Ev.sipush ⟨dX8_init_49, rfl⟩ (inRd rfl) (by decide) ?_
  refine Ev.newIB (mc1 := 1) (ms1 := 5366) 27 (3) (by decide) hb5 (by decide) rfl (by decide) (by decide) rfl rfl ⟨dX8_init_52, rfl⟩ (fun D6 hb6 => ?_)
  refine Ev.putB (a := 12) (C2 := 27) fX8_26 (by decide) (by decide) rfl rfl rkP.noP (by decide) (by decide) (fun k h1 h2 => hs8 h1 h2 (by decide)) rfl ⟨dX8_init_54, rfl⟩ ?_
  refine Ev.aload_n (q := 0) ⟨dX8_init_57, rfl⟩ rfl rfl ?_
  refine Ev.sipush ⟨dX8_init_58, rfl⟩ (inRd rfl) (by decide) ?_
  refine Ev.newIB (mc1 := 0) (ms1 := 0) 27 (4) (by decide) hb6 (by decide) rfl (by decide) (by decide) rfl rfl ⟨dX8_init_61, rfl⟩ (fun D7 hb7 => ?_)
  refine Ev.putB (a := 16) (C2 := 27) fX8_29 (by decide) (by decide) rfl rfl rkP.noP (by decide) (by decide) (fun k h1 h2 => absurd h1 (by omega)) rfl ⟨dX8_init_63, rfl⟩ ?_
  refine Ev.cast (h2 := hq D7 x) ?_ rfl rfl ((hg_end (fun k hk => he8 hk) (fun k _ => SR_20 (by decide))).trans hg_no)
  refine Ev.aload_n (q := 0) ⟨dX8_init_66, rfl⟩ rfl rfl ?_
  refine Ev.callVN (mc1 := 0) (ms1 := 0) (h1 := hq D7 y0) vX8_32 (c_X8_forgetRead Θ D7 z 0 x y0 hy0) rfl rfl (by decide) rfl ⟨by decide, by decide, by decide, by decide, Nat.le_of_ble_eq_true rfl⟩ ⟨dX8_init_67, rfl⟩ ?_
  refine Ev.aload_n (q := 0) ⟨dX8_init_70, rfl⟩ rfl rfl ?_
  refine Ev.callVN (mc1 := 0) (ms1 := 0) (h1 := hq D7 y) vX8_35 (c_X8_takeRead Θ D7 z 0 y0 y hy) rfl rfl (by decide) rfl ⟨by decide, by decide, by decide, by decide, Nat.le_of_ble_eq_true rfl⟩ ⟨dX8_init_71, rfl⟩ ?_
  exact Ev.ret ⟨dX8_init_74, rfl⟩ rfl ⟨rfl, _, hb7.mono (by decide), rfl⟩
