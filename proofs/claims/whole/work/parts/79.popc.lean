/-! Long.bitCount's formula counts the bits. -/
def m5 : Nat → Nat
  | 0 => 0
  | k + 1 => 0x55 + 256 * m5 k
def m3 : Nat → Nat
  | 0 => 0
  | k + 1 => 0x33 + 256 * m3 k
def mF : Nat → Nat
  | 0 => 0
  | k + 1 => 0x0f + 256 * mF k
def op1 (k X : Nat) : Nat := X - ((X / 2) &&& m5 k)
def op2 (k X : Nat) : Nat := (X &&& m3 k) + ((X / 4) &&& m3 k)
def op3 (k X : Nat) : Nat := (X + X / 16) &&& mF k
def f8 (a : Nat) : Nat := op3 1 (op2 1 (op1 1 a))
def G8 : Nat → Nat → Nat
  | 0, _ => 0
  | k + 1, X => f8 (X % 256) + 256 * G8 k (X / 256)
theorem land_sp (a b0 b1 : Nat) (h : b0 < 256) : a &&& (b0 + 256 * b1) = (a % 256 &&& b0) + 256 * (a / 256 &&& b1) := by
  have e1 : (a &&& (b0 + 256 * b1)) % 256 = (a % 256 &&& b0) := by
    have := Nat.and_mod_two_pow (a := a) (b := b0 + 256 * b1) (n := 8)
    rw [show (2 : Nat) ^ 8 = 256 from rfl] at this
    rw [this, show (b0 + 256 * b1) % 256 = b0 by omega]
  have e2 : (a &&& (b0 + 256 * b1)) / 256 = (a / 256 &&& b1) := by
    have := Nat.and_div_two_pow (a := a) (b := b0 + 256 * b1) (n := 8)
    rw [show (2 : Nat) ^ 8 = 256 from rfl] at this
    rw [this, show (b0 + 256 * b1) / 256 = b1 by omega]
  omega
theorem dec5 : ∀ a, a < 128 → ∀ b, b < 2 → (a + 128 * b) &&& 0x55 = a &&& 0x55 := by decide +kernel
theorem dec3 : ∀ a, a < 64 → ∀ b, b < 4 → (a + 64 * b) &&& 0x33 = a &&& 0x33 := by decide +kernel
theorem decF : ∀ a, a < 73 → ∀ b, b < 5 → (a + 16 * b) &&& 0x0f = a &&& 0x0f := by decide +kernel
theorem dec1 : ∀ a, a < 256 → op1 1 a < 256 ∧ op2 1 (op1 1 a) % 16 ≤ 4 ∧ op2 1 (op1 1 a) / 16 ≤ 4 := by decide +kernel
theorem m51 : m5 1 = 0x55 := rfl
theorem op1_s (k X : Nat) : op1 (k + 1) X = op1 1 (X % 256) + 256 * op1 k (X / 256) := by
  unfold op1
  rw [show m5 (k + 1) = 0x55 + 256 * m5 k from rfl, m51, land_sp _ _ _ (by omega)]
  have e1 : X / 2 % 256 = X % 256 / 2 + 128 * (X / 256 % 2) := by omega
  have e2 : X / 2 / 256 = X / 256 / 2 := by omega
  rw [e1, e2, dec5 _ (by omega) _ (by omega)]
  have h1 : (X % 256 / 2 &&& 0x55) ≤ X % 256 / 2 := Nat.and_le_left
  have h2 : (X / 256 / 2 &&& m5 k) ≤ X / 256 / 2 := Nat.and_le_left
  omega
theorem op2_s (k l h : Nat) (hl : l < 256) : op2 (k + 1) (l + 256 * h) = op2 1 l + 256 * op2 k h := by
  unfold op2
  rw [show m3 (k + 1) = 0x33 + 256 * m3 k from rfl, show m3 1 = 0x33 from rfl, land_sp _ _ _ (by omega), land_sp _ _ _ (by omega)]
  have e0 : (l + 256 * h) % 256 = l := by omega
  have e00 : (l + 256 * h) / 256 = h := by omega
  have e1 : (l + 256 * h) / 4 % 256 = l / 4 + 64 * (h % 4) := by omega
  have e2 : (l + 256 * h) / 4 / 256 = h / 4 := by omega
  rw [e0, e00, e1, e2, dec3 _ (by omega) _ (by omega)]
  omega
theorem op3_s (k l h : Nat) (hl : l % 16 ≤ 4) (hl2 : l / 16 ≤ 4) (hh : h % 16 ≤ 4) : op3 (k + 1) (l + 256 * h) = op3 1 l + 256 * op3 k h := by
  unfold op3
  rw [show mF (k + 1) = 0x0f + 256 * mF k from rfl, show mF 1 = 0x0f from rfl, land_sp _ _ _ (by omega)]
  have e1 : (l + 256 * h + (l + 256 * h) / 16) % 256 = (l + l / 16) + 16 * (h % 16) := by omega
  have e2 : (l + 256 * h + (l + 256 * h) / 16) / 256 = h + h / 16 := by omega
  rw [e1, e2, decF _ (by omega) _ (by omega)]
theorem swar : ∀ (k X : Nat), op2 k (op1 k X) % 16 ≤ 4 ∧ op3 k (op2 k (op1 k X)) = G8 k X := by
  intro k
  induction k with
  | zero => intro X; exact ⟨by simp [op2, m3], by simp [op3, mF, G8]⟩
  | succ k ih =>
    intro X
    obtain ⟨i1, i2⟩ := ih (X / 256)
    obtain ⟨d1, d2, d3⟩ := dec1 (X % 256) (by omega)
    rw [op1_s, op2_s _ _ _ d1]
    refine ⟨by omega, ?_⟩
    rw [op3_s _ _ _ d2 d3 i1, i2]; rfl
/-- bits of a number -/
def bs : Nat → Nat → Nat
  | 0, _ => 0
  | k + 1, X => X % 2 + bs k (X / 2)
theorem f8_bs : ∀ a, a < 256 → f8 a = bs 8 a := by decide +kernel
theorem bs_8 (k X : Nat) : bs (k + 8) X = bs 8 (X % 256) + bs k (X / 256) := by
  have e : bs (k + 8) X = X % 2 + (X / 2 % 2 + (X / 2 / 2 % 2 + (X / 2 / 2 / 2 % 2 + (X / 2 / 2 / 2 / 2 % 2 + (X / 2 / 2 / 2 / 2 / 2 % 2 + (X / 2 / 2 / 2 / 2 / 2 / 2 % 2 + (X / 2 / 2 / 2 / 2 / 2 / 2 / 2 % 2 + bs k (X / 2 / 2 / 2 / 2 / 2 / 2 / 2 / 2)))))))) := rfl
  have e2 : bs 8 (X % 256) = X % 256 % 2 + (X % 256 / 2 % 2 + (X % 256 / 2 / 2 % 2 + (X % 256 / 2 / 2 / 2 % 2 + (X % 256 / 2 / 2 / 2 / 2 % 2 + (X % 256 / 2 / 2 / 2 / 2 / 2 % 2 + (X % 256 / 2 / 2 / 2 / 2 / 2 / 2 % 2 + (X % 256 / 2 / 2 / 2 / 2 / 2 / 2 / 2 % 2 + 0))))))) := rfl
  rw [e, e2, show X / 2 / 2 / 2 / 2 / 2 / 2 / 2 / 2 = X / 256 by omega]
  omega
theorem f8_le (a : Nat) (h : a < 256) : f8 a ≤ 8 := by
  have : ∀ a, a < 256 → f8 a ≤ 8 := by decide +kernel
  exact this a h
theorem cn_sh (p : Int → Bool) (k : Nat) : cn p (k + 1) = b2i (p 0) + cn (fun n => p (n + 1)) k := by
  induction k with
  | zero => show 0 + b2i (p ((0 : Nat) : Int)) = b2i (p 0) + 0; simp
  | succ k ih =>
    show cn p (k + 1) + b2i (p ((k + 1 : Nat) : Int)) = b2i (p 0) + (cn (fun n => p (n + 1)) k + b2i (p ((k : Int) + 1)))
    rw [ih, show ((k + 1 : Nat) : Int) = (k : Int) + 1 by omega]; omega
theorem cn_bs : ∀ (k X : Nat), cn (fun n => X.testBit n.toNat) k = (bs k X : Int) := by
  intro k
  induction k with
  | zero => intro X; rfl
  | succ k ih =>
    intro X
    rw [cn_sh]
    have e1 : b2i (X.testBit (0 : Int).toNat) = ((X % 2 : Nat) : Int) := by
      show b2i (X.testBit 0) = _
      rw [Nat.testBit_zero]
      by_cases h : X % 2 = 1
      · rw [decide_eq_true h, h]; rfl
      · have h0 : X % 2 = 0 := by omega
        rw [decide_eq_false h, h0]; rfl
    have e2 : cn (fun n => X.testBit (n + 1).toNat) k = cn (fun n => (X / 2).testBit n.toNat) k := by
      refine cn_congr (fun i i0 i1 => ?_)
      rw [show (i + 1).toNat = i.toNat + 1 by omega, Nat.testBit_succ]
    rw [e1, e2, ih]
    show _ = ((X % 2 + bs k (X / 2) : Nat) : Int)
    omega
theorem bv_and_mask (i : BitVec 64) (k : Nat) (m : Nat) (hm : m < 2 ^ 64) : ((i >>> k) &&& BitVec.ofInt 64 (m : Int)).toNat = (i.toNat / 2 ^ k) &&& m := by
  rw [BitVec.toNat_and, BitVec.toNat_ushiftRight, Nat.shiftRight_eq_div_pow, BitVec.ofInt_natCast, BitVec.toNat_ofNat, Nat.mod_eq_of_lt hm]
theorem bv_and_mask0 (i : BitVec 64) (m : Nat) (hm : m < 2 ^ 64) : (i &&& BitVec.ofInt 64 (m : Int)).toNat = i.toNat &&& m := by
  rw [BitVec.toNat_and, BitVec.ofInt_natCast, BitVec.toNat_ofNat, Nat.mod_eq_of_lt hm]
theorem bc1_n (i : BitVec 64) : (bc1 i).toNat = op1 8 i.toNat := by
  unfold bc1 op1
  have e := bv_and_mask i 1 6148914691236517205 (by decide +kernel)
  rw [show ((6148914691236517205 : Nat) : Int) = 6148914691236517205 from rfl, show (2 : Nat) ^ 1 = 2 from rfl] at e
  have hle : (i.toNat / 2 &&& 6148914691236517205) ≤ i.toNat / 2 := Nat.and_le_left
  have hi := i.isLt
  rw [BitVec.toNat_sub, e, show m5 8 = 6148914691236517205 from by decide +kernel]
  omega
theorem bc2_n (i : BitVec 64) : (bc2 i).toNat = op2 8 i.toNat := by
  unfold bc2 op2
  have e := bv_and_mask i 2 3689348814741910323 (by decide)
  have e0 := bv_and_mask0 i 3689348814741910323 (by decide)
  rw [show ((3689348814741910323 : Nat) : Int) = 3689348814741910323 from rfl] at e e0
  rw [show (2 : Nat) ^ 2 = 4 from rfl] at e
  have h1 : (i.toNat / 4 &&& 3689348814741910323) ≤ 3689348814741910323 := Nat.and_le_right
  have h2 : (i.toNat &&& 3689348814741910323) ≤ 3689348814741910323 := Nat.and_le_right
  rw [BitVec.toNat_add, e, e0, show m3 8 = 3689348814741910323 from by decide +kernel]
  omega
theorem op2_le (k X : Nat) : op2 k X ≤ 2 * m3 k := by
  unfold op2
  have h1 : (X / 4 &&& m3 k) ≤ m3 k := Nat.and_le_right
  have h2 : (X &&& m3 k) ≤ m3 k := Nat.and_le_right
  omega
theorem bc3_n (i : BitVec 64) (h : i.toNat ≤ 7378697629483820646) : (bc3 i).toNat = op3 8 i.toNat := by
  unfold bc3 op3
  have e0 := bv_and_mask0 (i + (i >>> 4)) 1085102592571150095 (by decide)
  rw [show ((1085102592571150095 : Nat) : Int) = 1085102592571150095 from rfl] at e0
  rw [e0, BitVec.toNat_add, BitVec.toNat_ushiftRight, Nat.shiftRight_eq_div_pow, show (2 : Nat) ^ 4 = 16 from rfl, show mF 8 = 1085102592571150095 from by decide, Nat.mod_eq_of_lt (by omega)]
theorem bc4_n (k : Nat) (i : BitVec 64) (h : i.toNat < 2 ^ 63) (hk : i.toNat / 2 ^ k ≤ i.toNat) : (bc4 k i).toNat = i.toNat + i.toNat / 2 ^ k := by
  unfold bc4
  rw [BitVec.toNat_add, BitVec.toNat_ushiftRight, Nat.shiftRight_eq_div_pow, Nat.mod_eq_of_lt (by omega)]
theorem biand127 (v : BitVec 32) : biand v.toInt 127 = ((v.toNat % 128 : Nat) : Int) := by
  have e : biand v.toInt 127 = (v &&& 127#32).toInt := by
    show ((Int32.ofInt v.toInt) &&& Int32.ofInt 127).toBitVec.toInt = _
    have e1 : (Int32.ofInt v.toInt).toBitVec = v := by
      show BitVec.ofInt 32 v.toInt = v
      exact BitVec.ofInt_toInt
    show ((Int32.ofInt v.toInt).toBitVec &&& (Int32.ofInt 127).toBitVec).toInt = _
    rw [e1]; rfl
  have h : (v &&& 127#32).toNat = v.toNat % 128 := by
    rw [BitVec.toNat_and]
    exact Nat.and_two_pow_sub_one_eq_mod v.toNat 7
  rw [e, BitVec.toInt_eq_toNat_of_lt (by omega), h]
theorem div1 (a b : Nat) (h : a < 256) : (a + 256 * b) / 256 = b := by omega
theorem div2 (a b c : Nat) (h : a < 256) (h1 : b < 256) : (a + 256 * (b + 256 * c)) / 65536 = c := by omega
theorem div4 (a b c d e : Nat) (h : a < 256) (h1 : b < 256) (h2 : c < 256) (h3 : d < 256) : (a + 256 * (b + 256 * (c + 256 * (d + 256 * e)))) / 4294967296 = e := by omega
theorem mod7 (a b : Nat) (h : a < 128) : (a + 256 * b) % 4294967296 % 128 = a := by omega
theorem fold1 (t : BitVec 64) (a0 R : Nat) (l0 : a0 ≤ 8) (h : t.toNat = a0 + 256 * R) (hR : R < 2 ^ 54) : (bc4 8 t).toNat = a0 + 256 * R + R := by
  have g1 := bc4_n 8 t (by omega) (Nat.div_le_self _ _)
  rw [show (2 : Nat) ^ 8 = 256 from rfl, h, div1 _ _ (by omega)] at g1
  exact g1
theorem fold2 (t : BitVec 64) (a0 a1 R : Nat) (l0 : a0 ≤ 16) (l1 : a1 ≤ 16) (h : t.toNat = a0 + 256 * (a1 + 256 * R)) (hR : R < 2 ^ 46) : (bc4 16 t).toNat = a0 + 256 * (a1 + 256 * R) + R := by
  have g1 := bc4_n 16 t (by omega) (Nat.div_le_self _ _)
  rw [show (2 : Nat) ^ 16 = 65536 from rfl, h, div2 _ _ _ (by omega) (by omega)] at g1
  exact g1
theorem fold4 (t : BitVec 64) (a0 a1 a2 a3 R : Nat) (l0 : a0 ≤ 32) (l1 : a1 ≤ 32) (l2 : a2 ≤ 32) (l3 : a3 ≤ 32) (h : t.toNat = a0 + 256 * (a1 + 256 * (a2 + 256 * (a3 + 256 * R)))) (hR : R < 2 ^ 30) : (bc4 32 t).toNat = a0 + 256 * (a1 + 256 * (a2 + 256 * (a3 + 256 * R))) + R := by
  have g1 := bc4_n 32 t (by omega) (Nat.div_le_self _ _)
  rw [show (2 : Nat) ^ 32 = 4294967296 from rfl, h, div4 _ _ _ _ _ (by omega) (by omega) (by omega) (by omega)] at g1
  exact g1
theorem bs64 (X : Nat) : bs 64 X = f8 (X % 256) + f8 (X / 256 % 256) + f8 (X / 256 / 256 % 256) + f8 (X / 256 / 256 / 256 % 256) + f8 (X / 256 / 256 / 256 / 256 % 256) + f8 (X / 256 / 256 / 256 / 256 / 256 % 256) + f8 (X / 256 / 256 / 256 / 256 / 256 / 256 % 256) + f8 (X / 256 / 256 / 256 / 256 / 256 / 256 / 256 % 256) := by
  have e : ∀ Y : Nat, bs 8 (Y % 256) = f8 (Y % 256) := fun Y => (f8_bs _ (Nat.mod_lt _ (by decide))).symm
  rw [bs_8 56, bs_8 48, bs_8 40, bs_8 32, bs_8 24, bs_8 16, bs_8 8, e, e, e, e, e, e, e, bs_8 0, e]
  show _ + (_ + (_ + (_ + (_ + (_ + (_ + (_ + 0))))))) = _
  simp only [Nat.add_assoc, Nat.add_zero]
theorem add1 (a b c d : Nat) : a + 256 * b + (c + 256 * d) = (a + c) + 256 * (b + d) := by omega
theorem addL (a b c : Nat) : a + 256 * b + c = (a + c) + 256 * b := by omega
theorem bdd {a b k : Nat} (h : a ≤ 64) (hb : b < k) : a + 256 * b < 256 * k := by omega
theorem fold8 (t : BitVec 64) (a0 a1 a2 a3 a4 a5 a6 a7 : Nat) (l0 : a0 ≤ 8) (l1 : a1 ≤ 8) (l2 : a2 ≤ 8) (l3 : a3 ≤ 8) (l4 : a4 ≤ 8) (l5 : a5 ≤ 8) (l6 : a6 ≤ 8) (l7 : a7 ≤ 8) (h : t.toNat = a0 + 256 * (a1 + 256 * (a2 + 256 * (a3 + 256 * (a4 + 256 * (a5 + 256 * (a6 + 256 * a7))))))) : (bc4 32 (bc4 16 (bc4 8 t))).toNat % 4294967296 % 128 = a0 + a1 + a2 + a3 + a4 + a5 + a6 + a7 := by
  have g1 := fold1 t a0 _ l0 h (Nat.lt_of_lt_of_le (bdd (Nat.le_trans l1 (by decide)) (bdd (Nat.le_trans l2 (by decide)) (bdd (Nat.le_trans l3 (by decide)) (bdd (Nat.le_trans l4 (by decide)) (bdd (Nat.le_trans l5 (by decide)) (bdd (Nat.le_trans l6 (by decide)) (Nat.lt_succ_of_le l7))))))) (by decide))
  rw [add1, add1, add1, add1, add1, add1, addL] at g1
  have m0 : a0 + a1 ≤ 16 := Nat.add_le_add l0 l1
  have m1 : a1 + a2 ≤ 16 := Nat.add_le_add l1 l2
  have m2 : a2 + a3 ≤ 16 := Nat.add_le_add l2 l3
  have m3 : a3 + a4 ≤ 16 := Nat.add_le_add l3 l4
  have m4 : a4 + a5 ≤ 16 := Nat.add_le_add l4 l5
  have m5 : a5 + a6 ≤ 16 := Nat.add_le_add l5 l6
  have m6 : a6 + a7 ≤ 16 := Nat.add_le_add l6 l7
  have m7 : a7 ≤ 16 := Nat.le_trans l7 (by decide)
  have fin : a0 + a1 + (a2 + a3) + (a4 + a5 + (a6 + a7)) = a0 + a1 + a2 + a3 + a4 + a5 + a6 + a7 := by simp only [Nat.add_assoc]
  rw [← fin]
  clear h l0 l1 l2 l3 l4 l5 l6 l7 fin
  generalize a0 + a1 = b0 at *
  generalize a1 + a2 = b1 at *
  generalize a2 + a3 = b2 at *
  generalize a3 + a4 = b3 at *
  generalize a4 + a5 = b4 at *
  generalize a5 + a6 = b5 at *
  generalize a6 + a7 = b6 at *
  have g2 := fold2 _ b0 b1 _ m0 m1 g1 (Nat.lt_of_lt_of_le (bdd (Nat.le_trans m2 (by decide)) (bdd (Nat.le_trans m3 (by decide)) (bdd (Nat.le_trans m4 (by decide)) (bdd (Nat.le_trans m5 (by decide)) (bdd (Nat.le_trans m6 (by decide)) (Nat.lt_succ_of_le m7)))))) (by decide))
  rw [add1, add1, add1, add1, add1, addL] at g2
  have n0 : b0 + b2 ≤ 32 := Nat.add_le_add m0 m2
  have n1 : b1 + b3 ≤ 32 := Nat.add_le_add m1 m3
  have n2 : b2 + b4 ≤ 32 := Nat.add_le_add m2 m4
  have n3 : b3 + b5 ≤ 32 := Nat.add_le_add m3 m5
  have n4 : b4 + b6 ≤ 32 := Nat.add_le_add m4 m6
  have n5 : b5 + a7 ≤ 32 := Nat.add_le_add m5 m7
  clear g1
  generalize b0 + b2 = c0 at *
  generalize b1 + b3 = c1 at *
  generalize b2 + b4 = c2 at *
  generalize b3 + b5 = c3 at *
  generalize b4 + b6 = c4 at *
  generalize b5 + a7 = c5 at *
  have g3 := fold4 _ c0 c1 c2 c3 _ n0 n1 n2 n3 g2 (Nat.lt_of_lt_of_le (bdd (Nat.le_trans n4 (by decide)) (bdd (Nat.le_trans n5 (by decide)) (bdd (Nat.le_trans m6 (by decide)) (Nat.lt_succ_of_le m7)))) (by decide))
  rw [add1] at g3
  rw [g3]
  exact mod7 _ _ (by omega)
theorem G8_e (X : Nat) : G8 8 X = f8 (X % 256) + 256 * (f8 (X / 256 % 256) + 256 * (f8 (X / 256 / 256 % 256) + 256 * (f8 (X / 256 / 256 / 256 % 256) + 256 * (f8 (X / 256 / 256 / 256 / 256 % 256) + 256 * (f8 (X / 256 / 256 / 256 / 256 / 256 % 256) + 256 * (f8 (X / 256 / 256 / 256 / 256 / 256 / 256 % 256) + 256 * (f8 (X / 256 / 256 / 256 / 256 / 256 / 256 / 256 % 256)))))))) := by
  have e : ∀ (k Y : Nat), G8 (k + 1) Y = f8 (Y % 256) + 256 * G8 k (Y / 256) := fun _ _ => rfl
  have e0 : ∀ Y : Nat, G8 0 Y = 0 := fun _ => rfl
  rw [e 7, e 6, e 5, e 4, e 3, e 2, e 1, e 0, e0, Nat.mul_zero, Nat.add_zero]
theorem pcnt_e (s : BitVec 64) : pcnt s = cn (has s) (64 : Int).toNat := by
  have hR : cn (has s) (64 : Int).toNat = (bs 64 s.toNat : Int) := cn_bs 64 s.toNat
  have h3 : (bc3 (bc2 (bc1 s))).toNat = G8 8 s.toNat := by
    have hle := op2_le 8 (op1 8 s.toNat)
    rw [show m3 8 = 3689348814741910323 from by decide +kernel] at hle
    rw [bc3_n _ (by rw [bc2_n, bc1_n]; exact hle), bc2_n, bc1_n, (swar 8 s.toNat).2]
  rw [G8_e] at h3
  have k : ∀ Y : Nat, f8 (Y % 256) ≤ 8 := fun Y => f8_le _ (Nat.mod_lt _ (by decide))
  have h4 := fold8 (bc3 (bc2 (bc1 s))) _ _ _ _ _ _ _ _ (k _) (k _) (k _) (k _) (k _) (k _) (k _) (k _) h3
  rw [hR, bs64]
  unfold pcnt
  rw [biand127, BitVec.toNat_setWidth, show (2 : Nat) ^ 32 = 4294967296 from rfl, h4]
