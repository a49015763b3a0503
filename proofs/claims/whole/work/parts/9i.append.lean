/-! append -/
section
variable {z : Nat} {x y : Mm}
theorem biand255 (a : Int) : biand a 255 = a % 256 := by
  have e : biand a 255 = (BitVec.ofInt 32 a &&& 255#32).toInt := rfl
  have h1 : (BitVec.ofInt 32 a &&& 255#32).toNat = (BitVec.ofInt 32 a).toNat % 256 := by
    rw [BitVec.toNat_and]; exact Nat.and_two_pow_sub_one_eq_mod _ 8
  have h2 : (BitVec.ofInt 32 a).toNat = (a % 4294967296).toNat := by rw [BitVec.toNat_ofInt]; rfl
  rw [e, BitVec.toInt_eq_toNat_of_lt (by rw [h1]; omega), h1, h2]
  omega
theorem w32_mod (a : Int) : w32 a % 256 = a % 256 := by
  unfold w32
  rw [Int.bmod_def]
  split <;> omega
/-- a byte of a word -/
def bw (v : Int) (s : Nat) : Int := v / 2 ^ s % 256
theorem bw_c {v s : Int} (h : s = 24 ∨ s = 16 ∨ s = 8 ∨ s = 0) : biand (w32 (v % 4294967296 / 2 ^ s.toNat)) 255 = bw v s.toNat := by
  rw [biand255, w32_mod]
  unfold bw
  rcases h with rfl | rfl | rfl | rfl
  · show v % 4294967296 / 16777216 % 256 = v / 16777216 % 256; omega
  · show v % 4294967296 / 65536 % 256 = v / 65536 % 256; omega
  · show v % 4294967296 / 256 % 256 = v / 256 % 256; omega
  · show v % 4294967296 / 1 % 256 = v / 1 % 256; omega
theorem bw_b {v : Int} {s : Nat} : 0 ≤ bw v s ∧ bw v s ≤ 255 := by unfold bw; omega
def nzb (b : Int) : Int := if b = 0 then 0 else 1
abbrev Tb := Int × (Nat → Int)
def ag (b : Int) (s : Tb) : Tb := if b = 0 then s else (s.1 + 1, up s.2 s.1.toNat b)
def cw (v : Int) : Int := nzb (bw v 24) + nzb (bw v 16) + nzb (bw v 8) + nzb (bw v 0)
def aw (v : Int) (s : Tb) : Tb := ag (bw v 0) (ag (bw v 8) (ag (bw v 16) (ag (bw v 24) s)))
theorem nz_b {b : Int} : 0 ≤ nzb b ∧ nzb b ≤ 1 := by unfold nzb; split <;> omega
theorem ag_1 {b : Int} {s : Tb} : (ag b s).1 = s.1 + nzb b := by
  unfold ag nzb
  by_cases q : b = 0
  · rw [if_pos q, if_pos q]; omega
  · rw [if_neg q, if_neg q]
theorem aw_1 {v : Int} {s : Tb} : (aw v s).1 = s.1 + cw v := by
  unfold aw cw; rw [ag_1, ag_1, ag_1, ag_1]; omega
def A5 (x : Mm) (s : Tb) : Mm := pj (pj x 25 0 s.2) 5 0 (up (x.1 5 0) 0 s.1)
def A8 (x : Mm) (s : Tb) : Mm := pj (pj x 26 0 s.2) 8 0 (up (x.1 8 0) 2 s.1)
theorem A5_0 {s : Tb} : (A5 x s).1 5 0 0 = s.1 := by unfold A5; rw [pj_s, up_s]
theorem A8_0 {s : Tb} : (A8 x s).1 8 0 2 = s.1 := by unfold A8; rw [pj_s, up_s]
theorem A5_w {s : Tb} {b : Int} : wI (wI (A5 x s) 25 0 s.1.toNat b) 5 0 0 (s.1 + 1) = A5 x (s.1 + 1, up s.2 s.1.toNat b) := by
  rw [wI_pj, wI_pj]
  unfold A5
  rw [pj_C (C := 25) (by decide), pj_s, pj_C (C := 5) (by decide), pj_s, pj_cm (C := 5) (C' := 25) (by omega), pj_pj, pj_pj, up_up]
theorem A8_w {s : Tb} {b : Int} : wI (wI (A8 x s) 26 0 s.1.toNat b) 8 0 2 (s.1 + 1) = A8 x (s.1 + 1, up s.2 s.1.toNat b) := by
  rw [wI_pj, wI_pj]
  unfold A8
  rw [pj_C (C := 26) (by decide), pj_s, pj_C (C := 8) (by decide), pj_s, pj_cm (C := 8) (C' := 26) (by omega), pj_pj, pj_pj, up_up]
theorem k_cb {v s : Int} {k : Nat} {u : Int} (h : s = 24 ∨ s = 16 ∨ s = 8 ∨ s = 0) (h0 : 0 ≤ u) (h1 : u ≤ 100) : F_X7_countBytes_5 z v x (k + 1) u s = F_X7_countBytes_5 z v x k (u + nzb (bw v s.toNat)) (s + (-8)) := by
  show (if s < 0 then _ else _) = _
  rw [if_neg (by omega), ckI_t (by omega) (by omega), bw_c h]
  unfold nzb
  by_cases q : bw v s.toNat = 0
  · rw [if_pos q, if_pos q, ckR_t (by omega) (by omega), Int.add_zero]
  · rw [if_neg q, if_neg q, ckR_t (by omega) (by omega), ckR_t (by omega) (by omega)]
theorem k_countBytes (hz : 50000 ≤ z) {v : Int} : F_X7_countBytes z v x = some (cw v) := by
  unfold F_X7_countBytes
  obtain ⟨k, rfl⟩ : ∃ k, z = k + 5 := ⟨z - 5, by omega⟩
  have a := nz_b (b := bw v 24)
  have b := nz_b (b := bw v 16)
  have c := nz_b (b := bw v 8)
  have d := nz_b (b := bw v 0)
  rw [k_cb (by omega) (by omega) (by omega)]
  show (F_X7_countBytes_5 _ v x (k + 3 + 1) (0 + nzb (bw v 24)) 16).bind _ = _
  rw [k_cb (by omega) (by omega) (by omega)]
  show (F_X7_countBytes_5 _ v x (k + 2 + 1) (0 + nzb (bw v 24) + nzb (bw v 16)) 8).bind _ = _
  rw [k_cb (by omega) (by omega) (by omega)]
  show (F_X7_countBytes_5 _ v x (k + 1 + 1) (0 + nzb (bw v 24) + nzb (bw v 16) + nzb (bw v 8)) 0).bind _ = _
  rw [k_cb (by omega) (by omega) (by omega)]
  show some (0 + nzb (bw v 24) + nzb (bw v 16) + nzb (bw v 8) + nzb (bw v 0)) = _
  unfold cw; rw [Int.zero_add]
theorem k_ab {v s : Int} {k : Nat} {t : Tb} (h : s = 24 ∨ s = 16 ∨ s = 8 ∨ s = 0) (h0 : 0 ≤ t.1) (h1 : t.1 + nzb (bw v s.toNat) ≤ 600) : F_X5_addBytes_3 z 0 v (k + 1) s (A5 x t) = F_X5_addBytes_3 z 0 v k (s + (-8)) (A5 x (ag (bw v s.toNat) t)) := by
  show (if s < 0 then _ else _) = _
  rw [if_neg (by omega), ckI_t (by omega) (by omega), bw_c h]
  unfold ag
  unfold nzb at h1
  by_cases q : bw v s.toNat = 0
  · rw [if_pos q, if_pos q, ckR_t (by omega) (by omega)]
  · rw [if_neg q] at h1
    rw [if_neg q, if_neg q, A5_0, if_neg (by omega), ckI_t h0 (by omega), sbind]
    have e : (wI (A5 x t) 25 0 t.1.toNat (bw v s.toNat)).1 5 0 0 = t.1 := by
      rw [wI_pj, pj_C (by decide), A5_0]
    rw [e, ckR_t (by omega) (by omega), sbind, ckR_t (by omega) (by omega), A5_w]
theorem k_addBytes (hz : 50000 ≤ z) {v : Int} {t : Tb} (h0 : 0 ≤ t.1) (h1 : t.1 + cw v ≤ 600) : F_X5_addBytes z 0 v (A5 x t) = some (A5 x (aw v t)) := by
  unfold F_X5_addBytes
  obtain ⟨k, rfl⟩ : ∃ k, z = k + 5 := ⟨z - 5, by omega⟩
  have a := nz_b (b := bw v 24)
  have b := nz_b (b := bw v 16)
  have c := nz_b (b := bw v 8)
  have d := nz_b (b := bw v 0)
  unfold cw at h1
  rw [k_ab (by omega) h0 (by show t.1 + nzb (bw v 24) ≤ 600; omega)]
  show (F_X5_addBytes_3 _ 0 v (k + 3 + 1) 16 (A5 x (ag (bw v 24) t))).bind _ = _
  rw [k_ab (by omega) (by rw [ag_1]; omega) (by rw [ag_1]; show t.1 + nzb (bw v 24) + nzb (bw v 16) ≤ 600; omega)]
  show (F_X5_addBytes_3 _ 0 v (k + 2 + 1) 8 (A5 x (ag (bw v 16) (ag (bw v 24) t)))).bind _ = _
  rw [k_ab (by omega) (by rw [ag_1, ag_1]; omega) (by rw [ag_1, ag_1]; show t.1 + nzb (bw v 24) + nzb (bw v 16) + nzb (bw v 8) ≤ 600; omega)]
  show (F_X5_addBytes_3 _ 0 v (k + 1 + 1) 0 (A5 x (ag (bw v 8) (ag (bw v 16) (ag (bw v 24) t))))).bind _ = _
  rw [k_ab (by omega) (by rw [ag_1, ag_1, ag_1]; omega) (by rw [ag_1, ag_1, ag_1]; show t.1 + nzb (bw v 24) + nzb (bw v 16) + nzb (bw v 8) + nzb (bw v 0) ≤ 600; omega)]
  rfl
/-- the byte at k of five words -/
def by5 (a b c d e : Int) (k : Int) : Int := bw (if 4 ≤ k then (if 8 ≤ k then (if 12 ≤ k then (if 16 ≤ k then e else d) else c) else b) else a) (24 - 8 * (k % 4)).toNat
theorem e_byteOf {a b c d e k : Int} (k0 : 0 ≤ k) (k1 : k < 20) : F_X8_byteOf z a b c d e k x = some (by5 a b c d e k) := by
  have h : ∀ u : Int, F_X8_byteOf_45 z k u x = some (bw u (24 - 8 * (k % 4)).toNat) := by
    intro u
    unfold F_X8_byteOf_45
    rw [ckM_t k0 (by omega), ckR_t (by omega) (by omega), ckR_t (by omega) (by omega), ckI_t (by omega) (by omega), biand255]; rfl
  unfold F_X8_byteOf by5
  simp only [h]
  split <;> (try split) <;> (try split) <;> (try split) <;> rfl
theorem e_cnt (hz : 50000 ≤ z) {a b c d e : Int} : F_X8_append_11 z 0 a b c d e x z 0 0 = some (cw a + cw b + cw c + cw d + cw e) := by
  have key : Tt (F_X8_append_11 z 0 a b c d e x z 0 0) (fun v => v = fo (fun i u => u + nzb (by5 a b c d e i)) 20 0) := by
    refine loopU (fun k i (s : Int) => F_X8_append_11 z 0 a b c d e x k s i) 20 (fun i s => 0 ≤ i ∧ i ≤ 20 ∧ (0 ≤ s ∧ s ≤ i) ∧ s = fo (fun i u => u + nzb (by5 a b c d e i)) i.toNat 0) _ ?_ ?_ z 0 0 (by omega) (by omega) ⟨by omega, by omega, by omega, rfl⟩
    · rintro k s i hN ⟨i0, i1, hs, rfl⟩
      refine Tt.of (v := fo (fun i u => u + nzb (by5 a b c d e i)) i.toNat 0) (if_pos hN) ?_
      rw [show i = 20 by omega]; rfl
    · rintro k s i hN ⟨i0, i1, hs, e0⟩
      have hn := nz_b (b := by5 a b c d e i)
      refine Or.inl ⟨s + nzb (by5 a b c d e i), ?_, by omega, by omega, by omega, by rw [fo_s i0, ← e0]⟩
      show (if (20 : Int) ≤ i then _ else _) = _
      rw [if_neg (by omega), e_byteOf i0 (by omega), sbind]
      unfold nzb
      by_cases q : by5 a b c d e i = 0
      · rw [if_pos q, if_pos q, ckR_t (by omega) (by omega), ckR_t (by omega) (by omega)]
      · rw [if_neg q, if_neg q, ckR_t (by omega) (by omega), ckR_t (by omega) (by omega)]
  rw [Tt.eq key]
  congr 1
  show 0 + nzb (bw a 24) + nzb (bw a 16) + nzb (bw a 8) + nzb (bw a 0) + nzb (bw b 24) + nzb (bw b 16) + nzb (bw b 8) + nzb (bw b 0) + nzb (bw c 24) + nzb (bw c 16) + nzb (bw c 8) + nzb (bw c 0) + nzb (bw d 24) + nzb (bw d 16) + nzb (bw d 8) + nzb (bw d 0) + nzb (bw e 24) + nzb (bw e 16) + nzb (bw e 8) + nzb (bw e 0) = _
  unfold cw; omega
def a20 (a b c d e : Int) (t : Tb) : Tb := fo (fun i u => ag (by5 a b c d e i) u) 20 t
theorem a20_e {a b c d e : Int} {t : Tb} : a20 a b c d e t = aw e (aw d (aw c (aw b (aw a t)))) := rfl
theorem fo_le {p : Int → Int} {t : Tb} : ∀ (n k : Nat), k ≤ n → (fo (fun i u => ag (p i) u) k t).1 ≤ (fo (fun i u => ag (p i) u) n t).1 := by
  intro n
  induction n with
  | zero => intro k h; rw [show k = 0 by omega]; exact Int.le_refl _
  | succ n ih =>
    intro k h
    by_cases q : k = n + 1
    · rw [q]; exact Int.le_refl _
    · have := ih k (by omega)
      show _ ≤ (ag (p n) (fo (fun i u => ag (p i) u) n t)).1
      rw [ag_1]
      have := nz_b (b := p n)
      omega
theorem e_add20 (hz : 50000 ≤ z) {a b c d e : Int} {t : Tb} (h0 : 0 ≤ t.1) (h1 : (a20 a b c d e t).1 ≤ 600) : F_X8_append_80 z 0 a b c d e z 0 (A8 x t) = some (A8 x (a20 a b c d e t)) := by
  refine Tt.eq ?_
  refine loopU (fun k i (s : Mm) => F_X8_append_80 z 0 a b c d e k i s) 20 (fun i s => 0 ≤ i ∧ i ≤ 20 ∧ s = A8 x (fo (fun i u => ag (by5 a b c d e i) u) i.toNat t)) _ ?_ ?_ z 0 _ (by omega) (by omega) ⟨by omega, by omega, rfl⟩
  · rintro k s i hN ⟨i0, i1, rfl⟩
    refine Tt.of (v := A8 x (fo (fun i u => ag (by5 a b c d e i) u) i.toNat t)) (if_pos hN) ?_
    rw [show i = 20 by omega]; rfl
  · rintro k s i hN ⟨i0, i1, rfl⟩
    refine Or.inl ⟨_, ?_, by omega, by omega, rfl⟩
    have g0 := fo_le (p := by5 a b c d e) (t := t) i.toNat 0 (by omega)
    have g1 := fo_le (p := by5 a b c d e) (t := t) 20 (i + 1).toNat (by omega)
    rw [fo_s i0] at g1
    rw [fo_s i0]
    generalize fo (fun i u => ag (by5 a b c d e i) u) i.toNat t = s at *
    have g0' : t.1 ≤ s.1 := g0
    have g1' : (ag (by5 a b c d e i) s).1 ≤ 600 := Int.le_trans g1 h1
    show (if (20 : Int) ≤ i then _ else _) = _
    rw [if_neg (by omega), e_byteOf i0 (by omega), sbind]
    by_cases q : by5 a b c d e i = 0
    · rw [if_pos q, ckR_t (by omega) (by omega)]
      unfold ag; rw [if_pos q]
    · unfold ag at g1' ⊢
      rw [if_neg q] at g1' ⊢
      have g1'' : s.1 + 1 ≤ 600 := g1'
      rw [if_neg q, A8_0, ckI_t (by omega) (by omega), sbind]
      have e1 : (wI (A8 x s) 26 0 s.1.toNat (by5 a b c d e i)).1 8 0 2 = s.1 := by
        rw [wI_pj, pj_C (by decide), A8_0]
      rw [e1, ckR_t (by omega) (by omega), sbind, ckR_t (by omega) (by omega), A8_w]
def AB (s t : Tb) : Prop := s.1 = t.1 ∧ 0 ≤ t.1 ∧ ∀ k : Int, 0 ≤ k → k < t.1 → s.2 k.toNat = t.2 k.toNat ∧ 1 ≤ t.2 k.toNat ∧ t.2 k.toNat ≤ 255
theorem AB_g {s t : Tb} {b : Int} (h : AB s t) (b0 : 0 ≤ b) (b1 : b ≤ 255) : AB (ag b s) (ag b t) := by
  obtain ⟨h1, h2, h3⟩ := h
  unfold ag
  by_cases q : b = 0
  · rw [if_pos q, if_pos q]; exact ⟨h1, h2, h3⟩
  · rw [if_neg q, if_neg q]
    refine ⟨by show s.1 + 1 = t.1 + 1; omega, by show 0 ≤ t.1 + 1; omega, fun k k0 k1 => ?_⟩
    have k1' : k < t.1 + 1 := k1
    show up s.2 s.1.toNat b k.toNat = up t.2 t.1.toNat b k.toNat ∧ 1 ≤ up t.2 t.1.toNat b k.toNat ∧ up t.2 t.1.toNat b k.toNat ≤ 255
    rw [h1]
    by_cases e : k = t.1
    · rw [up_e e, up_e e]; omega
    · rw [up_i k0 h2 e, up_i k0 h2 e]; exact h3 k k0 (by omega)
theorem AB_w {s t : Tb} {v : Int} (h : AB s t) : AB (aw v s) (aw v t) := AB_g (AB_g (AB_g (AB_g h bw_b.1 bw_b.2) bw_b.1 bw_b.2) bw_b.1 bw_b.2) bw_b.1 bw_b.2
theorem p_append (hz : 50000 ≤ z) (h : Inv x) (a b c d e : Int) : Pr [sS] (F_X7_append z 0 a b c d e) (F_X8_append z 0 a b c d e) x := by
  have hT := h.2.2.2.2.1
  have na : ∀ v : Int, 0 ≤ cw v ∧ cw v ≤ 4 := fun v => by
    have a := nz_b (b := bw v 24)
    have b := nz_b (b := bw v 16)
    have c := nz_b (b := bw v 8)
    have d := nz_b (b := bw v 0)
    unfold cw; omega
  have n1 := na a
  have n2 := na b
  have n3 := na c
  have n4 := na d
  have n5 := na e
  by_cases q : x.1 8 0 2 + (cw a + cw b + cw c + cw d + cw e) ≤ 600
  · have hx5 : x = A5 x (x.1 5 0 0, x.1 25 0) := by
      unfold A5
      show x = pj (pj x 25 0 (x.1 25 0)) 5 0 (up (x.1 5 0) 0 (x.1 5 0 0))
      rw [pj_id]
      have : up (x.1 5 0) 0 (x.1 5 0 0) = x.1 5 0 := by
        funext k; unfold up; split
        · rename_i w; rw [w]
        · rfl
      rw [this, pj_id]
    have hAB : AB (aw e (aw d (aw c (aw b (aw a (x.1 5 0 0, x.1 25 0)))))) (aw e (aw d (aw c (aw b (aw a (x.1 8 0 2, x.1 26 0)))))) := by
      refine AB_w (AB_w (AB_w (AB_w (AB_w ⟨hT.1, hT.2.1.1, hT.2.2⟩))))
    have l5 : (aw e (aw d (aw c (aw b (aw a (x.1 5 0 0, x.1 25 0)))))).1 = x.1 8 0 2 + (cw a + cw b + cw c + cw d + cw e) := by
      rw [aw_1, aw_1, aw_1, aw_1, aw_1]
      show x.1 5 0 0 + _ + _ + _ + _ + _ = _
      rw [hT.1]; omega
    have e7 : F_X7_append z 0 a b c d e x = some (.inl (x.1 8 0 2 + (cw a + cw b + cw c + cw d + cw e)), A5 x (aw e (aw d (aw c (aw b (aw a (x.1 5 0 0, x.1 25 0))))))) := by
      unfold F_X7_append
      rw [k_countBytes hz, sbind, k_countBytes hz, sbind, ckR_t (by omega) (by omega), k_countBytes hz, sbind, ckR_t (by omega) (by omega), k_countBytes hz, sbind, ckR_t (by omega) (by omega), k_countBytes hz, sbind, ckR_t (by omega) (by omega), ckR_t (by rw [hT.1]; have := hT.2.1; omega) (by rw [hT.1]; omega), if_pos (by rw [hT.1]; exact q)]
      have hL := hT.2.1
      have h5 := hT.1
      have s0 : F_X5_addBytes z 0 a x = some (A5 x (aw a (x.1 5 0 0, x.1 25 0))) := by
        have := k_addBytes (z := z) (x := x) (v := a) (t := (x.1 5 0 0, x.1 25 0)) hz (by show 0 ≤ x.1 5 0 0; omega) (by show x.1 5 0 0 + cw a ≤ 600; omega)
        rw [← hx5] at this; exact this
      rw [s0, sbind, k_addBytes hz (by rw [aw_1]; show 0 ≤ x.1 5 0 0 + cw a; omega) (by rw [aw_1]; show x.1 5 0 0 + cw a + cw b ≤ 600; omega), sbind, k_addBytes hz (by rw [aw_1, aw_1]; show 0 ≤ x.1 5 0 0 + cw a + cw b; omega) (by rw [aw_1, aw_1]; show x.1 5 0 0 + cw a + cw b + cw c ≤ 600; omega), sbind, k_addBytes hz (by rw [aw_1, aw_1, aw_1]; show 0 ≤ x.1 5 0 0 + cw a + cw b + cw c; omega) (by rw [aw_1, aw_1, aw_1]; show x.1 5 0 0 + cw a + cw b + cw c + cw d ≤ 600; omega), sbind, k_addBytes hz (by rw [aw_1, aw_1, aw_1, aw_1]; show 0 ≤ x.1 5 0 0 + cw a + cw b + cw c + cw d; omega) (by rw [aw_1, aw_1, aw_1, aw_1]; show x.1 5 0 0 + cw a + cw b + cw c + cw d + cw e ≤ 600; omega), sbind, A5_0, l5]
    generalize hs : aw e (aw d (aw c (aw b (aw a (x.1 5 0 0, x.1 25 0))))) = s at *
    have l8 : (a20 a b c d e (x.1 8 0 2, x.1 26 0)).1 = x.1 8 0 2 + (cw a + cw b + cw c + cw d + cw e) := by
      rw [a20_e, ← hAB.1, l5]
    have f8 : ∀ C j, C ≠ 5 → C ≠ 25 → (A5 x s).1 C j = x.1 C j := fun C j w1 w2 => by unfold A5; rw [pj_C w1, pj_C w2]
    have hF5 : Fo (fun o => o = 105 ∨ o = 125 ∨ o = 108 ∨ o = 126) x (A5 x s) := by
      unfold A5; refine Fg.pj (Fg.pj Fg.rf ?_) ?_
      · exact Or.inr (Or.inl (own_8 (by omega)))
      · exact Or.inl (own_8 (by omega))
    have t2 : (th (A5 x s) 0).1 8 0 2 = x.1 8 0 2 := by rw [th_k (by decide), f8 8 0 (by decide) (by decide)]
    have t26 : (th (A5 x s) 0).1 26 0 = x.1 26 0 := by rw [th_C (by decide), f8 26 0 (by decide) (by decide)]
    have hx8 : th (A5 x s) 0 = A8 (th (A5 x s) 0) (x.1 8 0 2, x.1 26 0) := by
      unfold A8
      show _ = pj (pj _ 26 0 (x.1 26 0)) 8 0 (up _ 2 (x.1 8 0 2))
      rw [← t26, pj_id, ← t2]
      have : up ((th (A5 x s) 0).1 8 0) 2 ((th (A5 x s) 0).1 8 0 2) = (th (A5 x s) 0).1 8 0 := by
        funext k; unfold up; split
        · rename_i w; rw [w]
        · rfl
      rw [this, pj_id]
    have e8 : F_X8_append z 0 a b c d e (A5 x s) = some (x.1 8 0 2 + (cw a + cw b + cw c + cw d + cw e), A8 (th (A5 x s) 0) (a20 a b c d e (x.1 8 0 2, x.1 26 0))) := by
      unfold F_X8_append F_X8_append_68
      have hL := hT.2.1
      have e20 := e_add20 (z := z) (x := th (A5 x s) 0) (a := a) (b := b) (c := c) (d := d) (e := e) (t := (x.1 8 0 2, x.1 26 0)) hz hL.1 (by rw [l8]; exact q)
      rw [← hx8] at e20
      rw [sbind, th_w, e_cnt hz, sbind, t2, ckR_t (by omega) (by omega), if_neg (by omega), e_fails1, sbind, it0, e20, sbind, A8_0, l8]
    have hA : AB s (a20 a b c d e (x.1 8 0 2, x.1 26 0)) := hAB
    have lA : (a20 a b c d e (x.1 8 0 2, x.1 26 0)).1 ≤ 600 := by rw [l8]; exact q
    generalize a20 a b c d e (x.1 8 0 2, x.1 26 0) = t at *
    have h8 : ∀ k, k ≠ 0 → k ≠ 2 → (A8 (th (A5 x s) 0) t).1 8 0 k = x.1 8 0 k := fun k k0 k2 => by
      unfold A8; rw [pj_s, up_n k2, th_k k0, f8 8 0 (by decide) (by decide)]
    have hF8 : Fo (fun o => o = 105 ∨ o = 125 ∨ o = 108 ∨ o = 126) x (A8 (th (A5 x s) 0) t) := by
      unfold A8 th; refine Fg.pj (Fg.pj (Fg.pj hF5 ?_) ?_) ?_
      · exact Or.inr (Or.inr (Or.inl (own_8 (by omega))))
      · exact Or.inr (Or.inr (Or.inr (own_8 (by omega))))
      · exact Or.inr (Or.inr (Or.inl (own_8 (by omega))))
    refine ⟨_, _, _, _, e7, e8, Inv_tx h hF8 (h8 12 (by decide) (by decide)) (h8 13 (by decide) (by decide)) ?_, ?_⟩
    · have g5 : (A8 (th (A5 x s) 0) t).1 5 0 0 = s.1 := by
        unfold A8; rw [pj_C (by decide), pj_C (by decide), th_C (by decide), A5_0]
      have g25 : (A8 (th (A5 x s) 0) t).1 25 0 = s.2 := by
        unfold A8; rw [pj_C (by decide), pj_C (by decide), th_C (by decide)]; unfold A5; rw [pj_C (by decide), pj_s]
      have g26 : (A8 (th (A5 x s) 0) t).1 26 0 = t.2 := by
        unfold A8; rw [pj_C (by decide), pj_s]
      unfold TX
      rw [g5, g25, g26, A8_0]
      exact ⟨hA.1, ⟨hA.2.1, lA⟩, hA.2.2⟩
    · have : (A8 (th (A5 x s) 0) t).1 8 0 0 = 0 := by unfold A8; rw [pj_s, up_n (by decide), th_0]
      rw [this]; exact Ok.v
  · have hL := hT.2.1
    refine Pr.get h (y := .inr sS) ?_ (b := 0) (t := 1) ?_ (Ok.x rfl (by decide))
    · unfold F_X7_append
      rw [k_countBytes hz, sbind, k_countBytes hz, sbind, ckR_t (by omega) (by omega), k_countBytes hz, sbind, ckR_t (by omega) (by omega), k_countBytes hz, sbind, ckR_t (by omega) (by omega), k_countBytes hz, sbind, ckR_t (by omega) (by omega), ckR_t (by rw [hT.1]; omega) (by rw [hT.1]; omega), if_neg (by rw [hT.1]; exact q)]
    · unfold F_X8_append F_X8_append_68
      rw [sbind, th_w, e_cnt hz, sbind, th_k (by decide), ckR_t (by omega) (by omega), if_pos (by omega), e_fails0, sbind, it1, th_th]
end
