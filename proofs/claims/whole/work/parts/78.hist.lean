/-! The history. -/
def Zr (r : Nat → Int) : Prop := ∀ k : Nat, 5366 ≤ k → r k = 0
theorem zr_up {r : Nat → Int} (h : Zr r) {i v : Int} (h1 : i < 5366) (h0 : 0 ≤ i) : Zr (up r i.toNat v) := fun k hk => by
  rw [up_n (by omega)]; exact h k hk
theorem zr_qdr {r : Nat → Int} (h : Zr r) {d : Int} (hb : qkc r ≤ 40) : Zr (qdr r d) := fun k hk => by
  unfold qdr qdi
  rw [if_neg (by omega), if_neg (by omega)]; exact h k hk
theorem zr_qad {r : Nat → Int} (h : Zr r) {a b f v c : Int} (h0 : 0 ≤ qkc r) (h1 : qkc r < 40) : Zr (qad r a b f v c) := by
  unfold qad
  refine zr_up (zr_up (zr_up (zr_up (zr_up (zr_up (zr_up h ?_ ?_) ?_ ?_) ?_ ?_) ?_ ?_) ?_ ?_) ?_ ?_) ?_ ?_ <;> omega
theorem zr_qob {r : Nat → Int} (h : Zr r) {a b f v c : Int} (hb : Wb r) : Zr (qob r a b f v c) := by
  have hk := hb.2.2.2.2
  unfold qob
  split
  · exact zr_qad (zr_qdr h (by omega)) (by rw [qkc_qdr]; omega) (by rw [qkc_qdr]; omega)
  · exact zr_qad h (by omega) (by omega)
theorem zr_qaa {r : Nat → Int} (h : Zr r) {c n : Int} (n0 : 0 ≤ n) (n1 : n < 60) : Zr (qaa r c n) := fun k hk => by
  unfold qaa qai
  rw [if_neg (by omega), up_n (by omega)]; exact h k hk
theorem zr_qkl {r : Nat → Int} (h : Zr r) {n : Int} (h60 : qct r ≤ 60) : Zr (qkl r n) := fun k hk => by
  unfold qkl qki
  rw [if_neg (by omega)]; exact h k hk
theorem zr_qen {r : Nat → Int} (h : Zr r) {c : Int} (c0 : 0 ≤ c) (c1 : c < 5) : Zr (qen r c) := fun k hk => by
  unfold qen
  by_cases q : 866 + 900 * c ≤ (k : Int) ∧ (k : Int) < 866 + 900 * c + 900
  · rw [if_pos q]
  · rw [if_neg q]; exact zr_up (zr_up (zr_up h (by omega) (by omega)) (by omega) (by omega)) (by omega) (by omega) k hk
theorem zr_m3 {r : Nat → Int} {c : Int} (h : Zr r) (hb : Wb r) : Zr (qm3 c (r, 0)).1 := by
  have h60 := hb.2.2.2.1
  have hf := hb.2.1
  have hM0 : MI r 0 (r, 0) := ⟨Sm.rf, hb.2.2.2.2, by omega, by omega⟩
  have hA : ∀ k : Nat, (k : Int) ≤ qct r → Zr (fo (gAq c) k (r, 0)).1 := by
    intro k
    induction k with
    | zero => intro _; exact h
    | succ k ih =>
      intro hk
      have hM := hM0.kfA (c := c) hb k (by omega)
      have hZ := ih (by omega)
      show Zr (gAq c k (fo (gAq c) k (r, 0))).1
      unfold gAq oA
      split
      · split
        · exact zr_qob hZ (hM.wb hb)
        · split
          · exact zr_qaa hZ (by omega) (by omega)
          · exact zr_qob hZ (hM.wb hb)
      · exact hZ
  have hM1 := hM0.kfA (c := c) hb (qct r).toNat (by omega)
  have h1 := hA (qct r).toNat (by omega)
  have hF : ∀ (s : Sp) (B n : Int), MI r B s → Zr s.1 → 0 ≤ n → n < 60 → ∀ k : Nat, (k : Int) ≤ 6 → Zr (fo (gFq c n) k s).1 := by
    intro s B n hM hZ n0 n1 k
    induction k with
    | zero => intro _; exact hZ
    | succ k ih =>
      intro hk
      have hM' := hM.kfF (c := c) (n := n) hb n0 n1 k (by omega)
      have hZ' := ih (by omega)
      show Zr (gFq c n k (fo (gFq c n) k s)).1
      unfold gFq oF
      split
      · split
        · exact zr_qob hZ' (hM'.wb hb)
        · exact zr_up hZ' (by omega) (by omega)
      · exact hZ'
  have hC : ∀ k : Nat, (k : Int) ≤ qct r → Zr (fo (oC c) k (fo (gAq c) (qct r).toNat (r, 0))).1 := by
    intro k
    induction k with
    | zero => intro _; exact h1
    | succ k ih =>
      intro hk
      have hM := hM1.kfC (c := c) hb k (by omega)
      have hZ := ih (by omega)
      show Zr (oC c k (fo (oC c) k (fo (gAq c) (qct r).toNat (r, 0)))).1
      generalize fo (oC c) k (fo (gAq c) (qct r).toNat (r, 0)) = s at hM hZ ⊢
      unfold oC
      split
      · exact hZ
      · split
        · exact zr_qob hZ (hM.wb hb)
        · rw [hM.1.fc]; exact hF _ _ k hM hZ (by omega) (by omega) _ (by omega)
  have hM2 := hM1.kfC (c := c) hb (qct r).toNat (by omega)
  have h2 := hC (qct r).toNat (by omega)
  have hR : ∀ k : Nat, (k : Int) ≤ qct r → Zr (fo (gR c) k (fo (oC c) (qct r).toNat (fo (gAq c) (qct r).toNat (r, 0)))).1 := by
    intro k
    induction k with
    | zero => intro _; exact h2
    | succ k ih =>
      intro hk
      have hM := hM2.kfR (c := c) hb k (by omega)
      have hZ := ih (by omega)
      show Zr (gR c k _).1
      unfold gR oR
      split
      · split
        · exact hZ
        · split
          · exact zr_qkl hZ (by rw [hM.1.ct]; omega)
          · exact zr_qob hZ (hM.wb hb)
      · exact hZ
  exact hR (qct r).toNat (by omega)
/-- an entry of the model's history -/
def entq (h : Nat → Int) (i : Int) : Nat → Int := fun k => if k < 5366 then h (5366 * i.toNat + k) else 0
def hsh (h : Nat → Int) : Nat → Int := fun k => if k < 37562 then h (k + 5366) else h k
def hst (h : Nat → Int) (e : Int) (r : Nat → Int) : Nat → Int := fun k => if 5366 * e ≤ (k : Int) ∧ (k : Int) < 5366 * e + 5366 then r (k - 5366 * e.toNat) else h k
def hrec (h : Nat → Int) (e : Int) (r : Nat → Int) : Nat → Int := if e = 8 then hst (hsh h) 7 r else hst h e r
def enx (e : Int) : Int := if e = 8 then 8 else e + 1
def hsi (h : Nat → Int) (i : Int) : Nat → Int := fun k => if (k : Int) < i - 5366 then h (k + 5366) else h k
theorem hsi_s {h : Nat → Int} {i : Int} (i0 : 5366 ≤ i) : up (hsi h i) (i - 5366).toNat (h i.toNat) = hsi h (i + 1) := by
  funext k
  unfold up hsi
  by_cases e : k = (i - 5366).toNat
  · rw [if_pos e, if_pos (by omega)]; congr 1; omega
  · rw [if_neg e]
    by_cases q : (k : Int) < i - 5366
    · rw [if_pos q, if_pos (by omega)]
    · rw [if_neg q, if_neg (by omega)]
def hti (h : Nat → Int) (e : Int) (r : Nat → Int) (i : Int) : Nat → Int := fun k => if 5366 * e ≤ (k : Int) ∧ (k : Int) < 5366 * e + i then r (k - 5366 * e.toNat) else h k
theorem hti_s {h r : Nat → Int} {e i : Int} (e0 : 0 ≤ e) (i0 : 0 ≤ i) : up (hti h e r i) (5366 * e + i).toNat (r i.toNat) = hti h e r (i + 1) := by
  funext k
  unfold up hti
  by_cases q : k = (5366 * e + i).toNat
  · rw [if_pos q, if_pos (by omega)]; congr 1; omega
  · rw [if_neg q]
    by_cases w : 5366 * e ≤ (k : Int) ∧ (k : Int) < 5366 * e + i
    · rw [if_pos w, if_pos (by omega)]
    · rw [if_neg w, if_neg (by omega)]
theorem e_record51 (z : Nat) (hz : 50000 ≤ z) (x : Mm) (h0 : 0 ≤ x.1 8 0 12) (h1 : x.1 8 0 12 < 8) : F_X8_record_51 z 0 x = some (pj (pj x 28 0 (hst (x.1 28 0) (x.1 8 0 12) (x.1 27 0))) 8 0 (up (x.1 8 0) 12 (x.1 8 0 12 + 1))) := by
  unfold F_X8_record_51
  have key : F_X8_record_53 z 0 z 0 x = some (pj x 28 0 (hst (x.1 28 0) (x.1 8 0 12) (x.1 27 0))) := by
    refine Tt.eq ?_
    refine loopU (fun k i (w : Mm) => F_X8_record_53 z 0 k i w) 5366 (fun i w => 0 ≤ i ∧ i ≤ 5366 ∧ w = pj x 28 0 (hti (x.1 28 0) (x.1 8 0 12) (x.1 27 0) i)) _ ?_ ?_ z 0 x (by omega) (by omega) ⟨by omega, by omega, ?_⟩
    · rintro k w i hN ⟨i0, i1, rfl⟩
      refine Tt.of (v := pj x 28 0 (hti (x.1 28 0) (x.1 8 0 12) (x.1 27 0) i)) (if_pos hN) ?_
      rw [show i = 5366 by omega]; rfl
    · rintro k w i hN ⟨i0, i1, rfl⟩
      refine Or.inl ⟨pj x 28 0 (hti (x.1 28 0) (x.1 8 0 12) (x.1 27 0) (i + 1)), ?_, by omega, by omega, rfl⟩
      show (if (5366 : Int) ≤ i then _ else _) = _
      rw [if_neg (by omega), pj_C (show (8 : Nat) ≠ 28 by decide), ckR_t (by omega) (by omega), ckR_t (by omega) (by omega), ckI_t (by omega) (by omega), ckI_t (by omega) (by omega), sbind, wI_pj, pj_s, pj_pj, pj_C (show (27 : Nat) ≠ 28 by decide), hti_s h0 i0, ckR_t (by omega) (by omega)]
    · have e : hti (x.1 28 0) (x.1 8 0 12) (x.1 27 0) 0 = x.1 28 0 := by
        funext k; unfold hti; rw [if_neg (by omega)]
      rw [e, pj_id]
  rw [key, sbind, pj_C (show (8 : Nat) ≠ 28 by decide), ckR_t (by omega) (by omega), sbind, wI_pj, pj_C (show (8 : Nat) ≠ 28 by decide)]
theorem e_record (z : Nat) (hz : 50000 ≤ z) (x : Mm) (h0 : 0 ≤ x.1 8 0 12) (h1 : x.1 8 0 12 ≤ 8) : F_X8_record z 0 x = some (pj (pj x 28 0 (hrec (x.1 28 0) (x.1 8 0 12) (x.1 27 0))) 8 0 (up (x.1 8 0) 12 (enx (x.1 8 0 12)))) := by
  unfold F_X8_record hrec enx
  by_cases q : x.1 8 0 12 = 8
  · rw [if_pos q, if_pos q, if_pos q]
    have key : F_X8_record_13 z 0 z 5366 x = some (pj x 28 0 (hsh (x.1 28 0))) := by
      refine Tt.eq ?_
      refine loopU (fun k i (w : Mm) => F_X8_record_13 z 0 k i w) 42928 (fun i w => 5366 ≤ i ∧ i ≤ 42928 ∧ w = pj x 28 0 (hsi (x.1 28 0) i)) _ ?_ ?_ z 5366 x (by omega) (by omega) ⟨by omega, by omega, ?_⟩
      · rintro k w i hN ⟨i0, i1, rfl⟩
        refine Tt.of (v := pj x 28 0 (hsi (x.1 28 0) i)) (if_pos hN) ?_
        have e : hsi (x.1 28 0) i = hsh (x.1 28 0) := by
          funext k; unfold hsi hsh
          by_cases w : k < 37562
          · rw [if_pos w, if_pos (by omega)]
          · rw [if_neg w, if_neg (by omega)]
        rw [e]
      · rintro k w i hN ⟨i0, i1, rfl⟩
        refine Or.inl ⟨pj x 28 0 (hsi (x.1 28 0) (i + 1)), ?_, by omega, by omega, rfl⟩
        show (if (42928 : Int) ≤ i then _ else _) = _
        have er : hsi (x.1 28 0) i i.toNat = x.1 28 0 i.toNat := by
          unfold hsi; rw [if_neg (by omega)]
        rw [if_neg (by omega), ckR_t (by omega) (by omega), ckI_t (by omega) (by omega), ckI_t (by omega) (by omega), sbind, wI_pj, pj_s, pj_pj, er, hsi_s i0, ckR_t (by omega) (by omega)]
      · have e : hsi (x.1 28 0) 5366 = x.1 28 0 := by
          funext k; unfold hsi; rw [if_neg (by omega)]
        rw [e, pj_id]
    rw [key, sbind, pj_C (show (8 : Nat) ≠ 28 by decide), ckR_t (by omega) (by omega), sbind, wI_pj, pj_C (show (8 : Nat) ≠ 28 by decide), q]
    have e2 := e_record51 z hz (pj (pj x 28 0 (hsh (x.1 28 0))) 8 0 (up (x.1 8 0) 12 (8 - 1))) (by rw [pj_s, up_s]; omega) (by rw [pj_s, up_s]; omega)
    rw [e2, pj_s, up_s, up_up, pj_C (show (28 : Nat) ≠ 8 by decide), pj_s, pj_C (show (27 : Nat) ≠ 8 by decide), pj_C (show (27 : Nat) ≠ 28 by decide), pj_cm (C := 8) (C' := 28) (by omega), pj_pj, pj_pj]
    rfl
  · rw [if_neg q, if_neg q, if_neg q]; exact e_record51 z hz x h0 (by omega)
theorem ent_hst {h r : Nat → Int} {e i : Int} (hr : Zr r) (e0 : 0 ≤ e) (i0 : 0 ≤ i) (i1 : i ≤ e) : entq (hst h e r) i = if i = e then r else entq h i := by
  funext k
  by_cases q : i = e
  · rw [if_pos q]; unfold entq hst
    by_cases w : k < 5366
    · rw [if_pos w, if_pos (by omega)]; congr 1; rw [q]; omega
    · rw [if_neg w]; exact (hr k (by omega)).symm
  · rw [if_neg q]; unfold entq hst
    by_cases w : k < 5366
    · rw [if_pos w, if_neg (by omega), if_pos w]
    · rw [if_neg w, if_neg w]
theorem ent_hsh {h : Nat → Int} {i : Int} (i0 : 0 ≤ i) (i1 : i < 7) : entq (hsh h) i = entq h (i + 1) := by
  funext k
  unfold entq hsh
  by_cases w : k < 5366
  · rw [if_pos w, if_pos (by omega), if_pos w]; congr 1; omega
  · rw [if_neg w, if_neg w]
theorem ent_hrec {h r : Nat → Int} {e i : Int} (hr : Zr r) (e0 : 0 ≤ e) (e1 : e ≤ 8) (i0 : 0 ≤ i) (i1 : i < enx e) : entq (hrec h e r) i = if i = enx e - 1 then r else if e = 8 then entq h (i + 1) else entq h i := by
  unfold enx at i1
  unfold hrec enx
  by_cases q : e = 8
  · rw [if_pos q] at i1
    rw [if_pos q, if_pos q, if_pos q, ent_hst hr (by omega) i0 (by omega)]
    by_cases w : i = 7
    · rw [if_pos w, if_pos (by omega)]
    · rw [if_neg w, if_neg (by omega), ent_hsh i0 (by omega)]
  · rw [if_neg q] at i1
    rw [if_neg q, if_neg q, if_neg q, ent_hst hr e0 i0 (by omega)]
    by_cases w : i = e
    · rw [if_pos w, if_pos (by omega)]
    · rw [if_neg w, if_neg (by omega)]
/-- the class's history and the model's -/
def HI (x : Mm) (h : Nat → Int) (e : Int) : Prop := x.1 2 0 0 = e ∧ (0 ≤ e ∧ e ≤ 8) ∧ (0 ≤ x.1 2 0 1 ∧ x.1 2 0 1 < 8) ∧ ∀ i : Int, 0 ≤ i → i < e → Rs x (2 + ((x.1 2 0 1 + 8 - e + i) % 8).toNat) (entq h i)
theorem fo_o {x y : Mm} {p : Nat → Prop} (hF : Fo p x y) {C j : Nat} (h1 : ¬ (C = 6 ∨ C = 20 ∨ C = 4 ∨ C = 21 ∨ C = 22 ∨ C = 30 ∨ C = 1 ∨ C = 24)) (h2 : ¬ (C = 0 ∨ C = 23)) (h3 : C ≠ 3) (hp : ¬ p (100 + C)) : y.1 C j = x.1 C j ∧ y.2 C j = x.2 C j := hF C j (by show ¬ p (own C j); rw [own_o h1 h2 h3]; exact hp)
theorem fo_pj {x : Mm} {p : Nat → Prop} {C j : Nat} {f : Nat → Int} (hp : p (own C j)) : Fo p x (pj x C j f) := Fg.rf.pj hp
theorem HI_fr {x y : Mm} {h : Nat → Int} {e : Int} {p : Nat → Prop} (hH : HI x h e) (hF : Fo p x y) (hp : ∀ o, 2 ≤ o → o < 10 → ¬ p o) (h2 : ¬ p 102) : HI y h e := by
  obtain ⟨h1, he, hn, hr⟩ := hH
  have e2 := fo_o (C := 2) (j := 0) hF (by omega) (by omega) (by omega) h2
  refine ⟨by rw [e2.1]; exact h1, he, by rw [e2.1]; exact hn, fun i i0 i1 => ?_⟩
  rw [e2.1]
  exact Rs_fr (hr i i0 i1) hF (hp _ (by omega) (by omega))
theorem own_2 {j : Nat} : own 2 j = 102 := own_o (by omega) (by omega) (by omega)
theorem Rs_2 {x : Mm} {j k : Nat} {s f : Nat → Int} (h : Rs x j s) (hj : j < 100) : Rs (pj x 2 k f) j s := Rs_fr (p := fun o => o = 102) h (fo_pj own_2) (by omega)
theorem k_push {z : Nat} (hz : 50000 ≤ z) {x : Mm} {h r : Nat → Int} {e : Int} (hH : HI x h e) (hr : Rs x 0 r) (hZ : Zr r) : Tt (F_X2_push z 0 0 x) (fun y => HI y (hrec h e r) (enx e) ∧ Rs y 0 r ∧ Fo (fun o => (2 ≤ o ∧ o < 10) ∨ o = 102) x y) := by
  obtain ⟨h1, he, hn, hs⟩ := hH
  unfold F_X2_push
  rw [ckI_t hn.1 (by omega)]
  obtain ⟨y, e1, hy, hF⟩ := k_copyS (z := z) hz (v0 := 2 + (x.1 2 0 1).toNat) (by omega) hr
  have e2 := fo_o (C := 2) (j := 0) hF (by omega) (by omega) (by omega) (by omega)
  rw [e1, sbind, e2.1, ckR_t (by omega) (by omega), ckM_t (by omega) (by omega), sbind, wI_pj, pj_s, e2.1, up_n (by decide), h1, ckR_t (by omega) (by omega), sbind, wI_pj, pj_s, pj_pj]
  have hmin : min (e + 1) 8 = enx e := by unfold enx; split <;> omega
  have hen : 0 ≤ enx e ∧ enx e ≤ 8 ∧ (e = 8 → enx e = 8) ∧ (e ≠ 8 → enx e = e + 1) := by unfold enx; split <;> omega
  rw [hmin]
  refine Tt.ret ⟨⟨?_, ⟨hen.1, hen.2.1⟩, ?_, fun i i0 i1 => ?_⟩, Rs_2 (Rs_fr hr hF (by omega)) (by omega), (hF.mono (fun C j w => by show _ ∨ _; omega)).pj ?_⟩
  · rw [pj_s, up_s]
  · rw [pj_s, up_n (by decide), up_s]; omega
  · rw [pj_s, up_n (by decide), up_s, ent_hrec hZ he.1 he.2 i0 i1]
    refine Rs_2 ?_ (by omega)
    by_cases q : i = enx e - 1
    · rw [if_pos q]
      have ep : 2 + (((x.1 2 0 1 + 1) % 8 + 8 - enx e + i) % 8).toNat = 2 + (x.1 2 0 1).toNat := by omega
      rw [ep]; exact hy
    · rw [if_neg q]
      by_cases q8 : e = 8
      · rw [if_pos q8]
        have e8 := hen.2.2.1 q8
        have ep : 2 + (((x.1 2 0 1 + 1) % 8 + 8 - enx e + i) % 8).toNat = 2 + ((x.1 2 0 1 + 8 - e + (i + 1)) % 8).toNat := by omega
        rw [ep]; exact Rs_fr (hs (i + 1) (by omega) (by omega)) hF (by omega)
      · rw [if_neg q8]
        have e8 := hen.2.2.2 q8
        have ep : 2 + (((x.1 2 0 1 + 1) % 8 + 8 - enx e + i) % 8).toNat = 2 + ((x.1 2 0 1 + 8 - e + i) % 8).toNat := by omega
        rw [ep]; exact Rs_fr (hs i (by omega) (by omega)) hF (by omega)
  · show _ ∨ own 2 0 = 102; exact Or.inr own_2
theorem k_pop {z : Nat} (hz : 50000 ≤ z) {x : Mm} {h : Nat → Int} {e : Int} (hH : HI x h e) (he0 : 0 < e) : Tt (F_X2_popInto z 0 0 x) (fun y => HI y h (e - 1) ∧ Rs y 0 (entq h (e - 1)) ∧ Fo (fun o => o = 0 ∨ o = 102) x y) := by
  obtain ⟨h1, he, hn, hs⟩ := hH
  unfold F_X2_popInto
  rw [ckR_t (by omega) (by omega), ckR_t (by omega) (by omega), ckM_t (by omega) (by omega), sbind, wI_pj, pj_s, up_n (by decide), h1, ckR_t (by omega) (by omega), sbind, wI_pj, pj_s, pj_pj, pj_s, up_n (by decide), up_s, ckI_t (by omega) (by omega)]
  have hR := hs (e - 1) (by omega) (by omega)
  have ep : 2 + ((x.1 2 0 1 + 8 - e + (e - 1)) % 8).toNat = 2 + ((x.1 2 0 1 + 8 - 1) % 8).toNat := by omega
  rw [ep] at hR
  obtain ⟨y, e1, hy, hF⟩ := k_copyS (z := z) hz (v0 := 0) (by omega) (Rs_2 (k := 0) (f := up (up (x.1 2 0) 1 ((x.1 2 0 1 + 8 - 1) % 8)) 0 (e - 1)) hR (by omega))
  have e2 := fo_o (C := 2) (j := 0) hF (by omega) (by omega) (by omega) (by omega)
  rw [e1, sbind]
  refine Tt.ret ⟨⟨?_, ⟨by omega, by omega⟩, ?_, fun i i0 i1 => ?_⟩, hy, ?_⟩
  · rw [e2.1, pj_s, up_s]
  · rw [e2.1, pj_s, up_n (by decide), up_s]; omega
  · rw [e2.1, pj_s, up_n (by decide), up_s]
    have ep : 2 + (((x.1 2 0 1 + 8 - 1) % 8 + 8 - (e - 1) + i) % 8).toNat = 2 + ((x.1 2 0 1 + 8 - e + i) % 8).toNat := by omega
    rw [ep]
    exact Rs_fr (Rs_2 (hs i i0 (by omega)) (by omega)) hF (by omega)
  · exact (fo_pj (p := fun o => o = 0 ∨ o = 102) (Or.inr own_2)).tr (hF.mono (fun C j w => Or.inl w))
