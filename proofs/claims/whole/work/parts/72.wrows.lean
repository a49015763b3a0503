/-! What always holds of a row. -/
def Wa (r : Nat → Int) : Prop := (∀ n : Int, 0 ≤ n → n < 60 → r (191 + n).toNat = 0 ∨ r (191 + n).toNat = 1) ∧ (∀ n : Int, qct r ≤ n → n < 60 → qal r n = false) ∧ (∀ n : Int, 1 ≤ n → n < qct r → qal r n = true → qal r (qpa r n) = true) ∧ (∀ n m : Int, 1 ≤ n → n < qct r → 1 ≤ m → m < qct r → n ≠ m → qal r n = true → qal r m = true → qpa r n = qpa r m → qlb r n ≠ qlb r m)
def Wr (r : Nat → Int) : Prop := ∀ n : Int, 0 ≤ n → n < 60 → r (131 + n).toNat = 0 ∨ r (131 + n).toNat = 1
def WL (r : Nat → Int) (c : Int) : Prop := qhl r c = true → (0 ≤ qln r c ∧ qln r c < qct r) ∧ (0 ≤ qle r c ∧ qle r c ≤ 20000) ∧ (qlx r c = 0 ∨ qlx r c = 1) ∧ Wc r c ∧ (∀ n f : Int, qct r ≤ n → n < 60 → 0 ≤ f → f < 6 → qnv r c n f = 0) ∧ (∀ n : Int, qct r ≤ n → n < 60 → qcp r c 0 n = false ∧ qcp r c 60 n = false ∧ qcp r c 120 n = false)
def WK (r : Nat → Int) : Prop := ∀ i : Int, 0 ≤ i → i < qkc r → (0 ≤ qkp r i 1 ∧ qkp r i 1 < qct r) ∧ (qkp r i 0 = 0 → 0 ≤ qkp r i 2 ∧ qkp r i 2 < qfc r)
def Wq (r : Nat → Int) : Prop := Wb r ∧ Wt r ∧ Wa r ∧ Wr r ∧ Wv r ∧ (∀ c : Int, 0 ≤ c → c < 5 → WL r c) ∧ WK r
theorem qff_none {p : Int → Bool} {k : Nat} {i : Int} (i0 : 0 ≤ i) (h : qff p k i = -1) : ∀ j, i ≤ j → j < i + (k : Int) → p j = false := by
  rcases qff_some (p := p) k i i0 with ⟨_, q⟩ | ⟨q, _, _⟩
  · exact q
  · omega
theorem Wa.So {r r1 : Nat → Int} (h : Wa r) (hb : Wb r) (ht : Wt r) (q : So r r1) : Wa r1 := by
  have h60 := hb.2.2.2.1
  have ep : ∀ n : Int, 0 ≤ n → n < 60 → qpa r1 n = qpa r n := fun n n0 n1 => q (11 + n) (by omega) (by omega) (by omega)
  have el : ∀ n : Int, 0 ≤ n → n < 60 → qlb r1 n = qlb r n := fun n n0 n1 => q (71 + n) (by omega) (by omega) (by omega)
  refine ⟨fun n n0 n1 => ?_, fun n n0 n1 => ?_, fun n n0 n1 hn => ?_, fun n m n0 n1 m0 m1 hnm hn hm hp => ?_⟩
  · rw [q (191 + n) (by omega) (by omega) (by omega)]; exact h.1 n n0 n1
  · rw [q.ct] at n0; rw [q.al (by omega) n1]; exact h.2.1 n n0 n1
  · rw [q.ct] at n1
    have := ht.2.2 n n0 n1
    rw [q.al (by omega) (by omega)] at hn
    rw [ep n (by omega) (by omega), q.al (by omega) (by omega)]; exact h.2.2.1 n n0 n1 hn
  · rw [q.ct] at n1 m1
    rw [q.al (by omega) (by omega)] at hn hm
    rw [ep n (by omega) (by omega), ep m (by omega) (by omega)] at hp
    rw [el n (by omega) (by omega), el m (by omega) (by omega)]
    exact h.2.2.2 n m n0 n1 m0 m1 hnm hn hm hp
theorem Wa.add {r : Nat → Int} {c n : Int} (h : Wa r) (hb : Wb r) (ht : Wt r) (n0 : 1 ≤ n) (n1 : n < qct r) (hp : qal r (qpa r n) = true) (hc : qcw r (qpa r n) (qlb r n) = -1) : Wa (qaa r c n) := by
  have h60 := hb.2.2.2.1
  have hS : Sm r (qaa r c n) := Sm_qaa (by omega) (by omega)
  have ha : ∀ m : Int, 0 ≤ m → m < 60 → qal (qaa r c n) m = (decide (m = n) || qal r m) := fun m m0 m1 => qal_qaa (by omega) m0 m1
  have hno : ∀ j : Int, 0 ≤ j → j < qct r → qal r j = true → qpa r j = qpa r n → qlb r j = qlb r n → False := by
    intro j j0 j1 h1 h2 h3
    have := qff_none (by omega) hc j j0 (by omega)
    rw [h1, decide_eq_true h2, decide_eq_true h3] at this; cases this
  refine ⟨fun m m0 m1 => ?_, fun m m0 m1 => ?_, fun m m0 m1 hm => ?_, fun p q p0 p1 q0 q1 hpq hp' hq' he => ?_⟩
  · unfold qaa qai
    rw [if_neg (by omega)]
    by_cases e : m = n
    · rw [up_e (by omega)]; exact Or.inr rfl
    · rw [up_i (by omega) (by omega) (by omega)]; exact h.1 m m0 m1
  · rw [hS.ct] at m0
    rw [ha m (by omega) m1, decide_eq_false (by omega), h.2.1 m m0 m1]; rfl
  · rw [hS.ct] at m1
    have hpm := ht.2.2 m m0 m1
    rw [ha m (by omega) (by omega)] at hm
    rw [hS.pa (by omega) (by omega), ha _ (by omega) (by omega)]
    by_cases e : m = n
    · subst e; rw [hp, Bool.or_true]
    · rw [decide_eq_false e, Bool.false_or] at hm
      rw [h.2.2.1 m m0 m1 hm, Bool.or_true]
  · rw [hS.ct] at p1 q1
    rw [ha p (by omega) (by omega)] at hp'
    rw [ha q (by omega) (by omega)] at hq'
    rw [hS.pa (by omega) (by omega), hS.pa (by omega) (by omega)] at he
    rw [hS.lb (by omega) (by omega), hS.lb (by omega) (by omega)]
    intro hl
    by_cases e : p = n
    · subst e
      rw [decide_eq_false (fun w => hpq w.symm), Bool.false_or] at hq'
      exact hno q (by omega) q1 hq' he.symm hl.symm
    · rw [decide_eq_false e, Bool.false_or] at hp'
      by_cases e2 : q = n
      · subst e2; exact hno p (by omega) p1 hp' he hl
      · rw [decide_eq_false e2, Bool.false_or] at hq'
        exact h.2.2.2 p q p0 p1 q0 q1 hpq hp' hq' he hl
theorem Wa.upv {r : Nat → Int} {i v : Int} (h : Wa r) (hb : Wb r) (ht : Wt r) (i0 : 251 ≤ i) (i1 : i < 611) : Wa (up r i.toNat v) := by
  have h60 := hb.2.2.2.1
  have hS : Sm r (up r i.toNat v) := Sm_up (by omega) (by omega)
  have ha : ∀ m : Int, 0 ≤ m → m < 60 → qal (up r i.toNat v) m = qal r m := fun m m0 m1 => qal_upv i0 m0 m1
  refine ⟨fun m m0 m1 => ?_, fun m m0 m1 => ?_, fun m m0 m1 hm => ?_, fun p q p0 p1 q0 q1 hpq hp' hq' he => ?_⟩
  · rw [up_i (by omega) (by omega) (by omega)]; exact h.1 m m0 m1
  · rw [hS.ct] at m0
    rw [ha m (by omega) m1]; exact h.2.1 m m0 m1
  · rw [hS.ct] at m1
    have hpm := ht.2.2 m m0 m1
    rw [ha m (by omega) (by omega)] at hm
    rw [hS.pa (by omega) (by omega), ha _ (by omega) (by omega)]; exact h.2.2.1 m m0 m1 hm
  · rw [hS.ct] at p1 q1
    rw [ha p (by omega) (by omega)] at hp'
    rw [ha q (by omega) (by omega)] at hq'
    rw [hS.pa (by omega) (by omega), hS.pa (by omega) (by omega)] at he
    rw [hS.lb (by omega) (by omega), hS.lb (by omega) (by omega)]
    exact h.2.2.2 p q p0 p1 q0 q1 hpq hp' hq' he
theorem Wa.kill {r : Nat → Int} {n : Int} (h : Wa r) (hb : Wb r) (ht : Wt r) (n0 : 0 ≤ n) : Wa (qkl r n) := by
  have h60 := hb.2.2.2.1
  have hS : Sm r (qkl r n) := Sm_qki n0 h60.2
  have ha : ∀ m : Int, 0 ≤ m → m < 60 → qal (qkl r n) m = (qal r m && !(decide (m < qct r) && win r m n)) := fun m m0 m1 => qal_qkl n0 m0 m1
  refine ⟨fun m m0 m1 => ?_, fun m m0 m1 => ?_, fun m m0 m1 hm => ?_, fun p q p0 p1 q0 q1 hpq hp' hq' he => ?_⟩
  · unfold qkl qki
    split
    · exact Or.inl rfl
    · exact h.1 m m0 m1
  · rw [hS.ct] at m0
    rw [ha m (by omega) m1, h.2.1 m m0 m1]; rfl
  · rw [hS.ct] at m1
    have hpm := ht.2.2 m m0 m1
    rw [ha m (by omega) (by omega), decide_eq_true m1, Bool.true_and, Bool.and_eq_true] at hm
    rw [hS.pa (by omega) (by omega), ha _ (by omega) (by omega), h.2.2.1 m m0 m1 hm.1, decide_eq_true (show qpa r m < qct r by omega), Bool.true_and, Bool.true_and]
    cases hw : win r (qpa r m) n
    · rfl
    · have := win_le hw
      have e := win_up hb ht n0 (show n < m by omega) m1
      rw [hw] at e
      rw [e] at hm; exact absurd hm.2 (by decide)
  · rw [hS.ct] at p1 q1
    rw [ha p (by omega) (by omega), Bool.and_eq_true] at hp'
    rw [ha q (by omega) (by omega), Bool.and_eq_true] at hq'
    rw [hS.pa (by omega) (by omega), hS.pa (by omega) (by omega)] at he
    rw [hS.lb (by omega) (by omega), hS.lb (by omega) (by omega)]
    exact h.2.2.2 p q p0 p1 q0 q1 hpq hp'.1 hq'.1 he
/-- conflicts -/
theorem WK.same {r r1 : Nat → Int} (h : WK r) (hk : qkc r ≤ 40) (e3 : qct r ≤ qct r1) (e1 : qfc r1 = qfc r) (q : ∀ i : Int, i = 4 ∨ (626 ≤ i ∧ i < 866) → r1 i.toNat = r i.toNat) : WK r1 := fun i i0 i1 => by
  have e : qkc r1 = qkc r := q 4 (Or.inl rfl)
  rw [e] at i1
  have ek : ∀ w : Int, 0 ≤ w → w < 6 → qkp r1 i w = qkp r i w := fun w w0 w1 => q _ (by omega)
  have := h i i0 i1
  rw [ek 1 (by omega) (by omega), ek 0 (by omega) (by omega), ek 2 (by omega) (by omega), e1]
  exact ⟨⟨this.1.1, by omega⟩, this.2⟩
theorem WK.drop {r : Nat → Int} {d : Int} (h : WK r) (hb : Wb r) (d0 : 0 ≤ d) : WK (qdr r d) := fun i i0 i1 => by
  have hS := Sm_qdr hb d0
  rw [qkc_qdr] at i1
  have ek : ∀ w : Int, 0 ≤ w → w < 6 → qkp (qdr r d) i w = if i < d then qkp r i w else qkp r (i + 1) w := fun w w0 w1 => qkp_qdr d0 i0 i1 w0 w1
  rw [ek 1 (by omega) (by omega), ek 0 (by omega) (by omega), ek 2 (by omega) (by omega), hS.ct, hS.fc]
  by_cases hi : i < d
  · rw [if_pos hi, if_pos hi, if_pos hi]; exact h i i0 (by omega)
  · rw [if_neg hi, if_neg hi, if_neg hi]; exact h (i + 1) (by omega) (by omega)
theorem WK.ad {r : Nat → Int} {a b f v c : Int} (h : WK r) (k0 : 0 ≤ qkc r) (k1 : qkc r < 40) (hb : 0 ≤ b ∧ b < qct r) (hf : a = 0 → 0 ≤ f ∧ f < qfc r) : WK (qad r a b f v c) := fun i i0 i1 => by
  have hS : Sm r (qad r a b f v c) := Sm_qad k0 k1
  obtain ⟨q, q0, q1, q2, _⟩ := qkp_qad (r := r) (e := a) (f := b) (g := f) (h := v) (i := c) k0 k1
  rw [qkc_qad] at i1
  rw [hS.ct, hS.fc]
  by_cases hi : i < qkc r
  · rw [q i 1 i0 hi (by omega) (by omega), q i 0 i0 hi (by omega) (by omega), q i 2 i0 hi (by omega) (by omega)]; exact h i i0 hi
  · have e : i = qkc r := by omega
    rw [e, q0, q1, q2]; exact ⟨hb, hf⟩
theorem WK.ob {r : Nat → Int} {a b f v c : Int} (h : WK r) (hw : Wb r) (hb : 0 ≤ b ∧ b < qct r) (hf : a = 0 → 0 ≤ f ∧ f < qfc r) : WK (qob r a b f v c) := by
  have hk := hw.2.2.2.2
  unfold qob
  by_cases q : qkc r = 40
  · rw [if_pos q]
    have hS := Sm_qdr (d := 0) hw (by omega)
    exact (h.drop hw (by omega)).ad (by rw [qkc_qdr]; omega) (by rw [qkc_qdr]; omega) (by rw [hS.ct]; exact hb) (by rw [hS.fc]; exact hf)
  · rw [if_neg q]; exact h.ad (by omega) (by omega) hb hf
/-- a merge keeps them -/
def MW (s : Sp) : Prop := Wa s.1 ∧ WK s.1
section
variable {r : Nat → Int} {B c n : Int} {s : Sp}
theorem MW.ob (h : MW s) (hM : MI r B s) (hb : Wb r) (ht : Wt r) {a b f v c : Int} (h1 : 0 ≤ b ∧ b < qct r) (h2 : a = 0 → 0 ≤ f ∧ f < qfc r) : MW (qob s.1 a b f v c, s.2 + 1) := ⟨h.1.So (hM.wb hb) (hM.wt hb ht) (So_qob (hM.wb hb)), h.2.ob (hM.wb hb) (by rw [hM.1.ct]; exact h1) (by rw [hM.1.fc]; exact h2)⟩
theorem MW.kA (h : MW s) (hM : MI r B s) (hb : Wb r) (ht : Wt r) (n0 : 1 ≤ n) (n1 : n < qct r) : MW (oA c n s) := by
  have h60 := hb.2.2.2.1
  have ec := hM.1.ct
  unfold oA
  by_cases q : qal s.1 (qpa s.1 n) = false
  · rw [if_pos q]; exact h.ob hM hb ht ⟨by omega, n1⟩ (fun w => absurd w (by decide))
  · rw [if_neg q]
    by_cases q2 : qcw s.1 (qpa s.1 n) (qlb s.1 n) = -1
    · rw [if_pos q2]
      exact ⟨h.1.add (hM.wb hb) (hM.wt hb ht) n0 (by omega) (by simpa using q) q2, h.2.same hM.2.1.2 (by show _ ≤ qct (qaa s.1 c n); rw [qct_qaa (by omega) (by omega)]; omega) (Sm_qaa (by omega) (by omega)).fc (fun i hi => qaa_k (by omega) (by omega) hi)⟩
    · rw [if_neg q2]; exact h.ob hM hb ht ⟨by omega, n1⟩ (fun w => absurd w (by decide))
theorem MW.kgF (h : MW s) (hM : MI r B s) (hb : Wb r) (ht : Wt r) (n0 : 0 ≤ n) (n1 : n < qct r) {f : Int} (f0 : 0 ≤ f) (f1 : f < qfc r) : MW (gFq c n f s) := by
  have h60 := hb.2.2.2.1
  have hf := hb.2.1
  unfold gFq oF
  split
  · split
    · exact h.ob hM hb ht ⟨by omega, n1⟩ (fun _ => ⟨f0, f1⟩)
    · exact ⟨h.1.upv (hM.wb hb) (hM.wt hb ht) (by omega) (by omega), h.2.same hM.2.1.2 (by show _ ≤ qct (up _ _ _); exact Int.le_of_eq (up_i (by omega) (by omega) (by omega)).symm) (up_i (by omega) (by omega) (by omega)) (fun i hi => up_i (by omega) (by omega) (by omega))⟩
  · exact h
theorem MW.kfF (h : MW s) (hM : MI r B s) (hb : Wb r) (ht : Wt r) (n0 : 0 ≤ n) (n1 : n < qct r) : ∀ k : Nat, (k : Int) ≤ qfc r → MW (fo (gFq c n) k s) := by
  have h60 := hb.2.2.2.1
  have hf := hb.2.1
  intro k
  induction k with
  | zero => intro _; exact h
  | succ k ih => intro hk; exact (ih (by omega)).kgF (hM.kfF hb n0 (by omega) k (by omega)) hb ht n0 n1 (by omega) (by omega)
theorem MW.kC (h : MW s) (hM : MI r B s) (hb : Wb r) (ht : Wt r) (n0 : 0 ≤ n) (n1 : n < qct r) : MW (oC c n s) := by
  have hf := hb.2.1
  unfold oC
  split
  · exact h
  · split
    · exact h.ob hM hb ht ⟨by omega, n1⟩ (fun w => absurd w (by decide))
    · rw [hM.1.fc]; exact h.kfF hM hb ht n0 n1 _ (by omega)
theorem MW.kR (h : MW s) (hM : MI r B s) (hb : Wb r) (ht : Wt r) (n0 : 0 ≤ n) (n1 : n < qct r) : MW (oR c n s) := by
  have h60 := hb.2.2.2.1
  have ec := hM.1.ct
  unfold oR
  split
  · exact h
  · split
    · exact ⟨h.1.kill (hM.wb hb) (hM.wt hb ht) n0, h.2.same hM.2.1.2 (Int.le_of_eq (Sm_qki n0 (by omega)).ct.symm) (Sm_qki n0 (by omega)).fc (fun i hi => qkl_k n0 (by omega) hi)⟩
    · exact h.ob hM hb ht ⟨by omega, n1⟩ (fun w => absurd w (by decide))
theorem MW.m3 (h : Wa r) (hK : WK r) (hb : Wb r) (ht : Wt r) (c0 : 0 ≤ c) (ha : qcp r c 120 0 = false) : MI r 1000 (qm3 c (r, 0)) ∧ MW (qm3 c (r, 0)) := by
  have h60 := hb.2.2.2.1
  have hM0 : MI r 0 (r, 0) := ⟨Sm.rf, hb.2.2.2.2, by omega, by omega⟩
  have hA : ∀ k : Nat, (k : Int) ≤ qct r → MW (fo (gAq c) k (r, 0)) := by
    intro k
    induction k with
    | zero => intro _; exact ⟨h, hK⟩
    | succ k ih =>
      intro hk
      have hM := hM0.kfA (c := c) hb k (by omega)
      show MW (gAq c k (fo (gAq c) k (r, 0)))
      unfold gAq
      split
      · rename_i q
        refine (ih (by omega)).kA hM hb ht ?_ (by omega)
        by_cases e : k = 0
        · subst e
          change (qcp r c 120 0 && _) = true at q
          rw [ha] at q; cases q
        · omega
      · exact ih (by omega)
  have hM1 := hM0.kfA (c := c) hb (qct r).toNat (by omega)
  have h1 := hA (qct r).toNat (by omega)
  have hC : ∀ k : Nat, (k : Int) ≤ qct r → MW (fo (oC c) k (fo (gAq c) (qct r).toNat (r, 0))) := by
    intro k
    induction k with
    | zero => intro _; exact h1
    | succ k ih => intro hk; exact (ih (by omega)).kC (hM1.kfC (c := c) hb k (by omega)) hb ht (by omega) (by omega)
  have hM2 := hM1.kfC (c := c) hb (qct r).toNat (by omega)
  have h2 := hC (qct r).toNat (by omega)
  have hR : ∀ k : Nat, (k : Int) ≤ qct r → MW (fo (gR c) k (fo (oC c) (qct r).toNat (fo (gAq c) (qct r).toNat (r, 0)))) := by
    intro k
    induction k with
    | zero => intro _; exact h2
    | succ k ih =>
      intro hk
      have hM := hM2.kfR (c := c) hb k (by omega)
      show MW (gR c k _)
      unfold gR
      split
      · exact (ih (by omega)).kR hM hb ht (by omega) (by omega)
      · exact ih (by omega)
  exact ⟨(hM2.kfR (c := c) hb (qct r).toNat (by omega)).w (by omega), hR (qct r).toNat (by omega)⟩
end
