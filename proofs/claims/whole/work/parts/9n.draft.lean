/-! The State under construction while a text is read. -/
def DR (X : Mm) (r : Nat → Int) : Prop := (Wb r ∧ Wt r ∧ Wr r ∧ Wv r) ∧ (∀ n : Int, 0 ≤ n → n < 60 → r (191 + n).toNat = (if n < qct r then 1 else 0)) ∧ (∀ n m : Int, 1 ≤ n → n < qct r → 1 ≤ m → m < qct r → n ≠ m → qpa r n = qpa r m → qlb r n ≠ qlb r m) ∧ (RH X 10 r ∧ RN X 10 r ∧ RB (X.2 0 30) (X.1 23 30) r) ∧ (∀ c : Int, 0 ≤ c → c < 5 → qln r c = -1 ∧ X.1 3 (50 + c.toNat) 0 = 0) ∧ qkc r = 0 ∧ X.1 1 10 0 = 0
section
variable {z : Nat} {x y X X' W : Mm} {r r' : Nat → Int}
theorem DR.al (h : DR X r) {n : Int} (n0 : 0 ≤ n) (n1 : n < 60) : qal r n = decide (n < qct r) := by
  unfold qal; rw [h.2.1 n n0 n1]
  by_cases q : n < qct r
  · rw [if_pos q, decide_eq_true q]; rfl
  · rw [if_neg q, decide_eq_false q]; rfl
theorem DR.Rs (h : DR X r) : Rs X 10 r := by
  have hal := fun n n0 n1 => h.al (n := n) n0 n1
  obtain ⟨⟨hb, ht, hr, hv⟩, h1, h2, ⟨hH, hN, hB⟩, h5, h6, h7⟩ := h
  have h60 := hb.2.2.2.1
  have hnl : ∀ c : Int, 0 ≤ c → c < 5 → qhl r c = false := fun c c0 c1 => by
    unfold qhl; rw [(h5 c c0 c1).1]; decide
  refine ⟨⟨hb, ht, ⟨fun n n0 n1 => ?_, fun n n0 n1 => ?_, fun n n0 n1 _ => ?_, fun n m n0 n1 m0 m1 hne _ _ => h2 n m n0 n1 m0 m1 hne⟩, hr, hv, fun c c0 c1 w => ?_, fun i i0 i1 => ?_⟩, hH, hN, hB, fun c c0 c1 => ⟨?_, fun w => ?_⟩, ?_, fun i w i0 i1 => ?_⟩
  · rw [h1 n n0 n1]; split <;> omega
  · rw [hal n (by omega) n1, decide_eq_false (by omega)]
  · have := ht.2.2 n n0 n1
    rw [hal _ (by omega) (by omega), decide_eq_true (by omega)]
  · rw [hnl c c0 c1] at w; cases w
  · omega
  · rw [hnl c c0 c1]; exact (h5 c c0 c1).2
  · rw [hnl c c0 c1] at w; cases w
  · rw [h6]; exact h7
  · omega
/-- a token read -/
theorem DR.tok (h : DR X r) (e1 : ∀ C j, C ≠ 5 → X'.1 C j = X.1 C j) (e2 : X'.2 = X.2) : DR X' r := by
  obtain ⟨hw, h1, h2, ⟨hH, hN, hB⟩, h5, h6, h7⟩ := h
  refine ⟨hw, h1, h2, ⟨RH_fr hH (e1 _ _ (by decide)) (e1 _ _ (by decide)), RN_fr hN (e1 _ _ (by decide)) (by rw [e2]) (e1 _ _ (by decide)) (e1 _ _ (by decide)) (by rw [e2]), ?_⟩, fun c c0 c1 => ?_, h6, ?_⟩
  · rw [e2, e1 23 30 (by decide)]; exact hB
  · rw [e1 3 _ (by decide)]; exact h5 c c0 c1
  · rw [e1 1 10 (by decide)]; exact h7
theorem qwk_pa (hb : Wb r) (ht : Wt r) (hp : ∀ k : Int, 0 ≤ k → k < qct r → qpa r' k = qpa r k) {m : Int} (hm : 0 ≤ m) : ∀ (t : Nat) (n : Int), n < qct r → qwk r' m t n = qwk r m t n := by
  intro t
  induction t with
  | zero => intro n _; rfl
  | succ t ih =>
    intro n hn
    show (if n ≤ m then n else qwk r' m t (qpa r' n)) = (if n ≤ m then n else qwk r m t (qpa r n))
    by_cases q : n ≤ m
    · rw [if_pos q, if_pos q]
    · have hp' := ht.2.2 n (by omega) hn
      rw [if_neg q, if_neg q, hp n (by omega) hn, ih _ (by omega)]
theorem win_pa (hb : Wb r) (ht : Wt r) (hp : ∀ k : Int, 0 ≤ k → k < qct r → qpa r' k = qpa r k) {m n : Int} (hm : 0 ≤ m) (hn : n < qct r) : win r' n m = win r n m := by
  unfold win; rw [qwk_pa hb ht hp hm 64 n hn]
/-- the head of the row changed -/
theorem DR.head (h : DR X r) (E : ∀ i : Int, 0 ≤ i → i ≠ 1 → i ≠ 2 → ¬ (5 ≤ i ∧ i < 11) → r' i.toNat = r i.toNat) (hf : qfc r ≤ qfc r' ∧ qfc r' ≤ 6) (hc : 0 ≤ qcc r' ∧ qcc r' ≤ 5) (hH : RH X' 10 r') (e1 : ∀ C j, C ≠ 6 → C ≠ 20 → X'.1 C j = X.1 C j) (e2 : X'.2 = X.2) : DR X' r' := by
  obtain ⟨⟨hb, ht, hr, hv⟩, h1, h2, ⟨_, hN, hB⟩, h5, h6, h7⟩ := h
  have h60 := hb.2.2.2.1
  have hfc := hb.2.1
  have ect : qct r' = qct r := E 3 (by omega) (by omega) (by omega) (by omega)
  have etk : qtk r' = qtk r := E 0 (by omega) (by omega) (by omega) (by omega)
  have ekc : qkc r' = qkc r := E 4 (by omega) (by omega) (by omega) (by omega)
  have epa : ∀ n : Int, 0 ≤ n → qpa r' n = qpa r n := fun n n0 => E (11 + n) (by omega) (by omega) (by omega) (by omega)
  have elb : ∀ n : Int, 0 ≤ n → qlb r' n = qlb r n := fun n n0 => E (71 + n) (by omega) (by omega) (by omega) (by omega)
  have erc : ∀ n : Int, 0 ≤ n → r' (131 + n).toNat = r (131 + n).toNat := fun n n0 => E (131 + n) (by omega) (by omega) (by omega) (by omega)
  have etv : ∀ n f : Int, 0 ≤ n → 0 ≤ f → qtv r' n f = qtv r n f := fun n f n0 f0 => E (251 + 6 * n + f) (by omega) (by omega) (by omega) (by omega)
  have eal : ∀ n : Int, 0 ≤ n → r' (191 + n).toNat = r (191 + n).toNat := fun n n0 => E (191 + n) (by omega) (by omega) (by omega) (by omega)
  have eln : ∀ c : Int, 0 ≤ c → qln r' c = qln r c := fun c c0 => E (611 + 3 * c) (by omega) (by omega) (by omega) (by omega)
  refine ⟨⟨?_, ?_, ?_, ?_⟩, ?_, ?_, ⟨hH, ?_, ?_⟩, ?_, ?_, ?_⟩
  · unfold Wb; rw [ect, etk, ekc]; exact ⟨hb.1, by omega, hc, hb.2.2.2⟩
  · refine ⟨by rw [epa 0 (by omega)]; exact ht.1, by rw [elb 0 (by omega)]; exact ht.2.1, fun n n0 n1 => ?_⟩
    rw [epa n (by omega), elb n (by omega)]; exact ht.2.2 n n0 (by omega)
  · intro n n0 n1; rw [erc n n0]; exact hr n n0 n1
  · intro n f n0 n1 f0 f1; rw [etv n f n0 (by omega)]; exact hv n f n0 n1 (by omega) f1
  · intro n n0 n1; rw [eal n n0, ect]; exact h1 n n0 n1
  · intro n m n0 n1 m0 m1 hne
    rw [epa n (by omega), epa m (by omega), elb n (by omega), elb m (by omega)]
    exact h2 n m n0 (by omega) m0 (by omega) hne
  · have hN' := RN_fr (y := X') hN (e1 _ _ (by decide) (by decide)) (by rw [e2]) (e1 _ _ (by decide) (by decide)) (e1 _ _ (by decide) (by decide)) (by rw [e2])
    refine ⟨hN'.1.trans ect.symm, fun n n0 n1 => ?_, fun n n0 n1 => ?_⟩
    · rw [ect] at n1
      obtain ⟨g1, g2, g3⟩ := hN'.2.1 n n0 n1
      exact ⟨g1.trans (epa n n0).symm, g2.trans (elb n n0).symm, fun m m0 m1 => by rw [g3 m m0 m1, win_pa hb ht (fun k k0 _ => epa k k0) m0 n1]⟩
    · rw [hN'.2.2 n n0 n1, ect]; unfold qrc; rw [erc n n0]
  · rw [e2, e1 23 30 (by decide) (by decide)]
    refine ⟨fun n n0 n1 => ?_, fun n f n0 n1 f0 f1 => ?_⟩
    · rw [hB.1 n n0 n1, ect]; unfold qal; rw [eal n n0]
    · rw [hB.2 n f n0 n1 f0 f1, etv n f n0 f0]
  · intro c c0 c1; rw [eln c c0, e1 3 _ (by decide) (by decide)]; exact h5 c c0 c1
  · rw [ekc]; exact h6
  · rw [e1 1 10 (by decide) (by decide)]; exact h7
/-- a rule read -/
def rF (r : Nat → Int) (u : Int) : Nat → Int := up (up r (5 + qfc r).toNat u) (1 : Int).toNat (qfc r + 1)
theorem DR.field (h : DR X r) (hf : qfc r < 6) {u : Int} : DR (pj (pj X 20 10 (up (X.1 20 10) (qfc r).toNat u)) 6 10 (up (X.1 6 10) 1 (qfc r + 1))) (rF r u) := by
  have hb := h.1.1
  have hfc := hb.2.1
  have hH := h.2.2.2.1.1
  have e1 : qfc (rF r u) = qfc r + 1 := by unfold qfc rF; exact up_s
  have E : ∀ i : Int, 0 ≤ i → i ≠ 1 → i ≠ 5 + qfc r → rF r u i.toNat = r i.toNat := fun i i0 i1 i2 => by
    unfold rF; rw [up_i i0 (by omega) i1, up_i i0 (by omega) i2]
  have ecc : qcc (rF r u) = qcc r := E 2 (by omega) (by omega) (by omega)
  refine h.head (fun i i0 i1 i2 i3 => E i i0 i1 (by omega)) (by omega) (by rw [ecc]; exact hb.2.2.1) ?_ (fun C j w1 w2 => by rw [pj_C w1, pj_C w2]) rfl
  refine ⟨?_, ?_, ?_, fun g g0 g1 => ?_⟩
  · rw [pj_s, up_n (by decide)]; exact hH.1.trans (E 0 (by omega) (by omega) (by omega)).symm
  · rw [pj_s, up_s, e1]
  · rw [pj_s, up_n (by decide), ecc]; exact hH.2.2.1
  · rw [pj_C (by decide), pj_s]
    rw [e1] at g1
    by_cases q : g = qfc r
    · rw [up_e q, q]
      unfold qru rF
      rw [up_i (by omega) (by omega) (by omega), up_e rfl]
    · rw [up_i g0 (by omega) q, hH.2.2.2 g g0 (by omega)]
      exact (E (5 + g) (by omega) (by omega) (by omega)).symm
/-- a client read -/
def rC (r : Nat → Int) : Nat → Int := up r (2 : Int).toNat (qcc r + 1)
theorem DR.client (h : DR X r) (hc : qcc r < 5) : DR (pj X 6 10 (up (X.1 6 10) 2 (qcc r + 1))) (rC r) := by
  have hb := h.1.1
  have hcc := hb.2.2.1
  have hfc := hb.2.1
  have hH := h.2.2.2.1.1
  have e1 : qcc (rC r) = qcc r + 1 := by unfold qcc rC; exact up_s
  have E : ∀ i : Int, 0 ≤ i → i ≠ 2 → rC r i.toNat = r i.toNat := fun i i0 i1 => up_i i0 (by omega) i1
  have efc : qfc (rC r) = qfc r := E 1 (by omega) (by omega)
  refine h.head (fun i i0 i1 i2 i3 => E i i0 i2) (by omega) (by omega) ?_ (fun C j w1 w2 => by rw [pj_C w1]) rfl
  refine ⟨?_, ?_, ?_, fun g g0 g1 => ?_⟩
  · rw [pj_s, up_n (by decide)]; exact hH.1.trans (E 0 (by omega) (by omega)).symm
  · rw [pj_s, up_n (by decide), efc]; exact hH.2.1
  · rw [pj_s, up_s, e1]
  · rw [efc] at g1
    rw [pj_C (by decide), hH.2.2.2 g g0 g1]
    exact (E (5 + g) (by omega) (by omega)).symm
/-- a value read -/
def rV (r : Nat → Int) (n f v : Int) : Nat → Int := up r (251 + 6 * n + f).toNat v
theorem DR.value (h : DR X r) {n f v : Int} (n0 : 0 ≤ n) (n1 : n < qct r) (f0 : 0 ≤ f) (f1 : f < qfc r) : DR (pj X 23 30 (up (X.1 23 30) (n * 6 + f).toNat v)) (rV r n f v) := by
  obtain ⟨⟨hb, ht, hr, hv⟩, h1, h2, ⟨hH, hN, hB⟩, h5, h6, h7⟩ := h
  have h60 := hb.2.2.2.1
  have hfc := hb.2.1
  have E : ∀ i : Int, 0 ≤ i → i ≠ 251 + 6 * n + f → rV r n f v i.toNat = r i.toNat := fun i i0 i1 => up_i i0 (by omega) i1
  have E1 : ∀ i : Int, 0 ≤ i → ¬ (251 ≤ i ∧ i < 611) → rV r n f v i.toNat = r i.toNat := fun i i0 i1 => E i i0 (by omega)
  have ect : qct (rV r n f v) = qct r := E1 3 (by omega) (by omega)
  have etk : qtk (rV r n f v) = qtk r := E1 0 (by omega) (by omega)
  have efc : qfc (rV r n f v) = qfc r := E1 1 (by omega) (by omega)
  have ecc : qcc (rV r n f v) = qcc r := E1 2 (by omega) (by omega)
  have ekc : qkc (rV r n f v) = qkc r := E1 4 (by omega) (by omega)
  have epa : ∀ n' : Int, 0 ≤ n' → n' < 60 → qpa (rV r n f v) n' = qpa r n' := fun n' a b => E1 (11 + n') (by omega) (by omega)
  have elb : ∀ n' : Int, 0 ≤ n' → n' < 60 → qlb (rV r n f v) n' = qlb r n' := fun n' a b => E1 (71 + n') (by omega) (by omega)
  have erc : ∀ n' : Int, 0 ≤ n' → n' < 60 → rV r n f v (131 + n').toNat = r (131 + n').toNat := fun n' a b => E1 (131 + n') (by omega) (by omega)
  have eal : ∀ n' : Int, 0 ≤ n' → n' < 60 → rV r n f v (191 + n').toNat = r (191 + n').toNat := fun n' a b => E1 (191 + n') (by omega) (by omega)
  have etv : ∀ n' f' : Int, 0 ≤ n' → n' < 60 → 0 ≤ f' → f' < 6 → qtv (rV r n f v) n' f' = if n' = n ∧ f' = f then v else qtv r n' f' := fun n' f' a b c d => by
    by_cases q : n' = n ∧ f' = f
    · rw [if_pos q, q.1, q.2]; exact up_e rfl
    · rw [if_neg q]; exact E _ (by omega) (by omega)
  have eln : ∀ c : Int, 0 ≤ c → qln (rV r n f v) c = qln r c := fun c c0 => E1 (611 + 3 * c) (by omega) (by omega)
  refine ⟨⟨?_, ?_, ?_, ?_⟩, ?_, ?_, ⟨?_, ?_, ?_⟩, ?_, ?_, ?_⟩
  · unfold Wb; rw [ect, etk, ekc, efc, ecc]; exact hb
  · refine ⟨by rw [epa 0 (by omega) (by omega)]; exact ht.1, by rw [elb 0 (by omega) (by omega)]; exact ht.2.1, fun m m0 m1 => ?_⟩
    rw [epa m (by omega) (by omega), elb m (by omega) (by omega)]; exact ht.2.2 m m0 (by omega)
  · intro m m0 m1; rw [erc m m0 m1]; exact hr m m0 m1
  · intro m g m0 m1 g0 g1
    rw [efc] at g0
    rw [etv m g m0 m1 (by omega) g1, if_neg (by omega)]; exact hv m g m0 m1 g0 g1
  · intro m m0 m1; rw [eal m m0 m1, ect]; exact h1 m m0 m1
  · intro m k m0 m1 k0 k1 hne
    rw [ect] at m1 k1
    rw [epa m (by omega) (by omega), epa k (by omega) (by omega), elb m (by omega) (by omega), elb k (by omega) (by omega)]
    exact h2 m k m0 m1 k0 k1 hne
  · refine ⟨?_, ?_, ?_, fun g g0 g1 => ?_⟩
    · rw [pj_C (by decide), etk]; exact hH.1
    · rw [pj_C (by decide), efc]; exact hH.2.1
    · rw [pj_C (by decide), ecc]; exact hH.2.2.1
    · rw [efc] at g1
      rw [pj_C (by decide), hH.2.2.2 g g0 g1]; exact (E1 (5 + g) (by omega) (by omega)).symm
  · refine ⟨by rw [pj_C (by decide), ect]; exact hN.1, fun m m0 m1 => ?_, fun m m0 m1 => ?_⟩
    · rw [ect] at m1
      obtain ⟨g1, g2, g3⟩ := hN.2.1 m m0 m1
      rw [pj_C (by decide), pj_C (by decide), pj_2, epa m m0 (by omega), elb m m0 (by omega)]
      exact ⟨g1, g2, fun k k0 k1 => by rw [g3 k k0 k1, win_pa hb ht (fun k k0 k1 => epa k k0 (by omega)) k0 m1]⟩
    · rw [pj_2, hN.2.2 m m0 m1, ect]
      by_cases q : m < qct r
      · unfold qrc; rw [erc m m0 (by omega)]
      · rw [decide_eq_false q]; rfl
  · rw [pj_2, pj_s]
    refine ⟨fun m m0 m1 => ?_, fun m g m0 m1 g0 g1 => ?_⟩
    · rw [hB.1 m m0 m1, ect]
      by_cases q : m < qct r
      · unfold qal; rw [eal m m0 (by omega)]
      · rw [decide_eq_false q]; rfl
    · rw [etv m g m0 m1 g0 g1]
      by_cases q : m = n ∧ g = f
      · rw [if_pos q, up_e (by rw [q.1, q.2])]
      · rw [if_neg q, up_i (by omega) (by omega) (by omega)]; exact hB.2 m g m0 m1 g0 g1
  · intro c c0 c1; rw [eln c c0, pj_C (by decide)]; exact h5 c c0 c1
  · rw [ekc]; exact h6
  · rw [pj_C (by decide)]; exact h7
end
