/-! The model's functions neither read nor write a long. -/
section
variable {α β : Type} {L : Nat → Nat → Nat → BitVec 64}
abbrev nl (L : Nat → Nat → Nat → BitVec 64) (y : α × Mm) : α × Mm := (y.1, (y.2.1, L))
abbrev nm (L : Nat → Nat → Nat → BitVec 64) (y : Mm) : Mm := (y.1, L)
theorem nmb {γ : Type} (o : Option α) (f : α → β) (g : β → Option γ) : (o.map f).bind g = o.bind fun y => g (f y) := by cases o <;> rfl
theorem nbm {γ : Type} (o : Option α) (g : α → Option β) (f : β → γ) : (o.bind g).map f = o.bind fun y => (g y).map f := by cases o <;> rfl
theorem nim (c : Prop) [Decidable c] (A B : Option α) (f : α → β) : (if c then A else B).map f = if c then A.map f else B.map f := by split <;> rfl
theorem nkR (e : Int) (A : Option α) (f : α → β) : (ckR e A).map f = ckR e (A.map f) := nim _ _ _ _
theorem nkI (e : Int) (n : Nat) (A : Option α) (f : α → β) : (ckI e n A).map f = ckI e n (A.map f) := nim _ _ _ _
theorem nkZ (e : Int) (A : Option α) (f : α → β) : (ckZ e A).map f = ckZ e (A.map f) := nim _ _ _ _
theorem nkM (a b : Int) (A : Option α) (f : α → β) : (ckM a b A).map f = ckM a b (A.map f) := nim _ _ _ _
theorem nkC (a b c : Int) (n : Nat) (A : Option α) (f : α → β) : (ckC a b c n A).map f = ckC a b c n (A.map f) := nim _ _ _ _
theorem nkK (k : Nat) (A : Option α) (f : α → β) : (ckK k A).map f = ckK k (A.map f) := nim _ _ _ _
theorem nsm (a : α) (f : α → β) : (some a).map f = some (f a) := rfl
theorem nwI {x : Mm} {C j k : Nat} {v : Int} (g : Mm → Option β) : (some (wI (x.1, L) C j k v)).bind g = (some (wI x C j k v)).bind fun y => g (y.1, L) := rfl
theorem nwC {x : Mm} {C a b c d e : Nat} (g : Mm → Option β) : (some (wC (x.1, L) C a b c d e)).bind g = (some (wC x C a b c d e)).bind fun y => g (y.1, L) := rfl
theorem nbE {R : Type} (inj : R → β) (o : Option (α ⊕ R)) (g : α → Option β) {γ : Type} (f : β → γ) : (bndE inj o g).map f = bndE (fun r => f (inj r)) o (fun s => (g s).map f) := by
  rcases o with _ | s | r <;> rfl
end

theorem n_X8_thrown (L : Nat → Nat → Nat → BitVec 64) (z : Nat) (v0 : Nat) (x : Mm) : F_X8_thrown z v0 (x.1, L) = F_X8_thrown z v0 x := by
  rfl

theorem n_X8_in (L : Nat → Nat → Nat → BitVec 64) (z : Nat) (v0 : Int) (v1 : Int) (v2 : Int) (x : Mm) : F_X8_in z v0 v1 v2 (x.1, L) = F_X8_in z v0 v1 v2 x := by
  rfl

theorem n_X8_fails (L : Nat → Nat → Nat → BitVec 64) (z : Nat) (v0 : Nat) (v1 : Int) (v2 : Int) (x : Mm) : F_X8_fails z v0 v1 v2 (x.1, L) = (F_X8_fails z v0 v1 v2 x).map (nl L) := by
  unfold F_X8_fails
  simp only [nmb, nbm, nim, nkR, nkI, nkZ, nkM, nkC, nkK, nsm, nwI, nwC, nbE]

theorem n_X8_byteOf_45 (L : Nat → Nat → Nat → BitVec 64) (z : Nat) (v5 : Int) (u0 : Int) (x : Mm) : F_X8_byteOf_45 z v5 u0 (x.1, L) = F_X8_byteOf_45 z v5 u0 x := by
  rfl

theorem n_X8_byteOf (L : Nat → Nat → Nat → BitVec 64) (z : Nat) (v0 : Int) (v1 : Int) (v2 : Int) (v3 : Int) (v4 : Int) (v5 : Int) (x : Mm) : F_X8_byteOf z v0 v1 v2 v3 v4 v5 (x.1, L) = F_X8_byteOf z v0 v1 v2 v3 v4 v5 x := by
  unfold F_X8_byteOf
  simp only [nmb, nbm, nim, nkR, nkI, nkZ, nkM, nkC, nkK, nsm, nwI, nwC, nbE, n_X8_byteOf_45]

theorem n_X8_append_11 (L : Nat → Nat → Nat → BitVec 64) (z : Nat) (v0 : Nat) (v1 : Int) (v2 : Int) (v3 : Int) (v4 : Int) (v5 : Int) (x : Mm) : ∀ (k : Nat) (w0 : Int) (w1 : Int), F_X8_append_11 z v0 v1 v2 v3 v4 v5 (x.1, L) k w0 w1 = F_X8_append_11 z v0 v1 v2 v3 v4 v5 x k w0 w1 := by
  intro k
  induction k with
  | zero => intro w0 w1; rfl
  | succ k ih =>
    intro w0 w1
    unfold F_X8_append_11
    simp only [nmb, nbm, nim, nkR, nkI, nkZ, nkM, nkC, nkK, nsm, nwI, nwC, nbE, ih, n_X8_byteOf]

theorem n_X8_append_80 (L : Nat → Nat → Nat → BitVec 64) (z : Nat) (v0 : Nat) (v1 : Int) (v2 : Int) (v3 : Int) (v4 : Int) (v5 : Int) : ∀ (k : Nat) (w0 : Int) (x : Mm), F_X8_append_80 z v0 v1 v2 v3 v4 v5 k w0 (x.1, L) = (F_X8_append_80 z v0 v1 v2 v3 v4 v5 k w0 x).map (nm L) := by
  intro k
  induction k with
  | zero => intro w0 x; rfl
  | succ k ih =>
    intro w0 x
    unfold F_X8_append_80
    simp only [nmb, nbm, nim, nkR, nkI, nkZ, nkM, nkC, nkK, nsm, nwI, nwC, nbE, ih, n_X8_byteOf]

theorem n_X8_append_68 (L : Nat → Nat → Nat → BitVec 64) (z : Nat) (v0 : Nat) (v1 : Int) (v2 : Int) (v3 : Int) (v4 : Int) (v5 : Int) (u0 : Int) (u1 : Nat) (x : Mm) : F_X8_append_68 z v0 v1 v2 v3 v4 v5 u0 u1 (x.1, L) = (F_X8_append_68 z v0 v1 v2 v3 v4 v5 u0 u1 x).map (nl L) := by
  unfold F_X8_append_68
  simp only [nmb, nbm, nim, nkR, nkI, nkZ, nkM, nkC, nkK, nsm, nwI, nwC, nbE, n_X8_fails, n_X8_append_80]

theorem n_X8_append (L : Nat → Nat → Nat → BitVec 64) (z : Nat) (v0 : Nat) (v1 : Int) (v2 : Int) (v3 : Int) (v4 : Int) (v5 : Int) (x : Mm) : F_X8_append z v0 v1 v2 v3 v4 v5 (x.1, L) = (F_X8_append z v0 v1 v2 v3 v4 v5 x).map (nl L) := by
  unfold F_X8_append
  simp only [nmb, nbm, nim, nkR, nkI, nkZ, nkM, nkC, nkK, nsm, nwI, nwC, nbE, n_X8_append_11, n_X8_append_68]

theorem n_X8_truncate (L : Nat → Nat → Nat → BitVec 64) (z : Nat) (v0 : Nat) (v1 : Int) (x : Mm) : F_X8_truncate z v0 v1 (x.1, L) = (F_X8_truncate z v0 v1 x).map (nl L) := by
  unfold F_X8_truncate
  simp only [nmb, nbm, nim, nkR, nkI, nkZ, nkM, nkC, nkK, nsm, nwI, nwC, nbE, n_X8_in, n_X8_fails]

theorem n_X8_peek (L : Nat → Nat → Nat → BitVec 64) (z : Nat) (v0 : Nat) (v1 : Int) (x : Mm) : F_X8_peek z v0 v1 (x.1, L) = F_X8_peek z v0 v1 x := by
  rfl

theorem n_X8_isLetter (L : Nat → Nat → Nat → BitVec 64) (z : Nat) (v0 : Int) (x : Mm) : F_X8_isLetter z v0 (x.1, L) = F_X8_isLetter z v0 x := by
  rfl

theorem n_X8_isDigit (L : Nat → Nat → Nat → BitVec 64) (z : Nat) (v0 : Int) (x : Mm) : F_X8_isDigit z v0 (x.1, L) = F_X8_isDigit z v0 x := by
  rfl

theorem n_X8_step_0 (L : Nat → Nat → Nat → BitVec 64) (z : Nat) (v0 : Nat) : ∀ (k : Nat) (x : Mm), F_X8_step_0 z v0 k (x.1, L) = (F_X8_step_0 z v0 k x).map (nm L) := by
  intro k
  induction k with
  | zero => intro x; rfl
  | succ k ih =>
    intro x
    unfold F_X8_step_0
    simp only [nmb, nbm, nim, nkR, nkI, nkZ, nkM, nkC, nkK, nsm, nwI, nwC, nbE, ih, n_X8_peek]

theorem n_X8_step_101 (L : Nat → Nat → Nat → BitVec 64) (z : Nat) (v0 : Nat) : ∀ (k : Nat) (x : Mm), F_X8_step_101 z v0 k (x.1, L) = (F_X8_step_101 z v0 k x).map (nm L) := by
  intro k
  induction k with
  | zero => intro x; rfl
  | succ k ih =>
    intro x
    unfold F_X8_step_101
    simp only [nmb, nbm, nim, nkR, nkI, nkZ, nkM, nkC, nkK, nsm, nwI, nwC, nbE, ih, n_X8_peek, n_X8_isLetter]

theorem n_X8_step_136 (L : Nat → Nat → Nat → BitVec 64) (z : Nat) (v0 : Nat) : ∀ (k : Nat) (x : Mm), F_X8_step_136 z v0 k (x.1, L) = (F_X8_step_136 z v0 k x).map (nm L) := by
  intro k
  induction k with
  | zero => intro x; rfl
  | succ k ih =>
    intro x
    unfold F_X8_step_136
    simp only [nmb, nbm, nim, nkR, nkI, nkZ, nkM, nkC, nkK, nsm, nwI, nwC, nbE, ih, n_X8_peek, n_X8_isDigit]

theorem n_X8_step_75 (L : Nat → Nat → Nat → BitVec 64) (z : Nat) (v0 : Nat) (u0 : Int) (u1 : Nat) (x : Mm) : F_X8_step_75 z v0 u0 u1 (x.1, L) = (F_X8_step_75 z v0 u0 u1 x).map (nm L) := by
  unfold F_X8_step_75
  simp only [nmb, nbm, nim, nkR, nkI, nkZ, nkM, nkC, nkK, nsm, nwI, nwC, nbE, n_X8_step_101, n_X8_step_136]

theorem n_X8_step (L : Nat → Nat → Nat → BitVec 64) (z : Nat) (v0 : Nat) (x : Mm) : F_X8_step z v0 (x.1, L) = (F_X8_step z v0 x).map (nm L) := by
  unfold F_X8_step
  simp only [nmb, nbm, nim, nkR, nkI, nkZ, nkM, nkC, nkK, nsm, nwI, nwC, nbE, n_X8_step_0, n_X8_peek, n_X8_isLetter, n_X8_isDigit, n_X8_step_75]

theorem n_X8_fail (L : Nat → Nat → Nat → BitVec 64) (z : Nat) (v0 : Nat) (x : Mm) : F_X8_fail z v0 (x.1, L) = (F_X8_fail z v0 x).map (nm L) := by
  unfold F_X8_fail
  simp only [nmb, nbm, nim, nkR, nkI, nkZ, nkM, nkC, nkK, nsm, nwI, nwC, nbE]

theorem n_X8_isGood (L : Nat → Nat → Nat → BitVec 64) (z : Nat) (v0 : Nat) (x : Mm) : F_X8_isGood z v0 (x.1, L) = F_X8_isGood z v0 x := by
  rfl

theorem n_X8_isWord_39 (L : Nat → Nat → Nat → BitVec 64) (z : Nat) (v0 : Nat) (v1 : Nat) (x : Mm) : ∀ (k : Nat) (w0 : Int) (w1 : Int), F_X8_isWord_39 z v0 v1 (x.1, L) k w0 w1 = F_X8_isWord_39 z v0 v1 x k w0 w1 := by
  intro k
  induction k with
  | zero => intro w0 w1; rfl
  | succ k ih =>
    intro w0 w1
    unfold F_X8_isWord_39
    simp only [nmb, nbm, nim, nkR, nkI, nkZ, nkM, nkC, nkK, nsm, nwI, nwC, nbE, ih]

theorem n_X8_isWord_36 (L : Nat → Nat → Nat → BitVec 64) (z : Nat) (v0 : Nat) (v1 : Nat) (u0 : Int) (x : Mm) : F_X8_isWord_36 z v0 v1 u0 (x.1, L) = F_X8_isWord_36 z v0 v1 u0 x := by
  unfold F_X8_isWord_36
  simp only [nmb, nbm, nim, nkR, nkI, nkZ, nkM, nkC, nkK, nsm, nwI, nwC, nbE, n_X8_isWord_39]

theorem n_X8_isWord_35 (L : Nat → Nat → Nat → BitVec 64) (z : Nat) (v0 : Nat) (v1 : Nat) (x : Mm) : F_X8_isWord_35 z v0 v1 (x.1, L) = F_X8_isWord_35 z v0 v1 x := by
  unfold F_X8_isWord_35
  simp only [nmb, nbm, nim, nkR, nkI, nkZ, nkM, nkC, nkK, nsm, nwI, nwC, nbE, n_X8_isWord_36]

theorem n_X8_isWord (L : Nat → Nat → Nat → BitVec 64) (z : Nat) (v0 : Nat) (v1 : Nat) (x : Mm) : F_X8_isWord z v0 v1 (x.1, L) = F_X8_isWord z v0 v1 x := by
  unfold F_X8_isWord
  simp only [nmb, nbm, nim, nkR, nkI, nkZ, nkM, nkC, nkK, nsm, nwI, nwC, nbE, n_X8_isGood, n_X8_isWord_35, n_X8_isWord_36]

theorem n_X8_isSign (L : Nat → Nat → Nat → BitVec 64) (z : Nat) (v0 : Nat) (v1 : Int) (x : Mm) : F_X8_isSign z v0 v1 (x.1, L) = F_X8_isSign z v0 v1 x := by
  unfold F_X8_isSign
  simp only [nmb, nbm, nim, nkR, nkI, nkZ, nkM, nkC, nkK, nsm, nwI, nwC, nbE, n_X8_isGood]

theorem n_X8_takeNumber (L : Nat → Nat → Nat → BitVec 64) (z : Nat) (v0 : Nat) (v1 : Int) (v2 : Int) (x : Mm) : F_X8_takeNumber z v0 v1 v2 (x.1, L) = (F_X8_takeNumber z v0 v1 v2 x).map (nl L) := by
  unfold F_X8_takeNumber
  simp only [nmb, nbm, nim, nkR, nkI, nkZ, nkM, nkC, nkK, nsm, nwI, nwC, nbE, n_X8_isGood, n_X8_fail, n_X8_in, n_X8_step]

theorem n_X8_forgetRead_2 (L : Nat → Nat → Nat → BitVec 64) (z : Nat) (v0 : Nat) : ∀ (k : Nat) (w0 : Int) (x : Mm), F_X8_forgetRead_2 z v0 k w0 (x.1, L) = (F_X8_forgetRead_2 z v0 k w0 x).map (nm L) := by
  intro k
  induction k with
  | zero => intro w0 x; rfl
  | succ k ih =>
    intro w0 x
    unfold F_X8_forgetRead_2
    simp only [nmb, nbm, nim, nkR, nkI, nkZ, nkM, nkC, nkK, nsm, nwI, nwC, nbE, ih]

theorem n_X8_forgetRead_56 (L : Nat → Nat → Nat → BitVec 64) (z : Nat) (v0 : Nat) : ∀ (k : Nat) (w0 : Int) (x : Mm), F_X8_forgetRead_56 z v0 k w0 (x.1, L) = (F_X8_forgetRead_56 z v0 k w0 x).map (nm L) := by
  intro k
  induction k with
  | zero => intro w0 x; rfl
  | succ k ih =>
    intro w0 x
    unfold F_X8_forgetRead_56
    simp only [nmb, nbm, nim, nkR, nkI, nkZ, nkM, nkC, nkK, nsm, nwI, nwC, nbE, ih]

theorem n_X8_forgetRead (L : Nat → Nat → Nat → BitVec 64) (z : Nat) (v0 : Nat) (x : Mm) : F_X8_forgetRead z v0 (x.1, L) = (F_X8_forgetRead z v0 x).map (nm L) := by
  unfold F_X8_forgetRead
  simp only [nmb, nbm, nim, nkR, nkI, nkZ, nkM, nkC, nkK, nsm, nwI, nwC, nbE, n_X8_forgetRead_2, n_X8_forgetRead_56]

theorem n_X8_begins (L : Nat → Nat → Nat → BitVec 64) (z : Nat) (v0 : Nat) (v1 : Int) (x : Mm) : F_X8_begins z v0 v1 (x.1, L) = (F_X8_begins z v0 v1 x).map (nl L) := by
  unfold F_X8_begins
  simp only [nmb, nbm, nim, nkR, nkI, nkZ, nkM, nkC, nkK, nsm, nwI, nwC, nbE, n_X8_step, n_X8_fail]

theorem n_X8_readField_102 (L : Nat → Nat → Nat → BitVec 64) (z : Nat) (v0 : Nat) (u0 : Int) (x : Mm) : F_X8_readField_102 z v0 u0 (x.1, L) = (F_X8_readField_102 z v0 u0 x).map (nm L) := by
  unfold F_X8_readField_102
  simp only [nmb, nbm, nim, nkR, nkI, nkZ, nkM, nkC, nkK, nsm, nwI, nwC, nbE, n_X8_fail, n_X8_step]

theorem n_X8_readField_17 (L : Nat → Nat → Nat → BitVec 64) (z : Nat) (v0 : Nat) (u0 : Int) (u1 : Nat) (x : Mm) : F_X8_readField_17 z v0 u0 u1 (x.1, L) = (F_X8_readField_17 z v0 u0 u1 x).map (nm L) := by
  unfold F_X8_readField_17
  simp only [nmb, nbm, nim, nkR, nkI, nkZ, nkM, nkC, nkK, nsm, nwI, nwC, nbE, n_X8_begins, n_X8_isWord, n_X8_readField_102]

theorem n_X8_readField (L : Nat → Nat → Nat → BitVec 64) (z : Nat) (v0 : Nat) (x : Mm) : F_X8_readField z v0 (x.1, L) = (F_X8_readField z v0 x).map (nm L) := by
  unfold F_X8_readField
  simp only [nmb, nbm, nim, nkR, nkI, nkZ, nkM, nkC, nkK, nsm, nwI, nwC, nbE, n_X8_readField_17]

theorem n_X8_readNode_88 (L : Nat → Nat → Nat → BitVec 64) (z : Nat) (v0 : Nat) (v1 : Int) (v2 : Int) (v3 : Int) : ∀ (k : Nat) (w0 : Int) (x : Mm), F_X8_readNode_88 z v0 v1 v2 v3 k w0 (x.1, L) = (F_X8_readNode_88 z v0 v1 v2 v3 k w0 x).map (nm L) := by
  intro k
  induction k with
  | zero => intro w0 x; rfl
  | succ k ih =>
    intro w0 x
    unfold F_X8_readNode_88
    simp only [nmb, nbm, nim, nkR, nkI, nkZ, nkM, nkC, nkK, nsm, nwI, nwC, nbE, ih, n_X8_isGood, n_X8_fail]

theorem n_X8_readNode_206 (L : Nat → Nat → Nat → BitVec 64) (z : Nat) (v0 : Nat) (v2 : Int) (u0 : Int) (u1 : Int) (u2 : Nat) (x : Mm) : F_X8_readNode_206 z v0 v2 u0 u1 u2 (x.1, L) = (F_X8_readNode_206 z v0 v2 u0 u1 u2 x).map (nm L) := by
  unfold F_X8_readNode_206
  simp only [nmb, nbm, nim, nkR, nkI, nkZ, nkM, nkC, nkK, nsm, nwI, nwC, nbE]

theorem n_X8_readNode_76 (L : Nat → Nat → Nat → BitVec 64) (z : Nat) (v0 : Nat) (v1 : Int) (v2 : Int) (x : Mm) : F_X8_readNode_76 z v0 v1 v2 (x.1, L) = (F_X8_readNode_76 z v0 v1 v2 x).map (nm L) := by
  unfold F_X8_readNode_76
  simp only [nmb, nbm, nim, nkR, nkI, nkZ, nkM, nkC, nkK, nsm, nwI, nwC, nbE, n_X8_takeNumber, n_X8_readNode_88, n_X8_isGood, n_X8_readNode_206]

theorem n_X8_readNode_19 (L : Nat → Nat → Nat → BitVec 64) (z : Nat) (v0 : Nat) (v1 : Int) (v2 : Int) (u0 : Int) (u1 : Nat) (x : Mm) : F_X8_readNode_19 z v0 v1 v2 u0 u1 (x.1, L) = (F_X8_readNode_19 z v0 v1 v2 u0 u1 x).map (nm L) := by
  unfold F_X8_readNode_19
  simp only [nmb, nbm, nim, nkR, nkI, nkZ, nkM, nkC, nkK, nsm, nwI, nwC, nbE, n_X8_begins, n_X8_isGood, n_X8_readNode_76, n_X8_in, n_X8_fail]

theorem n_X8_readNode (L : Nat → Nat → Nat → BitVec 64) (z : Nat) (v0 : Nat) (v1 : Int) (x : Mm) : F_X8_readNode z v0 v1 (x.1, L) = (F_X8_readNode z v0 v1 x).map (nm L) := by
  unfold F_X8_readNode
  simp only [nmb, nbm, nim, nkR, nkI, nkZ, nkM, nkC, nkK, nsm, nwI, nwC, nbE, n_X8_readNode_19]

theorem n_X8_readValue_101 (L : Nat → Nat → Nat → BitVec 64) (z : Nat) (v0 : Nat) (v1 : Int) (v2 : Int) (v3 : Int) (x : Mm) : F_X8_readValue_101 z v0 v1 v2 v3 (x.1, L) = (F_X8_readValue_101 z v0 v1 v2 v3 x).map (nm L) := by
  unfold F_X8_readValue_101
  simp only [nmb, nbm, nim, nkR, nkI, nkZ, nkM, nkC, nkK, nsm, nwI, nwC, nbE, n_X8_takeNumber, n_X8_isGood]

theorem n_X8_readValue_58 (L : Nat → Nat → Nat → BitVec 64) (z : Nat) (v0 : Nat) (x : Mm) : F_X8_readValue_58 z v0 (x.1, L) = (F_X8_readValue_58 z v0 x).map (nm L) := by
  unfold F_X8_readValue_58
  simp only [nmb, nbm, nim, nkR, nkI, nkZ, nkM, nkC, nkK, nsm, nwI, nwC, nbE, n_X8_takeNumber, n_X8_isSign, n_X8_readValue_101, n_X8_step]

theorem n_X8_readValue (L : Nat → Nat → Nat → BitVec 64) (z : Nat) (v0 : Nat) (x : Mm) : F_X8_readValue z v0 (x.1, L) = (F_X8_readValue z v0 x).map (nm L) := by
  unfold F_X8_readValue
  simp only [nmb, nbm, nim, nkR, nkI, nkZ, nkM, nkC, nkK, nsm, nwI, nwC, nbE, n_X8_step, n_X8_isGood, n_X8_readValue_58, n_X8_in, n_X8_fail]

theorem n_X8_readStatement_41 (L : Nat → Nat → Nat → BitVec 64) (z : Nat) (v0 : Nat) (u0 : Int) (u1 : Nat) (x : Mm) : F_X8_readStatement_41 z v0 u0 u1 (x.1, L) = (F_X8_readStatement_41 z v0 u0 u1 x).map (nm L) := by
  unfold F_X8_readStatement_41
  simp only [nmb, nbm, nim, nkR, nkI, nkZ, nkM, nkC, nkK, nsm, nwI, nwC, nbE, n_X8_begins]

theorem n_X8_readStatement (L : Nat → Nat → Nat → BitVec 64) (z : Nat) (v0 : Nat) (x : Mm) : F_X8_readStatement z v0 (x.1, L) = (F_X8_readStatement z v0 x).map (nm L) := by
  unfold F_X8_readStatement
  simp only [nmb, nbm, nim, nkR, nkI, nkZ, nkM, nkC, nkK, nsm, nwI, nwC, nbE, n_X8_isWord, n_X8_fail, n_X8_readValue, n_X8_readNode, n_X8_readStatement_41, n_X8_readField]

theorem n_X8_parse_22 (L : Nat → Nat → Nat → BitVec 64) (z : Nat) (v0 : Nat) : ∀ (k : Nat) (x : Mm), F_X8_parse_22 z v0 k (x.1, L) = (F_X8_parse_22 z v0 k x).map (nm L) := by
  intro k
  induction k with
  | zero => intro x; rfl
  | succ k ih =>
    intro x
    unfold F_X8_parse_22
    simp only [nmb, nbm, nim, nkR, nkI, nkZ, nkM, nkC, nkK, nsm, nwI, nwC, nbE, ih, n_X8_isSign, n_X8_step, n_X8_readStatement]

theorem n_X8_parse (L : Nat → Nat → Nat → BitVec 64) (z : Nat) (v0 : Nat) (x : Mm) : F_X8_parse z v0 (x.1, L) = (F_X8_parse z v0 x).map (nl L) := by
  unfold F_X8_parse
  simp only [nmb, nbm, nim, nkR, nkI, nkZ, nkM, nkC, nkK, nsm, nwI, nwC, nbE, n_X8_forgetRead, n_X8_step, n_X8_readStatement, n_X8_parse_22, n_X8_isGood, n_X8_fail]

theorem n_X8_errorPosition (L : Nat → Nat → Nat → BitVec 64) (z : Nat) (v0 : Nat) (x : Mm) : F_X8_errorPosition z v0 (x.1, L) = (F_X8_errorPosition z v0 x).map (nl L) := by
  unfold F_X8_errorPosition
  simp only [nmb, nbm, nim, nkR, nkI, nkZ, nkM, nkC, nkK, nsm, nwI, nwC, nbE, n_X8_parse]

theorem n_X8_copy_2 (L : Nat → Nat → Nat → BitVec 64) (z : Nat) (v0 : Nat) (v1 : Nat) : ∀ (k : Nat) (w0 : Int) (x : Mm), F_X8_copy_2 z v0 v1 k w0 (x.1, L) = (F_X8_copy_2 z v0 v1 k w0 x).map (nm L) := by
  intro k
  induction k with
  | zero => intro w0 x; rfl
  | succ k ih =>
    intro w0 x
    unfold F_X8_copy_2
    simp only [nmb, nbm, nim, nkR, nkI, nkZ, nkM, nkC, nkK, nsm, nwI, nwC, nbE, ih]

theorem n_X8_copy (L : Nat → Nat → Nat → BitVec 64) (z : Nat) (v0 : Nat) (v1 : Nat) (x : Mm) : F_X8_copy z v0 v1 (x.1, L) = (F_X8_copy z v0 v1 x).map (nm L) := by
  unfold F_X8_copy
  simp only [nmb, nbm, nim, nkR, nkI, nkZ, nkM, nkC, nkK, nsm, nwI, nwC, nbE, n_X8_copy_2]

theorem n_X8_takeRead (L : Nat → Nat → Nat → BitVec 64) (z : Nat) (v0 : Nat) (x : Mm) : F_X8_takeRead z v0 (x.1, L) = (F_X8_takeRead z v0 x).map (nm L) := by
  unfold F_X8_takeRead
  simp only [nmb, nbm, nim, nkR, nkI, nkZ, nkM, nkC, nkK, nsm, nwI, nwC, nbE, n_X8_copy]

theorem n_X8_load_18 (L : Nat → Nat → Nat → BitVec 64) (z : Nat) (v0 : Nat) (u0 : Int) (u1 : Nat) (x : Mm) : F_X8_load_18 z v0 u0 u1 (x.1, L) = (F_X8_load_18 z v0 u0 u1 x).map (nl L) := by
  unfold F_X8_load_18
  simp only [nmb, nbm, nim, nkR, nkI, nkZ, nkM, nkC, nkK, nsm, nwI, nwC, nbE, n_X8_fails, n_X8_takeRead]

theorem n_X8_load (L : Nat → Nat → Nat → BitVec 64) (z : Nat) (v0 : Nat) (x : Mm) : F_X8_load z v0 (x.1, L) = (F_X8_load z v0 x).map (nl L) := by
  unfold F_X8_load
  simp only [nmb, nbm, nim, nkR, nkI, nkZ, nkM, nkC, nkK, nsm, nwI, nwC, nbE, n_X8_parse, n_X8_load_18]

theorem n_X8_record_53 (L : Nat → Nat → Nat → BitVec 64) (z : Nat) (v0 : Nat) : ∀ (k : Nat) (w0 : Int) (x : Mm), F_X8_record_53 z v0 k w0 (x.1, L) = (F_X8_record_53 z v0 k w0 x).map (nm L) := by
  intro k
  induction k with
  | zero => intro w0 x; rfl
  | succ k ih =>
    intro w0 x
    unfold F_X8_record_53
    simp only [nmb, nbm, nim, nkR, nkI, nkZ, nkM, nkC, nkK, nsm, nwI, nwC, nbE, ih]

theorem n_X8_record_51 (L : Nat → Nat → Nat → BitVec 64) (z : Nat) (v0 : Nat) (x : Mm) : F_X8_record_51 z v0 (x.1, L) = (F_X8_record_51 z v0 x).map (nm L) := by
  unfold F_X8_record_51
  simp only [nmb, nbm, nim, nkR, nkI, nkZ, nkM, nkC, nkK, nsm, nwI, nwC, nbE, n_X8_record_53]

theorem n_X8_record_13 (L : Nat → Nat → Nat → BitVec 64) (z : Nat) (v0 : Nat) : ∀ (k : Nat) (w0 : Int) (x : Mm), F_X8_record_13 z v0 k w0 (x.1, L) = (F_X8_record_13 z v0 k w0 x).map (nm L) := by
  intro k
  induction k with
  | zero => intro w0 x; rfl
  | succ k ih =>
    intro w0 x
    unfold F_X8_record_13
    simp only [nmb, nbm, nim, nkR, nkI, nkZ, nkM, nkC, nkK, nsm, nwI, nwC, nbE, ih]

theorem n_X8_record (L : Nat → Nat → Nat → BitVec 64) (z : Nat) (v0 : Nat) (x : Mm) : F_X8_record z v0 (x.1, L) = (F_X8_record z v0 x).map (nm L) := by
  unfold F_X8_record
  simp only [nmb, nbm, nim, nkR, nkI, nkZ, nkM, nkC, nkK, nsm, nwI, nwC, nbE, n_X8_record_13, n_X8_record_51]

theorem n_X8_undo_39 (L : Nat → Nat → Nat → BitVec 64) (z : Nat) (v0 : Nat) : ∀ (k : Nat) (w0 : Int) (x : Mm), F_X8_undo_39 z v0 k w0 (x.1, L) = (F_X8_undo_39 z v0 k w0 x).map (nm L) := by
  intro k
  induction k with
  | zero => intro w0 x; rfl
  | succ k ih =>
    intro w0 x
    unfold F_X8_undo_39
    simp only [nmb, nbm, nim, nkR, nkI, nkZ, nkM, nkC, nkK, nsm, nwI, nwC, nbE, ih]

theorem n_X8_undo_18 (L : Nat → Nat → Nat → BitVec 64) (z : Nat) (v0 : Nat) (u0 : Int) (u1 : Nat) (x : Mm) : F_X8_undo_18 z v0 u0 u1 (x.1, L) = (F_X8_undo_18 z v0 u0 u1 x).map (nl L) := by
  unfold F_X8_undo_18
  simp only [nmb, nbm, nim, nkR, nkI, nkZ, nkM, nkC, nkK, nsm, nwI, nwC, nbE, n_X8_fails, n_X8_undo_39]

theorem n_X8_undo (L : Nat → Nat → Nat → BitVec 64) (z : Nat) (v0 : Nat) (x : Mm) : F_X8_undo z v0 (x.1, L) = (F_X8_undo z v0 x).map (nl L) := by
  unfold F_X8_undo
  simp only [nmb, nbm, nim, nkR, nkI, nkZ, nkM, nkC, nkK, nsm, nwI, nwC, nbE, n_X8_undo_18]

theorem n_X8_undoCount (L : Nat → Nat → Nat → BitVec 64) (z : Nat) (v0 : Nat) (x : Mm) : F_X8_undoCount z v0 (x.1, L) = (F_X8_undoCount z v0 x).map (nl L) := by
  unfold F_X8_undoCount
  simp only [nmb, nbm, nim, nkR, nkI, nkZ, nkM, nkC, nkK, nsm, nwI, nwC, nbE]

theorem n_X8_save (L : Nat → Nat → Nat → BitVec 64) (z : Nat) (v0 : Nat) (x : Mm) : F_X8_save z v0 (x.1, L) = (F_X8_save z v0 x).map (nl L) := by
  unfold F_X8_save
  simp only [nmb, nbm, nim, nkR, nkI, nkZ, nkM, nkC, nkK, nsm, nwI, nwC, nbE, n_X8_copy]

theorem n_X8_restore (L : Nat → Nat → Nat → BitVec 64) (z : Nat) (v0 : Nat) (x : Mm) : F_X8_restore z v0 (x.1, L) = (F_X8_restore z v0 x).map (nl L) := by
  unfold F_X8_restore
  simp only [nmb, nbm, nim, nkR, nkI, nkZ, nkM, nkC, nkK, nsm, nwI, nwC, nbE, n_X8_fails, n_X8_copy]

theorem n_X8_isClient (L : Nat → Nat → Nat → BitVec 64) (z : Nat) (v0 : Nat) (v1 : Int) (x : Mm) : F_X8_isClient z v0 v1 (x.1, L) = F_X8_isClient z v0 v1 x := by
  unfold F_X8_isClient
  simp only [nmb, nbm, nim, nkR, nkI, nkZ, nkM, nkC, nkK, nsm, nwI, nwC, nbE, n_X8_in]

theorem n_X8_isNode (L : Nat → Nat → Nat → BitVec 64) (z : Nat) (v0 : Nat) (v1 : Int) (x : Mm) : F_X8_isNode z v0 v1 (x.1, L) = F_X8_isNode z v0 v1 x := by
  unfold F_X8_isNode
  simp only [nmb, nbm, nim, nkR, nkI, nkZ, nkM, nkC, nkK, nsm, nwI, nwC, nbE, n_X8_in]

theorem n_X8_isField (L : Nat → Nat → Nat → BitVec 64) (z : Nat) (v0 : Nat) (v1 : Int) (x : Mm) : F_X8_isField z v0 v1 (x.1, L) = F_X8_isField z v0 v1 x := by
  unfold F_X8_isField
  simp only [nmb, nbm, nim, nkR, nkI, nkZ, nkM, nkC, nkK, nsm, nwI, nwC, nbE, n_X8_in]

theorem n_X8_hasLease (L : Nat → Nat → Nat → BitVec 64) (z : Nat) (v0 : Nat) (v1 : Int) (x : Mm) : F_X8_hasLease z v0 v1 (x.1, L) = F_X8_hasLease z v0 v1 x := by
  rfl

theorem n_X8_isAlive (L : Nat → Nat → Nat → BitVec 64) (z : Nat) (v0 : Nat) (v1 : Int) (x : Mm) : F_X8_isAlive z v0 v1 (x.1, L) = F_X8_isAlive z v0 v1 x := by
  rfl

theorem n_X8_partOf (L : Nat → Nat → Nat → BitVec 64) (z : Nat) (v0 : Int) (v1 : Int) (v2 : Int) (x : Mm) : F_X8_partOf z v0 v1 v2 (x.1, L) = F_X8_partOf z v0 v1 v2 x := by
  rfl

theorem n_X8_is (L : Nat → Nat → Nat → BitVec 64) (z : Nat) (v0 : Nat) (v1 : Int) (v2 : Int) (v3 : Int) (x : Mm) : F_X8_is z v0 v1 v2 v3 (x.1, L) = F_X8_is z v0 v1 v2 v3 x := by
  unfold F_X8_is
  simp only [nmb, nbm, nim, nkR, nkI, nkZ, nkM, nkC, nkK, nsm, nwI, nwC, nbE, n_X8_partOf]

theorem n_X8_old (L : Nat → Nat → Nat → BitVec 64) (z : Nat) (v0 : Nat) (v1 : Int) (v2 : Int) (v3 : Int) (x : Mm) : F_X8_old z v0 v1 v2 v3 (x.1, L) = F_X8_old z v0 v1 v2 v3 x := by
  unfold F_X8_old
  simp only [nmb, nbm, nim, nkR, nkI, nkZ, nkM, nkC, nkK, nsm, nwI, nwC, nbE, n_X8_partOf]

theorem n_X8_fresh (L : Nat → Nat → Nat → BitVec 64) (z : Nat) (v0 : Nat) (v1 : Int) (v2 : Int) (v3 : Int) (x : Mm) : F_X8_fresh z v0 v1 v2 v3 (x.1, L) = F_X8_fresh z v0 v1 v2 v3 x := by
  unfold F_X8_fresh
  simp only [nmb, nbm, nim, nkR, nkI, nkZ, nkM, nkC, nkK, nsm, nwI, nwC, nbE, n_X8_partOf]

theorem n_X8_value (L : Nat → Nat → Nat → BitVec 64) (z : Nat) (v0 : Nat) (v1 : Int) (v2 : Int) (x : Mm) : F_X8_value z v0 v1 v2 (x.1, L) = F_X8_value z v0 v1 v2 x := by
  rfl

theorem n_X8_isWithin_2 (L : Nat → Nat → Nat → BitVec 64) (z : Nat) (v0 : Nat) (v1 : Int) (v2 : Int) (x : Mm) : ∀ (k : Nat) (w0 : Int), F_X8_isWithin_2 z v0 v1 v2 (x.1, L) k w0 = F_X8_isWithin_2 z v0 v1 v2 x k w0 := by
  intro k
  induction k with
  | zero => intro w0; rfl
  | succ k ih =>
    intro w0
    unfold F_X8_isWithin_2
    simp only [nmb, nbm, nim, nkR, nkI, nkZ, nkM, nkC, nkK, nsm, nwI, nwC, nbE, ih]

theorem n_X8_isWithin (L : Nat → Nat → Nat → BitVec 64) (z : Nat) (v0 : Nat) (v1 : Int) (v2 : Int) (x : Mm) : F_X8_isWithin z v0 v1 v2 (x.1, L) = F_X8_isWithin z v0 v1 v2 x := by
  unfold F_X8_isWithin
  simp only [nmb, nbm, nim, nkR, nkI, nkZ, nkM, nkC, nkK, nsm, nwI, nwC, nbE, n_X8_isWithin_2]

theorem n_X8_isBlocker_52 (L : Nat → Nat → Nat → BitVec 64) (z : Nat) (v0 : Nat) (v3 : Int) (v5 : Int) (x : Mm) : F_X8_isBlocker_52 z v0 v3 v5 (x.1, L) = F_X8_isBlocker_52 z v0 v3 v5 x := by
  unfold F_X8_isBlocker_52
  simp only [nmb, nbm, nim, nkR, nkI, nkZ, nkM, nkC, nkK, nsm, nwI, nwC, nbE, n_X8_isWithin]

theorem n_X8_isBlocker (L : Nat → Nat → Nat → BitVec 64) (z : Nat) (v0 : Nat) (v1 : Int) (v2 : Int) (v3 : Int) (v4 : Int) (x : Mm) : F_X8_isBlocker z v0 v1 v2 v3 v4 (x.1, L) = F_X8_isBlocker z v0 v1 v2 v3 v4 x := by
  unfold F_X8_isBlocker
  simp only [nmb, nbm, nim, nkR, nkI, nkZ, nkM, nkC, nkK, nsm, nwI, nwC, nbE, n_X8_hasLease, n_X8_isBlocker_52]

theorem n_X8_blockersOf_6 (L : Nat → Nat → Nat → BitVec 64) (z : Nat) (v0 : Nat) (v1 : Int) (v2 : Int) (v3 : Int) (x : Mm) : ∀ (k : Nat) (w0 : Int) (w1 : Int), F_X8_blockersOf_6 z v0 v1 v2 v3 (x.1, L) k w0 w1 = F_X8_blockersOf_6 z v0 v1 v2 v3 x k w0 w1 := by
  intro k
  induction k with
  | zero => intro w0 w1; rfl
  | succ k ih =>
    intro w0 w1
    unfold F_X8_blockersOf_6
    simp only [nmb, nbm, nim, nkR, nkI, nkZ, nkM, nkC, nkK, nsm, nwI, nwC, nbE, ih, n_X8_isBlocker]

theorem n_X8_blockersOf (L : Nat → Nat → Nat → BitVec 64) (z : Nat) (v0 : Nat) (v1 : Int) (v2 : Int) (v3 : Int) (x : Mm) : F_X8_blockersOf z v0 v1 v2 v3 (x.1, L) = F_X8_blockersOf z v0 v1 v2 v3 x := by
  unfold F_X8_blockersOf
  simp only [nmb, nbm, nim, nkR, nkI, nkZ, nkM, nkC, nkK, nsm, nwI, nwC, nbE, n_X8_blockersOf_6]

theorem n_X8_lease_247 (L : Nat → Nat → Nat → BitVec 64) (z : Nat) (v0 : Nat) (v1 : Int) (v2 : Int) (v3 : Int) (v5 : Int) (v6 : Int) : ∀ (k : Nat) (w0 : Int) (x : Mm), F_X8_lease_247 z v0 v1 v2 v3 v5 v6 k w0 (x.1, L) = (F_X8_lease_247 z v0 v1 v2 v3 v5 v6 k w0 x).map (nm L) := by
  intro k
  induction k with
  | zero => intro w0 x; rfl
  | succ k ih =>
    intro w0 x
    unfold F_X8_lease_247
    simp only [nmb, nbm, nim, nkR, nkI, nkZ, nkM, nkC, nkK, nsm, nwI, nwC, nbE, ih, n_X8_partOf, n_X8_value]

theorem n_X8_lease_157 (L : Nat → Nat → Nat → BitVec 64) (z : Nat) (v0 : Nat) (v1 : Int) (v2 : Int) (v3 : Int) : ∀ (k : Nat) (w0 : Int) (x : Mm), F_X8_lease_157 z v0 v1 v2 v3 k w0 (x.1, L) = (F_X8_lease_157 z v0 v1 v2 v3 k w0 x).map (nm L) := by
  intro k
  induction k with
  | zero => intro w0 x; rfl
  | succ k ih =>
    intro w0 x
    unfold F_X8_lease_157
    simp only [nmb, nbm, nim, nkR, nkI, nkZ, nkM, nkC, nkK, nsm, nwI, nwC, nbE, ih, n_X8_partOf, n_X8_lease_247, n_X8_isAlive, n_X8_isWithin]

theorem n_X8_lease_153 (L : Nat → Nat → Nat → BitVec 64) (z : Nat) (v0 : Nat) (v1 : Int) (v2 : Int) (v3 : Int) (u0 : Int) (u1 : Int) (u2 : Nat) (x : Mm) : F_X8_lease_153 z v0 v1 v2 v3 u0 u1 u2 (x.1, L) = (F_X8_lease_153 z v0 v1 v2 v3 u0 u1 u2 x).map (nl L) := by
  unfold F_X8_lease_153
  simp only [nmb, nbm, nim, nkR, nkI, nkZ, nkM, nkC, nkK, nsm, nwI, nwC, nbE, n_X8_lease_157]

theorem n_X8_lease_82 (L : Nat → Nat → Nat → BitVec 64) (z : Nat) (v0 : Nat) (v1 : Int) (v2 : Int) (v3 : Int) (v4 : Int) (u0 : Int) (u1 : Nat) (x : Mm) : F_X8_lease_82 z v0 v1 v2 v3 v4 u0 u1 (x.1, L) = (F_X8_lease_82 z v0 v1 v2 v3 v4 u0 u1 x).map (nl L) := by
  unfold F_X8_lease_82
  simp only [nmb, nbm, nim, nkR, nkI, nkZ, nkM, nkC, nkK, nsm, nwI, nwC, nbE, n_X8_fails, n_X8_record, n_X8_lease_153]

theorem n_X8_lease_81 (L : Nat → Nat → Nat → BitVec 64) (z : Nat) (v0 : Nat) (v1 : Int) (v2 : Int) (v3 : Int) (v4 : Int) (u0 : Nat) (x : Mm) : F_X8_lease_81 z v0 v1 v2 v3 v4 u0 (x.1, L) = (F_X8_lease_81 z v0 v1 v2 v3 v4 u0 x).map (nl L) := by
  unfold F_X8_lease_81
  simp only [nmb, nbm, nim, nkR, nkI, nkZ, nkM, nkC, nkK, nsm, nwI, nwC, nbE, n_X8_lease_82]

theorem n_X8_lease_27 (L : Nat → Nat → Nat → BitVec 64) (z : Nat) (v0 : Nat) (v1 : Int) (v2 : Int) (v3 : Int) (v4 : Int) (u0 : Int) (u1 : Nat) (x : Mm) : F_X8_lease_27 z v0 v1 v2 v3 v4 u0 u1 (x.1, L) = (F_X8_lease_27 z v0 v1 v2 v3 v4 u0 u1 x).map (nl L) := by
  unfold F_X8_lease_27
  simp only [nmb, nbm, nim, nkR, nkI, nkZ, nkM, nkC, nkK, nsm, nwI, nwC, nbE, n_X8_fails, n_X8_in, n_X8_hasLease, n_X8_isAlive, n_X8_lease_81, n_X8_blockersOf, n_X8_lease_82]

theorem n_X8_lease_26 (L : Nat → Nat → Nat → BitVec 64) (z : Nat) (v0 : Nat) (v1 : Int) (v2 : Int) (v3 : Int) (v4 : Int) (u0 : Nat) (x : Mm) : F_X8_lease_26 z v0 v1 v2 v3 v4 u0 (x.1, L) = (F_X8_lease_26 z v0 v1 v2 v3 v4 u0 x).map (nl L) := by
  unfold F_X8_lease_26
  simp only [nmb, nbm, nim, nkR, nkI, nkZ, nkM, nkC, nkK, nsm, nwI, nwC, nbE, n_X8_lease_27]

theorem n_X8_lease (L : Nat → Nat → Nat → BitVec 64) (z : Nat) (v0 : Nat) (v1 : Int) (v2 : Int) (v3 : Int) (v4 : Int) (x : Mm) : F_X8_lease z v0 v1 v2 v3 v4 (x.1, L) = (F_X8_lease z v0 v1 v2 v3 v4 x).map (nl L) := by
  unfold F_X8_lease
  simp only [nmb, nbm, nim, nkR, nkI, nkZ, nkM, nkC, nkK, nsm, nwI, nwC, nbE, n_X8_isClient, n_X8_lease_26, n_X8_isNode, n_X8_lease_27]

theorem n_X8_renew_72 (L : Nat → Nat → Nat → BitVec 64) (z : Nat) (v0 : Nat) (v1 : Int) (v2 : Int) (u0 : Int) (u1 : Nat) (x : Mm) : F_X8_renew_72 z v0 v1 v2 u0 u1 (x.1, L) = (F_X8_renew_72 z v0 v1 v2 u0 u1 x).map (nl L) := by
  unfold F_X8_renew_72
  simp only [nmb, nbm, nim, nkR, nkI, nkZ, nkM, nkC, nkK, nsm, nwI, nwC, nbE, n_X8_fails, n_X8_record]

theorem n_X8_renew_71 (L : Nat → Nat → Nat → BitVec 64) (z : Nat) (v0 : Nat) (v1 : Int) (v2 : Int) (u0 : Nat) (x : Mm) : F_X8_renew_71 z v0 v1 v2 u0 (x.1, L) = (F_X8_renew_71 z v0 v1 v2 u0 x).map (nl L) := by
  unfold F_X8_renew_71
  simp only [nmb, nbm, nim, nkR, nkI, nkZ, nkM, nkC, nkK, nsm, nwI, nwC, nbE, n_X8_renew_72]

theorem n_X8_renew (L : Nat → Nat → Nat → BitVec 64) (z : Nat) (v0 : Nat) (v1 : Int) (v2 : Int) (x : Mm) : F_X8_renew z v0 v1 v2 (x.1, L) = (F_X8_renew z v0 v1 v2 x).map (nl L) := by
  unfold F_X8_renew
  simp only [nmb, nbm, nim, nkR, nkI, nkZ, nkM, nkC, nkK, nsm, nwI, nwC, nbE, n_X8_isClient, n_X8_fails, n_X8_in, n_X8_hasLease, n_X8_renew_71, n_X8_renew_72]

theorem n_X8_setField_100 (L : Nat → Nat → Nat → BitVec 64) (z : Nat) (v0 : Nat) (v1 : Int) (v2 : Int) (v3 : Int) (v4 : Int) (u0 : Int) (u1 : Nat) (x : Mm) : F_X8_setField_100 z v0 v1 v2 v3 v4 u0 u1 (x.1, L) = (F_X8_setField_100 z v0 v1 v2 v3 v4 u0 u1 x).map (nl L) := by
  unfold F_X8_setField_100
  simp only [nmb, nbm, nim, nkR, nkI, nkZ, nkM, nkC, nkK, nsm, nwI, nwC, nbE, n_X8_fails, n_X8_record, n_X8_fresh, n_X8_partOf]

theorem n_X8_setField_99 (L : Nat → Nat → Nat → BitVec 64) (z : Nat) (v0 : Nat) (v1 : Int) (v2 : Int) (v3 : Int) (v4 : Int) (u0 : Nat) (x : Mm) : F_X8_setField_99 z v0 v1 v2 v3 v4 u0 (x.1, L) = (F_X8_setField_99 z v0 v1 v2 v3 v4 u0 x).map (nl L) := by
  unfold F_X8_setField_99
  simp only [nmb, nbm, nim, nkR, nkI, nkZ, nkM, nkC, nkK, nsm, nwI, nwC, nbE, n_X8_setField_100]

theorem n_X8_setField_35 (L : Nat → Nat → Nat → BitVec 64) (z : Nat) (v0 : Nat) (v1 : Int) (v2 : Int) (v3 : Int) (v4 : Int) (u0 : Int) (u1 : Nat) (x : Mm) : F_X8_setField_35 z v0 v1 v2 v3 v4 u0 u1 (x.1, L) = (F_X8_setField_35 z v0 v1 v2 v3 v4 u0 u1 x).map (nl L) := by
  unfold F_X8_setField_35
  simp only [nmb, nbm, nim, nkR, nkI, nkZ, nkM, nkC, nkK, nsm, nwI, nwC, nbE, n_X8_fails, n_X8_in, n_X8_hasLease, n_X8_setField_99, n_X8_is, n_X8_setField_100]

theorem n_X8_setField_34 (L : Nat → Nat → Nat → BitVec 64) (z : Nat) (v0 : Nat) (v1 : Int) (v2 : Int) (v3 : Int) (v4 : Int) (u0 : Nat) (x : Mm) : F_X8_setField_34 z v0 v1 v2 v3 v4 u0 (x.1, L) = (F_X8_setField_34 z v0 v1 v2 v3 v4 u0 x).map (nl L) := by
  unfold F_X8_setField_34
  simp only [nmb, nbm, nim, nkR, nkI, nkZ, nkM, nkC, nkK, nsm, nwI, nwC, nbE, n_X8_setField_35]

theorem n_X8_setField (L : Nat → Nat → Nat → BitVec 64) (z : Nat) (v0 : Nat) (v1 : Int) (v2 : Int) (v3 : Int) (v4 : Int) (x : Mm) : F_X8_setField z v0 v1 v2 v3 v4 (x.1, L) = (F_X8_setField z v0 v1 v2 v3 v4 x).map (nl L) := by
  unfold F_X8_setField
  simp only [nmb, nbm, nim, nkR, nkI, nkZ, nkM, nkC, nkK, nsm, nwI, nwC, nbE, n_X8_isClient, n_X8_setField_34, n_X8_isNode, n_X8_isField, n_X8_setField_35]

theorem n_X8_isToAdd_53 (L : Nat → Nat → Nat → BitVec 64) (z : Nat) (v0 : Nat) (v1 : Int) (v2 : Int) (v3 : Int) (x : Mm) : ∀ (k : Nat) (w0 : Int) (w1 : Int), F_X8_isToAdd_53 z v0 v1 v2 v3 (x.1, L) k w0 w1 = F_X8_isToAdd_53 z v0 v1 v2 v3 x k w0 w1 := by
  intro k
  induction k with
  | zero => intro w0 w1; rfl
  | succ k ih =>
    intro w0 w1
    unfold F_X8_isToAdd_53
    simp only [nmb, nbm, nim, nkR, nkI, nkZ, nkM, nkC, nkK, nsm, nwI, nwC, nbE, ih, n_X8_is]

theorem n_X8_isToAdd_48 (L : Nat → Nat → Nat → BitVec 64) (z : Nat) (v0 : Nat) (v1 : Int) (v2 : Int) (v3 : Int) (u0 : Int) (x : Mm) : F_X8_isToAdd_48 z v0 v1 v2 v3 u0 (x.1, L) = F_X8_isToAdd_48 z v0 v1 v2 v3 u0 x := by
  unfold F_X8_isToAdd_48
  simp only [nmb, nbm, nim, nkR, nkI, nkZ, nkM, nkC, nkK, nsm, nwI, nwC, nbE, n_X8_isToAdd_53]

theorem n_X8_isToAdd_47 (L : Nat → Nat → Nat → BitVec 64) (z : Nat) (v0 : Nat) (v1 : Int) (v2 : Int) (v3 : Int) (x : Mm) : F_X8_isToAdd_47 z v0 v1 v2 v3 (x.1, L) = F_X8_isToAdd_47 z v0 v1 v2 v3 x := by
  unfold F_X8_isToAdd_47
  simp only [nmb, nbm, nim, nkR, nkI, nkZ, nkM, nkC, nkK, nsm, nwI, nwC, nbE, n_X8_isToAdd_48]

theorem n_X8_isToAdd (L : Nat → Nat → Nat → BitVec 64) (z : Nat) (v0 : Nat) (v1 : Int) (v2 : Int) (v3 : Int) (x : Mm) : F_X8_isToAdd z v0 v1 v2 v3 (x.1, L) = F_X8_isToAdd z v0 v1 v2 v3 x := by
  unfold F_X8_isToAdd
  simp only [nmb, nbm, nim, nkR, nkI, nkZ, nkM, nkC, nkK, nsm, nwI, nwC, nbE, n_X8_hasLease, n_X8_isToAdd_47, n_X8_is, n_X8_isToAdd_48]

theorem n_X8_addNode_131 (L : Nat → Nat → Nat → BitVec 64) (z : Nat) (v0 : Nat) (v1 : Int) (v5 : Int) (u0 : Int) (u1 : Int) (u2 : Nat) (x : Mm) : F_X8_addNode_131 z v0 v1 v5 u0 u1 u2 (x.1, L) = (F_X8_addNode_131 z v0 v1 v5 u0 u1 u2 x).map (nl L) := by
  unfold F_X8_addNode_131
  simp only [nmb, nbm, nim, nkR, nkI, nkZ, nkM, nkC, nkK, nsm, nwI, nwC, nbE, n_X8_partOf]

theorem n_X8_addNode_27 (L : Nat → Nat → Nat → BitVec 64) (z : Nat) (v0 : Nat) (v1 : Int) (v2 : Int) (v3 : Int) (v4 : Int) (u0 : Int) (u1 : Nat) (x : Mm) : F_X8_addNode_27 z v0 v1 v2 v3 v4 u0 u1 (x.1, L) = (F_X8_addNode_27 z v0 v1 v2 v3 v4 u0 u1 x).map (nl L) := by
  unfold F_X8_addNode_27
  simp only [nmb, nbm, nim, nkR, nkI, nkZ, nkM, nkC, nkK, nsm, nwI, nwC, nbE, n_X8_fails, n_X8_in, n_X8_isToAdd, n_X8_record, n_X8_addNode_131]

theorem n_X8_addNode_26 (L : Nat → Nat → Nat → BitVec 64) (z : Nat) (v0 : Nat) (v1 : Int) (v2 : Int) (v3 : Int) (v4 : Int) (u0 : Nat) (x : Mm) : F_X8_addNode_26 z v0 v1 v2 v3 v4 u0 (x.1, L) = (F_X8_addNode_26 z v0 v1 v2 v3 v4 u0 x).map (nl L) := by
  unfold F_X8_addNode_26
  simp only [nmb, nbm, nim, nkR, nkI, nkZ, nkM, nkC, nkK, nsm, nwI, nwC, nbE, n_X8_addNode_27]

theorem n_X8_addNode (L : Nat → Nat → Nat → BitVec 64) (z : Nat) (v0 : Nat) (v1 : Int) (v2 : Int) (v3 : Int) (v4 : Int) (x : Mm) : F_X8_addNode z v0 v1 v2 v3 v4 (x.1, L) = (F_X8_addNode z v0 v1 v2 v3 v4 x).map (nl L) := by
  unfold F_X8_addNode
  simp only [nmb, nbm, nim, nkR, nkI, nkZ, nkM, nkC, nkK, nsm, nwI, nwC, nbE, n_X8_isClient, n_X8_addNode_26, n_X8_isNode, n_X8_addNode_27]

theorem n_X8_removeNode_93 (L : Nat → Nat → Nat → BitVec 64) (z : Nat) (v0 : Nat) (v1 : Int) (v2 : Int) : ∀ (k : Nat) (w0 : Int) (w1 : Int) (x : Mm), F_X8_removeNode_93 z v0 v1 v2 k w0 w1 (x.1, L) = (F_X8_removeNode_93 z v0 v1 v2 k w0 w1 x).map (nl L) := by
  intro k
  induction k with
  | zero => intro w0 w1 x; rfl
  | succ k ih =>
    intro w0 w1 x
    unfold F_X8_removeNode_93
    simp only [nmb, nbm, nim, nkR, nkI, nkZ, nkM, nkC, nkK, nsm, nwI, nwC, nbE, ih, n_X8_is, n_X8_isWithin, n_X8_partOf]

theorem n_X8_removeNode_75 (L : Nat → Nat → Nat → BitVec 64) (z : Nat) (v0 : Nat) (v1 : Int) (v2 : Int) (u0 : Int) (u1 : Nat) (x : Mm) : F_X8_removeNode_75 z v0 v1 v2 u0 u1 (x.1, L) = (F_X8_removeNode_75 z v0 v1 v2 u0 u1 x).map (nl L) := by
  unfold F_X8_removeNode_75
  simp only [nmb, nbm, nim, nkR, nkI, nkZ, nkM, nkC, nkK, nsm, nwI, nwC, nbE, n_X8_fails, n_X8_record, n_X8_removeNode_93]

theorem n_X8_removeNode_74 (L : Nat → Nat → Nat → BitVec 64) (z : Nat) (v0 : Nat) (v1 : Int) (v2 : Int) (u0 : Nat) (x : Mm) : F_X8_removeNode_74 z v0 v1 v2 u0 (x.1, L) = (F_X8_removeNode_74 z v0 v1 v2 u0 x).map (nl L) := by
  unfold F_X8_removeNode_74
  simp only [nmb, nbm, nim, nkR, nkI, nkZ, nkM, nkC, nkK, nsm, nwI, nwC, nbE, n_X8_removeNode_75]

theorem n_X8_removeNode_27 (L : Nat → Nat → Nat → BitVec 64) (z : Nat) (v0 : Nat) (v1 : Int) (v2 : Int) (u0 : Int) (u1 : Nat) (x : Mm) : F_X8_removeNode_27 z v0 v1 v2 u0 u1 (x.1, L) = (F_X8_removeNode_27 z v0 v1 v2 u0 u1 x).map (nl L) := by
  unfold F_X8_removeNode_27
  simp only [nmb, nbm, nim, nkR, nkI, nkZ, nkM, nkC, nkK, nsm, nwI, nwC, nbE, n_X8_fails, n_X8_hasLease, n_X8_removeNode_74, n_X8_is, n_X8_removeNode_75]

theorem n_X8_removeNode_26 (L : Nat → Nat → Nat → BitVec 64) (z : Nat) (v0 : Nat) (v1 : Int) (v2 : Int) (u0 : Nat) (x : Mm) : F_X8_removeNode_26 z v0 v1 v2 u0 (x.1, L) = (F_X8_removeNode_26 z v0 v1 v2 u0 x).map (nl L) := by
  unfold F_X8_removeNode_26
  simp only [nmb, nbm, nim, nkR, nkI, nkZ, nkM, nkC, nkK, nsm, nwI, nwC, nbE, n_X8_removeNode_27]

theorem n_X8_removeNode (L : Nat → Nat → Nat → BitVec 64) (z : Nat) (v0 : Nat) (v1 : Int) (v2 : Int) (x : Mm) : F_X8_removeNode z v0 v1 v2 (x.1, L) = (F_X8_removeNode z v0 v1 v2 x).map (nl L) := by
  unfold F_X8_removeNode
  simp only [nmb, nbm, nim, nkR, nkI, nkZ, nkM, nkC, nkK, nsm, nwI, nwC, nbE, n_X8_isClient, n_X8_removeNode_26, n_X8_isNode, n_X8_removeNode_27]

theorem n_X8_isChanged (L : Nat → Nat → Nat → BitVec 64) (z : Nat) (v0 : Nat) (v1 : Int) (v2 : Int) (v3 : Int) (x : Mm) : F_X8_isChanged z v0 v1 v2 v3 (x.1, L) = F_X8_isChanged z v0 v1 v2 v3 x := by
  unfold F_X8_isChanged
  simp only [nmb, nbm, nim, nkR, nkI, nkZ, nkM, nkC, nkK, nsm, nwI, nwC, nbE, n_X8_is, n_X8_old, n_X8_fresh]

theorem n_X8_changesOf_5 (L : Nat → Nat → Nat → BitVec 64) (z : Nat) (v0 : Nat) (v1 : Int) (v2 : Int) (x : Mm) : ∀ (k : Nat) (w0 : Int) (w1 : Int), F_X8_changesOf_5 z v0 v1 v2 (x.1, L) k w0 w1 = F_X8_changesOf_5 z v0 v1 v2 x k w0 w1 := by
  intro k
  induction k with
  | zero => intro w0 w1; rfl
  | succ k ih =>
    intro w0 w1
    unfold F_X8_changesOf_5
    simp only [nmb, nbm, nim, nkR, nkI, nkZ, nkM, nkC, nkK, nsm, nwI, nwC, nbE, ih, n_X8_isChanged]

theorem n_X8_changesOf (L : Nat → Nat → Nat → BitVec 64) (z : Nat) (v0 : Nat) (v1 : Int) (v2 : Int) (x : Mm) : F_X8_changesOf z v0 v1 v2 (x.1, L) = F_X8_changesOf z v0 v1 v2 x := by
  unfold F_X8_changesOf
  simp only [nmb, nbm, nim, nkR, nkI, nkZ, nkM, nkC, nkK, nsm, nwI, nwC, nbE, n_X8_changesOf_5]

theorem n_X8_allChanges_4 (L : Nat → Nat → Nat → BitVec 64) (z : Nat) (v0 : Nat) (v1 : Int) (x : Mm) : ∀ (k : Nat) (w0 : Int) (w1 : Int), F_X8_allChanges_4 z v0 v1 (x.1, L) k w0 w1 = F_X8_allChanges_4 z v0 v1 x k w0 w1 := by
  intro k
  induction k with
  | zero => intro w0 w1; rfl
  | succ k ih =>
    intro w0 w1
    unfold F_X8_allChanges_4
    simp only [nmb, nbm, nim, nkR, nkI, nkZ, nkM, nkC, nkK, nsm, nwI, nwC, nbE, ih, n_X8_changesOf]

theorem n_X8_allChanges (L : Nat → Nat → Nat → BitVec 64) (z : Nat) (v0 : Nat) (v1 : Int) (x : Mm) : F_X8_allChanges z v0 v1 (x.1, L) = F_X8_allChanges z v0 v1 x := by
  unfold F_X8_allChanges
  simp only [nmb, nbm, nim, nkR, nkI, nkZ, nkM, nkC, nkK, nsm, nwI, nwC, nbE, n_X8_allChanges_4]

theorem n_X8_dropConflict_19 (L : Nat → Nat → Nat → BitVec 64) (z : Nat) (v0 : Nat) (v1 : Int) : ∀ (k : Nat) (w0 : Int) (x : Mm), F_X8_dropConflict_19 z v0 v1 k w0 (x.1, L) = (F_X8_dropConflict_19 z v0 v1 k w0 x).map (nm L) := by
  intro k
  induction k with
  | zero => intro w0 x; rfl
  | succ k ih =>
    intro w0 x
    unfold F_X8_dropConflict_19
    simp only [nmb, nbm, nim, nkR, nkI, nkZ, nkM, nkC, nkK, nsm, nwI, nwC, nbE, ih]

theorem n_X8_dropConflict (L : Nat → Nat → Nat → BitVec 64) (z : Nat) (v0 : Nat) (v1 : Int) (x : Mm) : F_X8_dropConflict z v0 v1 (x.1, L) = (F_X8_dropConflict z v0 v1 x).map (nm L) := by
  unfold F_X8_dropConflict
  simp only [nmb, nbm, nim, nkR, nkI, nkZ, nkM, nkC, nkK, nsm, nwI, nwC, nbE, n_X8_dropConflict_19]

theorem n_X8_object_16 (L : Nat → Nat → Nat → BitVec 64) (z : Nat) (v0 : Nat) (v1 : Int) (v2 : Int) (v3 : Int) (v4 : Int) (v5 : Int) (x : Mm) : F_X8_object_16 z v0 v1 v2 v3 v4 v5 (x.1, L) = (F_X8_object_16 z v0 v1 v2 v3 v4 v5 x).map (nm L) := by
  unfold F_X8_object_16
  simp only [nmb, nbm, nim, nkR, nkI, nkZ, nkM, nkC, nkK, nsm, nwI, nwC, nbE]

theorem n_X8_object (L : Nat → Nat → Nat → BitVec 64) (z : Nat) (v0 : Nat) (v1 : Int) (v2 : Int) (v3 : Int) (v4 : Int) (v5 : Int) (x : Mm) : F_X8_object z v0 v1 v2 v3 v4 v5 (x.1, L) = (F_X8_object z v0 v1 v2 v3 v4 v5 x).map (nm L) := by
  unfold F_X8_object
  simp only [nmb, nbm, nim, nkR, nkI, nkZ, nkM, nkC, nkK, nsm, nwI, nwC, nbE, n_X8_dropConflict, n_X8_object_16]

theorem n_X8_childWith_2 (L : Nat → Nat → Nat → BitVec 64) (z : Nat) (v0 : Nat) (v1 : Int) (v2 : Int) (x : Mm) : ∀ (k : Nat) (w0 : Int), F_X8_childWith_2 z v0 v1 v2 (x.1, L) k w0 = F_X8_childWith_2 z v0 v1 v2 x k w0 := by
  intro k
  induction k with
  | zero => intro w0; rfl
  | succ k ih =>
    intro w0
    unfold F_X8_childWith_2
    simp only [nmb, nbm, nim, nkR, nkI, nkZ, nkM, nkC, nkK, nsm, nwI, nwC, nbE, ih, n_X8_isAlive]

theorem n_X8_childWith (L : Nat → Nat → Nat → BitVec 64) (z : Nat) (v0 : Nat) (v1 : Int) (v2 : Int) (x : Mm) : F_X8_childWith z v0 v1 v2 (x.1, L) = F_X8_childWith z v0 v1 v2 x := by
  unfold F_X8_childWith
  simp only [nmb, nbm, nim, nkR, nkI, nkZ, nkM, nkC, nkK, nsm, nwI, nwC, nbE, n_X8_childWith_2]

theorem n_X8_mergeAdded_79 (L : Nat → Nat → Nat → BitVec 64) (z : Nat) (v0 : Nat) (v1 : Int) (v2 : Int) : ∀ (k : Nat) (w0 : Int) (x : Mm), F_X8_mergeAdded_79 z v0 v1 v2 k w0 (x.1, L) = (F_X8_mergeAdded_79 z v0 v1 v2 k w0 x).map (nm L) := by
  intro k
  induction k with
  | zero => intro w0 x; rfl
  | succ k ih =>
    intro w0 x
    unfold F_X8_mergeAdded_79
    simp only [nmb, nbm, nim, nkR, nkI, nkZ, nkM, nkC, nkK, nsm, nwI, nwC, nbE, ih, n_X8_fresh]

theorem n_X8_mergeAdded (L : Nat → Nat → Nat → BitVec 64) (z : Nat) (v0 : Nat) (v1 : Int) (v2 : Int) (x : Mm) : F_X8_mergeAdded z v0 v1 v2 (x.1, L) = (F_X8_mergeAdded z v0 v1 v2 x).map (nm L) := by
  unfold F_X8_mergeAdded
  simp only [nmb, nbm, nim, nkR, nkI, nkZ, nkM, nkC, nkK, nsm, nwI, nwC, nbE, n_X8_isAlive, n_X8_object, n_X8_childWith, n_X8_mergeAdded_79]

theorem n_X8_mergeField (L : Nat → Nat → Nat → BitVec 64) (z : Nat) (v0 : Nat) (v1 : Int) (v2 : Int) (v3 : Int) (x : Mm) : F_X8_mergeField z v0 v1 v2 v3 (x.1, L) = (F_X8_mergeField z v0 v1 v2 v3 x).map (nm L) := by
  unfold F_X8_mergeField
  simp only [nmb, nbm, nim, nkR, nkI, nkZ, nkM, nkC, nkK, nsm, nwI, nwC, nbE, n_X8_old, n_X8_fresh, n_X8_value, n_X8_object]

theorem n_X8_mergeChanged_30 (L : Nat → Nat → Nat → BitVec 64) (z : Nat) (v0 : Nat) (v1 : Int) (v2 : Int) : ∀ (k : Nat) (w0 : Int) (x : Mm), F_X8_mergeChanged_30 z v0 v1 v2 k w0 (x.1, L) = (F_X8_mergeChanged_30 z v0 v1 v2 k w0 x).map (nm L) := by
  intro k
  induction k with
  | zero => intro w0 x; rfl
  | succ k ih =>
    intro w0 x
    unfold F_X8_mergeChanged_30
    simp only [nmb, nbm, nim, nkR, nkI, nkZ, nkM, nkC, nkK, nsm, nwI, nwC, nbE, ih, n_X8_isChanged, n_X8_mergeField]

theorem n_X8_mergeChanged (L : Nat → Nat → Nat → BitVec 64) (z : Nat) (v0 : Nat) (v1 : Int) (v2 : Int) (x : Mm) : F_X8_mergeChanged z v0 v1 v2 (x.1, L) = (F_X8_mergeChanged z v0 v1 v2 x).map (nm L) := by
  unfold F_X8_mergeChanged
  simp only [nmb, nbm, nim, nkR, nkI, nkZ, nkM, nkC, nkK, nsm, nwI, nwC, nbE, n_X8_changesOf, n_X8_isAlive, n_X8_object, n_X8_mergeChanged_30]

theorem n_X8_isAsInBase_11 (L : Nat → Nat → Nat → BitVec 64) (z : Nat) (v0 : Nat) (v1 : Int) (v2 : Int) (x : Mm) : ∀ (k : Nat) (w0 : Int) (w1 : Int), F_X8_isAsInBase_11 z v0 v1 v2 (x.1, L) k w0 w1 = F_X8_isAsInBase_11 z v0 v1 v2 x k w0 w1 := by
  intro k
  induction k with
  | zero => intro w0 w1; rfl
  | succ k ih =>
    intro w0 w1
    unfold F_X8_isAsInBase_11
    simp only [nmb, nbm, nim, nkR, nkI, nkZ, nkM, nkC, nkK, nsm, nwI, nwC, nbE, ih, n_X8_value, n_X8_old]

theorem n_X8_isAsInBase (L : Nat → Nat → Nat → BitVec 64) (z : Nat) (v0 : Nat) (v1 : Int) (v2 : Int) (x : Mm) : F_X8_isAsInBase z v0 v1 v2 (x.1, L) = F_X8_isAsInBase z v0 v1 v2 x := by
  unfold F_X8_isAsInBase
  simp only [nmb, nbm, nim, nkR, nkI, nkZ, nkM, nkC, nkK, nsm, nwI, nwC, nbE, n_X8_is, n_X8_isAsInBase_11]

theorem n_X8_kill_2 (L : Nat → Nat → Nat → BitVec 64) (z : Nat) (v0 : Nat) (v1 : Int) : ∀ (k : Nat) (w0 : Int) (x : Mm), F_X8_kill_2 z v0 v1 k w0 (x.1, L) = (F_X8_kill_2 z v0 v1 k w0 x).map (nm L) := by
  intro k
  induction k with
  | zero => intro w0 x; rfl
  | succ k ih =>
    intro w0 x
    unfold F_X8_kill_2
    simp only [nmb, nbm, nim, nkR, nkI, nkZ, nkM, nkC, nkK, nsm, nwI, nwC, nbE, ih, n_X8_isWithin]

theorem n_X8_kill (L : Nat → Nat → Nat → BitVec 64) (z : Nat) (v0 : Nat) (v1 : Int) (x : Mm) : F_X8_kill z v0 v1 (x.1, L) = (F_X8_kill z v0 v1 x).map (nm L) := by
  unfold F_X8_kill
  simp only [nmb, nbm, nim, nkR, nkI, nkZ, nkM, nkC, nkK, nsm, nwI, nwC, nbE, n_X8_kill_2]

theorem n_X8_mergeRemoved_14 (L : Nat → Nat → Nat → BitVec 64) (z : Nat) (v0 : Nat) (v1 : Int) (v2 : Int) (x : Mm) : ∀ (k : Nat) (w0 : Int) (w1 : Int), F_X8_mergeRemoved_14 z v0 v1 v2 (x.1, L) k w0 w1 = F_X8_mergeRemoved_14 z v0 v1 v2 x k w0 w1 := by
  intro k
  induction k with
  | zero => intro w0 w1; rfl
  | succ k ih =>
    intro w0 w1
    unfold F_X8_mergeRemoved_14
    simp only [nmb, nbm, nim, nkR, nkI, nkZ, nkM, nkC, nkK, nsm, nwI, nwC, nbE, ih, n_X8_isAlive, n_X8_isWithin, n_X8_isAsInBase]

theorem n_X8_mergeRemoved (L : Nat → Nat → Nat → BitVec 64) (z : Nat) (v0 : Nat) (v1 : Int) (v2 : Int) (x : Mm) : F_X8_mergeRemoved z v0 v1 v2 (x.1, L) = (F_X8_mergeRemoved z v0 v1 v2 x).map (nm L) := by
  unfold F_X8_mergeRemoved
  simp only [nmb, nbm, nim, nkR, nkI, nkZ, nkM, nkC, nkK, nsm, nwI, nwC, nbE, n_X8_isAlive, n_X8_mergeRemoved_14, n_X8_object, n_X8_kill]

theorem n_X8_isTop (L : Nat → Nat → Nat → BitVec 64) (z : Nat) (v0 : Nat) (v1 : Int) (v2 : Int) (x : Mm) : F_X8_isTop z v0 v1 v2 (x.1, L) = F_X8_isTop z v0 v1 v2 x := by
  unfold F_X8_isTop
  simp only [nmb, nbm, nim, nkR, nkI, nkZ, nkM, nkC, nkK, nsm, nwI, nwC, nbE, n_X8_is]

theorem n_X8_endLease_45 (L : Nat → Nat → Nat → BitVec 64) (z : Nat) (v0 : Nat) (v1 : Int) : ∀ (k : Nat) (w0 : Int) (x : Mm), F_X8_endLease_45 z v0 v1 k w0 (x.1, L) = (F_X8_endLease_45 z v0 v1 k w0 x).map (nm L) := by
  intro k
  induction k with
  | zero => intro w0 x; rfl
  | succ k ih =>
    intro w0 x
    unfold F_X8_endLease_45
    simp only [nmb, nbm, nim, nkR, nkI, nkZ, nkM, nkC, nkK, nsm, nwI, nwC, nbE, ih, n_X8_partOf]

theorem n_X8_endLease (L : Nat → Nat → Nat → BitVec 64) (z : Nat) (v0 : Nat) (v1 : Int) (x : Mm) : F_X8_endLease z v0 v1 (x.1, L) = (F_X8_endLease z v0 v1 x).map (nm L) := by
  unfold F_X8_endLease
  simp only [nmb, nbm, nim, nkR, nkI, nkZ, nkM, nkC, nkK, nsm, nwI, nwC, nbE, n_X8_endLease_45]

theorem n_X8_merge_7 (L : Nat → Nat → Nat → BitVec 64) (z : Nat) (v0 : Nat) (v1 : Int) : ∀ (k : Nat) (w0 : Int) (x : Mm), F_X8_merge_7 z v0 v1 k w0 (x.1, L) = (F_X8_merge_7 z v0 v1 k w0 x).map (nm L) := by
  intro k
  induction k with
  | zero => intro w0 x; rfl
  | succ k ih =>
    intro w0 x
    unfold F_X8_merge_7
    simp only [nmb, nbm, nim, nkR, nkI, nkZ, nkM, nkC, nkK, nsm, nwI, nwC, nbE, ih, n_X8_is, n_X8_mergeAdded]

theorem n_X8_merge_53 (L : Nat → Nat → Nat → BitVec 64) (z : Nat) (v0 : Nat) (v1 : Int) : ∀ (k : Nat) (w0 : Int) (x : Mm), F_X8_merge_53 z v0 v1 k w0 (x.1, L) = (F_X8_merge_53 z v0 v1 k w0 x).map (nm L) := by
  intro k
  induction k with
  | zero => intro w0 x; rfl
  | succ k ih =>
    intro w0 x
    unfold F_X8_merge_53
    simp only [nmb, nbm, nim, nkR, nkI, nkZ, nkM, nkC, nkK, nsm, nwI, nwC, nbE, ih, n_X8_mergeChanged]

theorem n_X8_merge_77 (L : Nat → Nat → Nat → BitVec 64) (z : Nat) (v0 : Nat) (v1 : Int) : ∀ (k : Nat) (w0 : Int) (x : Mm), F_X8_merge_77 z v0 v1 k w0 (x.1, L) = (F_X8_merge_77 z v0 v1 k w0 x).map (nm L) := by
  intro k
  induction k with
  | zero => intro w0 x; rfl
  | succ k ih =>
    intro w0 x
    unfold F_X8_merge_77
    simp only [nmb, nbm, nim, nkR, nkI, nkZ, nkM, nkC, nkK, nsm, nwI, nwC, nbE, ih, n_X8_isTop, n_X8_mergeRemoved]

theorem n_X8_merge (L : Nat → Nat → Nat → BitVec 64) (z : Nat) (v0 : Nat) (v1 : Int) (x : Mm) : F_X8_merge z v0 v1 (x.1, L) = (F_X8_merge z v0 v1 x).map (nl L) := by
  unfold F_X8_merge
  simp only [nmb, nbm, nim, nkR, nkI, nkZ, nkM, nkC, nkK, nsm, nwI, nwC, nbE, n_X8_merge_7, n_X8_merge_53, n_X8_merge_77, n_X8_endLease]

theorem n_X8_commit (L : Nat → Nat → Nat → BitVec 64) (z : Nat) (v0 : Nat) (v1 : Int) (x : Mm) : F_X8_commit z v0 v1 (x.1, L) = (F_X8_commit z v0 v1 x).map (nl L) := by
  unfold F_X8_commit
  simp only [nmb, nbm, nim, nkR, nkI, nkZ, nkM, nkC, nkK, nsm, nwI, nwC, nbE, n_X8_isClient, n_X8_fails, n_X8_hasLease, n_X8_record, n_X8_merge]

theorem n_X8_abandon (L : Nat → Nat → Nat → BitVec 64) (z : Nat) (v0 : Nat) (v1 : Int) (x : Mm) : F_X8_abandon z v0 v1 (x.1, L) = (F_X8_abandon z v0 v1 x).map (nl L) := by
  unfold F_X8_abandon
  simp only [nmb, nbm, nim, nkR, nkI, nkZ, nkM, nkC, nkK, nsm, nwI, nwC, nbE, n_X8_isClient, n_X8_fails, n_X8_hasLease, n_X8_record, n_X8_allChanges, n_X8_endLease]

theorem n_X8_resolve_140 (L : Nat → Nat → Nat → BitVec 64) (z : Nat) (v0 : Nat) (v1 : Int) (v2 : Int) (v4 : Int) (v5 : Int) (x : Mm) : F_X8_resolve_140 z v0 v1 v2 v4 v5 (x.1, L) = (F_X8_resolve_140 z v0 v1 v2 v4 v5 x).map (nl L) := by
  unfold F_X8_resolve_140
  simp only [nmb, nbm, nim, nkR, nkI, nkZ, nkM, nkC, nkK, nsm, nwI, nwC, nbE, n_X8_dropConflict, n_X8_kill]

theorem n_X8_resolve_87 (L : Nat → Nat → Nat → BitVec 64) (z : Nat) (v0 : Nat) (v1 : Int) (v2 : Int) (v3 : Int) (v4 : Int) (v5 : Int) (u0 : Int) (u1 : Nat) (x : Mm) : F_X8_resolve_87 z v0 v1 v2 v3 v4 v5 u0 u1 (x.1, L) = (F_X8_resolve_87 z v0 v1 v2 v3 v4 v5 u0 u1 x).map (nl L) := by
  unfold F_X8_resolve_87
  simp only [nmb, nbm, nim, nkR, nkI, nkZ, nkM, nkC, nkK, nsm, nwI, nwC, nbE, n_X8_fails, n_X8_record, n_X8_resolve_140]

theorem n_X8_resolve_82 (L : Nat → Nat → Nat → BitVec 64) (z : Nat) (v0 : Nat) (v1 : Int) (v2 : Int) (v3 : Int) (v4 : Int) (v5 : Int) (u0 : Nat) (x : Mm) : F_X8_resolve_82 z v0 v1 v2 v3 v4 v5 u0 (x.1, L) = (F_X8_resolve_82 z v0 v1 v2 v3 v4 v5 u0 x).map (nl L) := by
  unfold F_X8_resolve_82
  simp only [nmb, nbm, nim, nkR, nkI, nkZ, nkM, nkC, nkK, nsm, nwI, nwC, nbE, n_X8_resolve_87]

theorem n_X8_resolve_86 (L : Nat → Nat → Nat → BitVec 64) (z : Nat) (v0 : Nat) (v1 : Int) (v2 : Int) (v3 : Int) (v4 : Int) (v5 : Int) (u0 : Nat) (x : Mm) : F_X8_resolve_86 z v0 v1 v2 v3 v4 v5 u0 (x.1, L) = (F_X8_resolve_86 z v0 v1 v2 v3 v4 v5 u0 x).map (nl L) := by
  unfold F_X8_resolve_86
  simp only [nmb, nbm, nim, nkR, nkI, nkZ, nkM, nkC, nkK, nsm, nwI, nwC, nbE, n_X8_resolve_87]

theorem n_X8_resolve_73 (L : Nat → Nat → Nat → BitVec 64) (z : Nat) (v0 : Nat) (v1 : Int) (v2 : Int) (v3 : Int) (v4 : Int) (v5 : Int) (u0 : Nat) (x : Mm) : F_X8_resolve_73 z v0 v1 v2 v3 v4 v5 u0 (x.1, L) = (F_X8_resolve_73 z v0 v1 v2 v3 v4 v5 u0 x).map (nl L) := by
  unfold F_X8_resolve_73
  simp only [nmb, nbm, nim, nkR, nkI, nkZ, nkM, nkC, nkK, nsm, nwI, nwC, nbE, n_X8_isAlive, n_X8_resolve_86, n_X8_resolve_82]

theorem n_X8_resolve (L : Nat → Nat → Nat → BitVec 64) (z : Nat) (v0 : Nat) (v1 : Int) (v2 : Int) (x : Mm) : F_X8_resolve z v0 v1 v2 (x.1, L) = (F_X8_resolve z v0 v1 v2 x).map (nl L) := by
  unfold F_X8_resolve
  simp only [nmb, nbm, nim, nkR, nkI, nkZ, nkM, nkC, nkK, nsm, nwI, nwC, nbE, n_X8_in, n_X8_fails, n_X8_resolve_82, n_X8_resolve_73, n_X8_resolve_86]

theorem n_X8_advance_71 (L : Nat → Nat → Nat → BitVec 64) (z : Nat) (v0 : Nat) (v1 : Int) (v3 : Int) : ∀ (k : Nat) (w0 : Int) (w1 : Int) (x : Mm), F_X8_advance_71 z v0 v1 v3 k w0 w1 (x.1, L) = (F_X8_advance_71 z v0 v1 v3 k w0 w1 x).map (nl L) := by
  intro k
  induction k with
  | zero => intro w0 w1 x; rfl
  | succ k ih =>
    intro w0 w1 x
    unfold F_X8_advance_71
    simp only [nmb, nbm, nim, nkR, nkI, nkZ, nkM, nkC, nkK, nsm, nwI, nwC, nbE, ih, n_X8_hasLease, n_X8_merge]

theorem n_X8_advance_53 (L : Nat → Nat → Nat → BitVec 64) (z : Nat) (v0 : Nat) (v1 : Int) : ∀ (k : Nat) (w0 : Int) (w1 : Int) (x : Mm), F_X8_advance_53 z v0 v1 k w0 w1 (x.1, L) = (F_X8_advance_53 z v0 v1 k w0 w1 x).map (nl L) := by
  intro k
  induction k with
  | zero => intro w0 w1 x; rfl
  | succ k ih =>
    intro w0 w1 x
    unfold F_X8_advance_53
    simp only [nmb, nbm, nim, nkR, nkI, nkZ, nkM, nkC, nkK, nsm, nwI, nwC, nbE, ih, n_X8_advance_71]

theorem n_X8_advance_36 (L : Nat → Nat → Nat → BitVec 64) (z : Nat) (v0 : Nat) (v1 : Int) (u0 : Int) (u1 : Nat) (x : Mm) : F_X8_advance_36 z v0 v1 u0 u1 (x.1, L) = (F_X8_advance_36 z v0 v1 u0 u1 x).map (nl L) := by
  unfold F_X8_advance_36
  simp only [nmb, nbm, nim, nkR, nkI, nkZ, nkM, nkC, nkK, nsm, nwI, nwC, nbE, n_X8_fails, n_X8_record, n_X8_advance_53]

theorem n_X8_advance_35 (L : Nat → Nat → Nat → BitVec 64) (z : Nat) (v0 : Nat) (v1 : Int) (u0 : Nat) (x : Mm) : F_X8_advance_35 z v0 v1 u0 (x.1, L) = (F_X8_advance_35 z v0 v1 u0 x).map (nl L) := by
  unfold F_X8_advance_35
  simp only [nmb, nbm, nim, nkR, nkI, nkZ, nkM, nkC, nkK, nsm, nwI, nwC, nbE, n_X8_advance_36]

theorem n_X8_advance (L : Nat → Nat → Nat → BitVec 64) (z : Nat) (v0 : Nat) (v1 : Int) (x : Mm) : F_X8_advance z v0 v1 (x.1, L) = (F_X8_advance z v0 v1 x).map (nl L) := by
  unfold F_X8_advance
  simp only [nmb, nbm, nim, nkR, nkI, nkZ, nkM, nkC, nkK, nsm, nwI, nwC, nbE, n_X8_in, n_X8_advance_35, n_X8_advance_36]

theorem n_X8_tick (L : Nat → Nat → Nat → BitVec 64) (z : Nat) (v0 : Nat) (x : Mm) : F_X8_tick z v0 (x.1, L) = (F_X8_tick z v0 x).map (nl L) := by
  unfold F_X8_tick
  simp only [nmb, nbm, nim, nkR, nkI, nkZ, nkM, nkC, nkK, nsm, nwI, nwC, nbE]

theorem n_X8_setup (L : Nat → Nat → Nat → BitVec 64) (z : Nat) (v0 : Nat) (v1 : Int) (x : Mm) : F_X8_setup z v0 v1 (x.1, L) = (F_X8_setup z v0 v1 x).map (nl L) := by
  unfold F_X8_setup
  simp only [nmb, nbm, nim, nkR, nkI, nkZ, nkM, nkC, nkK, nsm, nwI, nwC, nbE, n_X8_in, n_X8_fails]

theorem n_X8_rule (L : Nat → Nat → Nat → BitVec 64) (z : Nat) (v0 : Nat) (v1 : Int) (x : Mm) : F_X8_rule z v0 v1 (x.1, L) = (F_X8_rule z v0 v1 x).map (nl L) := by
  unfold F_X8_rule
  simp only [nmb, nbm, nim, nkR, nkI, nkZ, nkM, nkC, nkK, nsm, nwI, nwC, nbE, n_X8_isField, n_X8_fails]

theorem n_X8_nodeCount (L : Nat → Nat → Nat → BitVec 64) (z : Nat) (v0 : Nat) (x : Mm) : F_X8_nodeCount z v0 (x.1, L) = (F_X8_nodeCount z v0 x).map (nl L) := by
  unfold F_X8_nodeCount
  simp only [nmb, nbm, nim, nkR, nkI, nkZ, nkM, nkC, nkK, nsm, nwI, nwC, nbE]

theorem n_X8_depth_4 (L : Nat → Nat → Nat → BitVec 64) (z : Nat) (v0 : Nat) (v1 : Int) (x : Mm) : ∀ (k : Nat) (w0 : Int) (w1 : Int), F_X8_depth_4 z v0 v1 (x.1, L) k w0 w1 = F_X8_depth_4 z v0 v1 x k w0 w1 := by
  intro k
  induction k with
  | zero => intro w0 w1; rfl
  | succ k ih =>
    intro w0 w1
    unfold F_X8_depth_4
    simp only [nmb, nbm, nim, nkR, nkI, nkZ, nkM, nkC, nkK, nsm, nwI, nwC, nbE, ih]

theorem n_X8_depth (L : Nat → Nat → Nat → BitVec 64) (z : Nat) (v0 : Nat) (v1 : Int) (x : Mm) : F_X8_depth z v0 v1 (x.1, L) = F_X8_depth z v0 v1 x := by
  unfold F_X8_depth
  simp only [nmb, nbm, nim, nkR, nkI, nkZ, nkM, nkC, nkK, nsm, nwI, nwC, nbE, n_X8_depth_4]

theorem n_X8_node (L : Nat → Nat → Nat → BitVec 64) (z : Nat) (v0 : Nat) (v1 : Int) (v2 : Int) (x : Mm) : F_X8_node z v0 v1 v2 (x.1, L) = (F_X8_node z v0 v1 v2 x).map (nl L) := by
  unfold F_X8_node
  simp only [nmb, nbm, nim, nkR, nkI, nkZ, nkM, nkC, nkK, nsm, nwI, nwC, nbE, n_X8_isNode, n_X8_fails, n_X8_in, n_X8_depth]

theorem n_X8_field_27 (L : Nat → Nat → Nat → BitVec 64) (z : Nat) (v0 : Nat) (v1 : Int) (v2 : Int) (u0 : Int) (u1 : Nat) (x : Mm) : F_X8_field_27 z v0 v1 v2 u0 u1 (x.1, L) = (F_X8_field_27 z v0 v1 v2 u0 u1 x).map (nl L) := by
  unfold F_X8_field_27
  simp only [nmb, nbm, nim, nkR, nkI, nkZ, nkM, nkC, nkK, nsm, nwI, nwC, nbE, n_X8_fails, n_X8_value]

theorem n_X8_field_26 (L : Nat → Nat → Nat → BitVec 64) (z : Nat) (v0 : Nat) (v1 : Int) (v2 : Int) (u0 : Nat) (x : Mm) : F_X8_field_26 z v0 v1 v2 u0 (x.1, L) = (F_X8_field_26 z v0 v1 v2 u0 x).map (nl L) := by
  unfold F_X8_field_26
  simp only [nmb, nbm, nim, nkR, nkI, nkZ, nkM, nkC, nkK, nsm, nwI, nwC, nbE, n_X8_field_27]

theorem n_X8_field (L : Nat → Nat → Nat → BitVec 64) (z : Nat) (v0 : Nat) (v1 : Int) (v2 : Int) (x : Mm) : F_X8_field z v0 v1 v2 (x.1, L) = (F_X8_field z v0 v1 v2 x).map (nl L) := by
  unfold F_X8_field
  simp only [nmb, nbm, nim, nkR, nkI, nkZ, nkM, nkC, nkK, nsm, nwI, nwC, nbE, n_X8_isNode, n_X8_field_26, n_X8_isField, n_X8_field_27]

theorem n_X8_childrenOf_4 (L : Nat → Nat → Nat → BitVec 64) (z : Nat) (v0 : Nat) (v1 : Int) (x : Mm) : ∀ (k : Nat) (w0 : Int) (w1 : Int), F_X8_childrenOf_4 z v0 v1 (x.1, L) k w0 w1 = F_X8_childrenOf_4 z v0 v1 x k w0 w1 := by
  intro k
  induction k with
  | zero => intro w0 w1; rfl
  | succ k ih =>
    intro w0 w1
    unfold F_X8_childrenOf_4
    simp only [nmb, nbm, nim, nkR, nkI, nkZ, nkM, nkC, nkK, nsm, nwI, nwC, nbE, ih, n_X8_isAlive]

theorem n_X8_childrenOf (L : Nat → Nat → Nat → BitVec 64) (z : Nat) (v0 : Nat) (v1 : Int) (x : Mm) : F_X8_childrenOf z v0 v1 (x.1, L) = F_X8_childrenOf z v0 v1 x := by
  unfold F_X8_childrenOf
  simp only [nmb, nbm, nim, nkR, nkI, nkZ, nkM, nkC, nkK, nsm, nwI, nwC, nbE, n_X8_childrenOf_4]

theorem n_X8_childAt_45 (L : Nat → Nat → Nat → BitVec 64) (z : Nat) (v0 : Nat) (v1 : Int) (v2 : Int) (v3 : Int) (v4 : Int) (x : Mm) : ∀ (k : Nat) (w0 : Int) (w1 : Int), F_X8_childAt_45 z v0 v1 v2 v3 v4 (x.1, L) k w0 w1 = F_X8_childAt_45 z v0 v1 v2 v3 v4 x k w0 w1 := by
  intro k
  induction k with
  | zero => intro w0 w1; rfl
  | succ k ih =>
    intro w0 w1
    unfold F_X8_childAt_45
    simp only [nmb, nbm, nim, nkR, nkI, nkZ, nkM, nkC, nkK, nsm, nwI, nwC, nbE, ih, n_X8_isAlive]

theorem n_X8_childAt_5 (L : Nat → Nat → Nat → BitVec 64) (z : Nat) (v0 : Nat) (v1 : Int) (v2 : Int) (x : Mm) : ∀ (k : Nat) (w0 : Int) (w1 : Int), F_X8_childAt_5 z v0 v1 v2 (x.1, L) k w0 w1 = F_X8_childAt_5 z v0 v1 v2 x k w0 w1 := by
  intro k
  induction k with
  | zero => intro w0 w1; rfl
  | succ k ih =>
    intro w0 w1
    unfold F_X8_childAt_5
    simp only [nmb, nbm, nim, nkR, nkI, nkZ, nkM, nkC, nkK, nsm, nwI, nwC, nbE, ih, n_X8_isAlive, n_X8_childAt_45]

theorem n_X8_childAt (L : Nat → Nat → Nat → BitVec 64) (z : Nat) (v0 : Nat) (v1 : Int) (v2 : Int) (x : Mm) : F_X8_childAt z v0 v1 v2 (x.1, L) = F_X8_childAt z v0 v1 v2 x := by
  unfold F_X8_childAt
  simp only [nmb, nbm, nim, nkR, nkI, nkZ, nkM, nkC, nkK, nsm, nwI, nwC, nbE, n_X8_childAt_5]

theorem n_X8_childCount (L : Nat → Nat → Nat → BitVec 64) (z : Nat) (v0 : Nat) (v1 : Int) (x : Mm) : F_X8_childCount z v0 v1 (x.1, L) = (F_X8_childCount z v0 v1 x).map (nl L) := by
  unfold F_X8_childCount
  simp only [nmb, nbm, nim, nkR, nkI, nkZ, nkM, nkC, nkK, nsm, nwI, nwC, nbE, n_X8_isNode, n_X8_fails, n_X8_childrenOf]

theorem n_X8_child_34 (L : Nat → Nat → Nat → BitVec 64) (z : Nat) (v0 : Nat) (v1 : Int) (v2 : Int) (u0 : Int) (u1 : Nat) (x : Mm) : F_X8_child_34 z v0 v1 v2 u0 u1 (x.1, L) = (F_X8_child_34 z v0 v1 v2 u0 u1 x).map (nl L) := by
  unfold F_X8_child_34
  simp only [nmb, nbm, nim, nkR, nkI, nkZ, nkM, nkC, nkK, nsm, nwI, nwC, nbE, n_X8_fails, n_X8_childAt]

theorem n_X8_child_33 (L : Nat → Nat → Nat → BitVec 64) (z : Nat) (v0 : Nat) (v1 : Int) (v2 : Int) (u0 : Nat) (x : Mm) : F_X8_child_33 z v0 v1 v2 u0 (x.1, L) = (F_X8_child_33 z v0 v1 v2 u0 x).map (nl L) := by
  unfold F_X8_child_33
  simp only [nmb, nbm, nim, nkR, nkI, nkZ, nkM, nkC, nkK, nsm, nwI, nwC, nbE, n_X8_child_34]

theorem n_X8_child (L : Nat → Nat → Nat → BitVec 64) (z : Nat) (v0 : Nat) (v1 : Int) (v2 : Int) (x : Mm) : F_X8_child z v0 v1 v2 (x.1, L) = (F_X8_child z v0 v1 v2 x).map (nl L) := by
  unfold F_X8_child
  simp only [nmb, nbm, nim, nkR, nkI, nkZ, nkM, nkC, nkK, nsm, nwI, nwC, nbE, n_X8_isNode, n_X8_child_33, n_X8_childrenOf, n_X8_in, n_X8_child_34]

theorem n_X8_find_34 (L : Nat → Nat → Nat → BitVec 64) (z : Nat) (v0 : Nat) (v1 : Int) (v2 : Int) (u0 : Int) (u1 : Nat) (x : Mm) : F_X8_find_34 z v0 v1 v2 u0 u1 (x.1, L) = (F_X8_find_34 z v0 v1 v2 u0 u1 x).map (nl L) := by
  unfold F_X8_find_34
  simp only [nmb, nbm, nim, nkR, nkI, nkZ, nkM, nkC, nkK, nsm, nwI, nwC, nbE, n_X8_fails, n_X8_childWith]

theorem n_X8_find (L : Nat → Nat → Nat → BitVec 64) (z : Nat) (v0 : Nat) (v1 : Int) (v2 : Int) (x : Mm) : F_X8_find z v0 v1 v2 (x.1, L) = (F_X8_find z v0 v1 v2 x).map (nl L) := by
  unfold F_X8_find
  simp only [nmb, nbm, nim, nkR, nkI, nkZ, nkM, nkC, nkK, nsm, nwI, nwC, nbE, n_X8_isNode, n_X8_fails, n_X8_childWith, n_X8_find_34]

theorem n_X8_sizeOf_4 (L : Nat → Nat → Nat → BitVec 64) (z : Nat) (v0 : Nat) (v1 : Int) (x : Mm) : ∀ (k : Nat) (w0 : Int) (w1 : Int), F_X8_sizeOf_4 z v0 v1 (x.1, L) k w0 w1 = F_X8_sizeOf_4 z v0 v1 x k w0 w1 := by
  intro k
  induction k with
  | zero => intro w0 w1; rfl
  | succ k ih =>
    intro w0 w1
    unfold F_X8_sizeOf_4
    simp only [nmb, nbm, nim, nkR, nkI, nkZ, nkM, nkC, nkK, nsm, nwI, nwC, nbE, ih, n_X8_isAlive, n_X8_isWithin]

theorem n_X8_sizeOf (L : Nat → Nat → Nat → BitVec 64) (z : Nat) (v0 : Nat) (v1 : Int) (x : Mm) : F_X8_sizeOf z v0 v1 (x.1, L) = F_X8_sizeOf z v0 v1 x := by
  unfold F_X8_sizeOf
  simp only [nmb, nbm, nim, nkR, nkI, nkZ, nkM, nkC, nkK, nsm, nwI, nwC, nbE, n_X8_sizeOf_4]

theorem n_X8_walk_59 (L : Nat → Nat → Nat → BitVec 64) (z : Nat) (v0 : Nat) (v1 : Int) (v2 : Int) (v3 : Int) (x : Mm) : ∀ (k : Nat) (w0 : Int) (w1 : Int), F_X8_walk_59 z v0 v1 v2 v3 (x.1, L) k w0 w1 = F_X8_walk_59 z v0 v1 v2 v3 x k w0 w1 := by
  intro k
  induction k with
  | zero => intro w0 w1; rfl
  | succ k ih =>
    intro w0 w1
    unfold F_X8_walk_59
    simp only [nmb, nbm, nim, nkR, nkI, nkZ, nkM, nkC, nkK, nsm, nwI, nwC, nbE, ih, n_X8_childAt, n_X8_sizeOf]

theorem n_X8_walk_48 (L : Nat → Nat → Nat → BitVec 64) (z : Nat) (v0 : Nat) (v1 : Int) (v2 : Int) (x : Mm) : ∀ (k : Nat) (w0 : Int) (w1 : Int), F_X8_walk_48 z v0 v1 v2 (x.1, L) k w0 w1 = F_X8_walk_48 z v0 v1 v2 x k w0 w1 := by
  intro k
  induction k with
  | zero => intro w0 w1; rfl
  | succ k ih =>
    intro w0 w1
    unfold F_X8_walk_48
    simp only [nmb, nbm, nim, nkR, nkI, nkZ, nkM, nkC, nkK, nsm, nwI, nwC, nbE, ih, n_X8_walk_59, n_X8_childAt]

theorem n_X8_walk_34 (L : Nat → Nat → Nat → BitVec 64) (z : Nat) (v0 : Nat) (v1 : Int) (v2 : Int) (u0 : Int) (u1 : Nat) (x : Mm) : F_X8_walk_34 z v0 v1 v2 u0 u1 (x.1, L) = (F_X8_walk_34 z v0 v1 v2 u0 u1 x).map (nl L) := by
  unfold F_X8_walk_34
  simp only [nmb, nbm, nim, nkR, nkI, nkZ, nkM, nkC, nkK, nsm, nwI, nwC, nbE, n_X8_fails, n_X8_walk_48]

theorem n_X8_walk_33 (L : Nat → Nat → Nat → BitVec 64) (z : Nat) (v0 : Nat) (v1 : Int) (v2 : Int) (u0 : Nat) (x : Mm) : F_X8_walk_33 z v0 v1 v2 u0 (x.1, L) = (F_X8_walk_33 z v0 v1 v2 u0 x).map (nl L) := by
  unfold F_X8_walk_33
  simp only [nmb, nbm, nim, nkR, nkI, nkZ, nkM, nkC, nkK, nsm, nwI, nwC, nbE, n_X8_walk_34]

theorem n_X8_walk (L : Nat → Nat → Nat → BitVec 64) (z : Nat) (v0 : Nat) (v1 : Int) (v2 : Int) (x : Mm) : F_X8_walk z v0 v1 v2 (x.1, L) = (F_X8_walk z v0 v1 v2 x).map (nl L) := by
  unfold F_X8_walk
  simp only [nmb, nbm, nim, nkR, nkI, nkZ, nkM, nkC, nkK, nsm, nwI, nwC, nbE, n_X8_isNode, n_X8_walk_33, n_X8_sizeOf, n_X8_in, n_X8_walk_34]

theorem n_X8_size (L : Nat → Nat → Nat → BitVec 64) (z : Nat) (v0 : Nat) (v1 : Int) (x : Mm) : F_X8_size z v0 v1 (x.1, L) = (F_X8_size z v0 v1 x).map (nl L) := by
  unfold F_X8_size
  simp only [nmb, nbm, nim, nkR, nkI, nkZ, nkM, nkC, nkK, nsm, nwI, nwC, nbE, n_X8_isNode, n_X8_fails, n_X8_sizeOf]

theorem n_X8_isCounted (L : Nat → Nat → Nat → BitVec 64) (z : Nat) (v0 : Nat) (v1 : Int) (v2 : Int) (x : Mm) : F_X8_isCounted z v0 v1 v2 (x.1, L) = F_X8_isCounted z v0 v1 v2 x := by
  unfold F_X8_isCounted
  simp only [nmb, nbm, nim, nkR, nkI, nkZ, nkM, nkC, nkK, nsm, nwI, nwC, nbE, n_X8_isAlive, n_X8_isWithin]

theorem n_X8_total_41 (L : Nat → Nat → Nat → BitVec 64) (z : Nat) (v0 : Nat) (v1 : Int) (v2 : Int) (x : Mm) : ∀ (k : Nat) (w0 : BitVec 64) (w1 : Int), F_X8_total_41 z v0 v1 v2 (x.1, L) k w0 w1 = F_X8_total_41 z v0 v1 v2 x k w0 w1 := by
  intro k
  induction k with
  | zero => intro w0 w1; rfl
  | succ k ih =>
    intro w0 w1
    unfold F_X8_total_41
    simp only [nmb, nbm, nim, nkR, nkI, nkZ, nkM, nkC, nkK, nsm, nwI, nwC, nbE, ih, n_X8_isCounted, n_X8_value]

theorem n_X8_total_27 (L : Nat → Nat → Nat → BitVec 64) (z : Nat) (v0 : Nat) (v1 : Int) (v2 : Int) (u0 : Int) (u1 : Nat) (x : Mm) : F_X8_total_27 z v0 v1 v2 u0 u1 (x.1, L) = (F_X8_total_27 z v0 v1 v2 u0 u1 x).map (nl L) := by
  unfold F_X8_total_27
  simp only [nmb, nbm, nim, nkR, nkI, nkZ, nkM, nkC, nkK, nsm, nwI, nwC, nbE, n_X8_fails, n_X8_total_41]

theorem n_X8_total_26 (L : Nat → Nat → Nat → BitVec 64) (z : Nat) (v0 : Nat) (v1 : Int) (v2 : Int) (u0 : Nat) (x : Mm) : F_X8_total_26 z v0 v1 v2 u0 (x.1, L) = (F_X8_total_26 z v0 v1 v2 u0 x).map (nl L) := by
  unfold F_X8_total_26
  simp only [nmb, nbm, nim, nkR, nkI, nkZ, nkM, nkC, nkK, nsm, nwI, nwC, nbE, n_X8_total_27]

theorem n_X8_total (L : Nat → Nat → Nat → BitVec 64) (z : Nat) (v0 : Nat) (v1 : Int) (v2 : Int) (x : Mm) : F_X8_total z v0 v1 v2 (x.1, L) = (F_X8_total z v0 v1 v2 x).map (nl L) := by
  unfold F_X8_total
  simp only [nmb, nbm, nim, nkR, nkI, nkZ, nkM, nkC, nkK, nsm, nwI, nwC, nbE, n_X8_isNode, n_X8_total_26, n_X8_isField, n_X8_total_27]

theorem n_X8_greatest_41 (L : Nat → Nat → Nat → BitVec 64) (z : Nat) (v0 : Nat) (v1 : Int) (v2 : Int) (x : Mm) : ∀ (k : Nat) (w0 : Int) (w1 : Int), F_X8_greatest_41 z v0 v1 v2 (x.1, L) k w0 w1 = F_X8_greatest_41 z v0 v1 v2 x k w0 w1 := by
  intro k
  induction k with
  | zero => intro w0 w1; rfl
  | succ k ih =>
    intro w0 w1
    unfold F_X8_greatest_41
    simp only [nmb, nbm, nim, nkR, nkI, nkZ, nkM, nkC, nkK, nsm, nwI, nwC, nbE, ih, n_X8_isCounted, n_X8_value]

theorem n_X8_greatest_27 (L : Nat → Nat → Nat → BitVec 64) (z : Nat) (v0 : Nat) (v1 : Int) (v2 : Int) (u0 : Int) (u1 : Nat) (x : Mm) : F_X8_greatest_27 z v0 v1 v2 u0 u1 (x.1, L) = (F_X8_greatest_27 z v0 v1 v2 u0 u1 x).map (nl L) := by
  unfold F_X8_greatest_27
  simp only [nmb, nbm, nim, nkR, nkI, nkZ, nkM, nkC, nkK, nsm, nwI, nwC, nbE, n_X8_fails, n_X8_greatest_41]

theorem n_X8_greatest_26 (L : Nat → Nat → Nat → BitVec 64) (z : Nat) (v0 : Nat) (v1 : Int) (v2 : Int) (u0 : Nat) (x : Mm) : F_X8_greatest_26 z v0 v1 v2 u0 (x.1, L) = (F_X8_greatest_26 z v0 v1 v2 u0 x).map (nl L) := by
  unfold F_X8_greatest_26
  simp only [nmb, nbm, nim, nkR, nkI, nkZ, nkM, nkC, nkK, nsm, nwI, nwC, nbE, n_X8_greatest_27]

theorem n_X8_greatest (L : Nat → Nat → Nat → BitVec 64) (z : Nat) (v0 : Nat) (v1 : Int) (v2 : Int) (x : Mm) : F_X8_greatest z v0 v1 v2 (x.1, L) = (F_X8_greatest z v0 v1 v2 x).map (nl L) := by
  unfold F_X8_greatest
  simp only [nmb, nbm, nim, nkR, nkI, nkZ, nkM, nkC, nkK, nsm, nwI, nwC, nbE, n_X8_isNode, n_X8_greatest_26, n_X8_isField, n_X8_greatest_27]

theorem n_X8_leased (L : Nat → Nat → Nat → BitVec 64) (z : Nat) (v0 : Nat) (v1 : Int) (v2 : Int) (x : Mm) : F_X8_leased z v0 v1 v2 (x.1, L) = (F_X8_leased z v0 v1 v2 x).map (nl L) := by
  unfold F_X8_leased
  simp only [nmb, nbm, nim, nkR, nkI, nkZ, nkM, nkC, nkK, nsm, nwI, nwC, nbE, n_X8_isClient, n_X8_fails, n_X8_in, n_X8_hasLease]

theorem n_X8_blockers_27 (L : Nat → Nat → Nat → BitVec 64) (z : Nat) (v0 : Nat) (v1 : Int) (v2 : Int) (v3 : Int) (u0 : Int) (u1 : Nat) (x : Mm) : F_X8_blockers_27 z v0 v1 v2 v3 u0 u1 (x.1, L) = (F_X8_blockers_27 z v0 v1 v2 v3 u0 u1 x).map (nl L) := by
  unfold F_X8_blockers_27
  simp only [nmb, nbm, nim, nkR, nkI, nkZ, nkM, nkC, nkK, nsm, nwI, nwC, nbE, n_X8_fails, n_X8_blockersOf]

theorem n_X8_blockers_26 (L : Nat → Nat → Nat → BitVec 64) (z : Nat) (v0 : Nat) (v1 : Int) (v2 : Int) (v3 : Int) (u0 : Nat) (x : Mm) : F_X8_blockers_26 z v0 v1 v2 v3 u0 (x.1, L) = (F_X8_blockers_26 z v0 v1 v2 v3 u0 x).map (nl L) := by
  unfold F_X8_blockers_26
  simp only [nmb, nbm, nim, nkR, nkI, nkZ, nkM, nkC, nkK, nsm, nwI, nwC, nbE, n_X8_blockers_27]

theorem n_X8_blockers (L : Nat → Nat → Nat → BitVec 64) (z : Nat) (v0 : Nat) (v1 : Int) (v2 : Int) (v3 : Int) (x : Mm) : F_X8_blockers z v0 v1 v2 v3 (x.1, L) = (F_X8_blockers z v0 v1 v2 v3 x).map (nl L) := by
  unfold F_X8_blockers
  simp only [nmb, nbm, nim, nkR, nkI, nkZ, nkM, nkC, nkK, nsm, nwI, nwC, nbE, n_X8_isClient, n_X8_blockers_26, n_X8_isNode, n_X8_blockers_27]

theorem n_X8_nextEnd_11 (L : Nat → Nat → Nat → BitVec 64) (z : Nat) (v0 : Nat) (x : Mm) : ∀ (k : Nat) (w0 : Int) (w1 : Int), F_X8_nextEnd_11 z v0 (x.1, L) k w0 w1 = F_X8_nextEnd_11 z v0 x k w0 w1 := by
  intro k
  induction k with
  | zero => intro w0 w1; rfl
  | succ k ih =>
    intro w0 w1
    unfold F_X8_nextEnd_11
    simp only [nmb, nbm, nim, nkR, nkI, nkZ, nkM, nkC, nkK, nsm, nwI, nwC, nbE, ih, n_X8_hasLease]

theorem n_X8_nextEnd (L : Nat → Nat → Nat → BitVec 64) (z : Nat) (v0 : Nat) (x : Mm) : F_X8_nextEnd z v0 (x.1, L) = (F_X8_nextEnd z v0 x).map (nl L) := by
  unfold F_X8_nextEnd
  simp only [nmb, nbm, nim, nkR, nkI, nkZ, nkM, nkC, nkK, nsm, nwI, nwC, nbE, n_X8_nextEnd_11, n_X8_fails]

theorem n_X8_isInCopy_27 (L : Nat → Nat → Nat → BitVec 64) (z : Nat) (v0 : Nat) (v1 : Int) (v2 : Int) (u0 : Int) (u1 : Nat) (x : Mm) : F_X8_isInCopy_27 z v0 v1 v2 u0 u1 (x.1, L) = (F_X8_isInCopy_27 z v0 v1 v2 u0 u1 x).map (nl L) := by
  unfold F_X8_isInCopy_27
  simp only [nmb, nbm, nim, nkR, nkI, nkZ, nkM, nkC, nkK, nsm, nwI, nwC, nbE, n_X8_fails, n_X8_hasLease, n_X8_is]

theorem n_X8_isInCopy_26 (L : Nat → Nat → Nat → BitVec 64) (z : Nat) (v0 : Nat) (v1 : Int) (v2 : Int) (u0 : Nat) (x : Mm) : F_X8_isInCopy_26 z v0 v1 v2 u0 (x.1, L) = (F_X8_isInCopy_26 z v0 v1 v2 u0 x).map (nl L) := by
  unfold F_X8_isInCopy_26
  simp only [nmb, nbm, nim, nkR, nkI, nkZ, nkM, nkC, nkK, nsm, nwI, nwC, nbE, n_X8_isInCopy_27]

theorem n_X8_isInCopy (L : Nat → Nat → Nat → BitVec 64) (z : Nat) (v0 : Nat) (v1 : Int) (v2 : Int) (x : Mm) : F_X8_isInCopy z v0 v1 v2 (x.1, L) = (F_X8_isInCopy z v0 v1 v2 x).map (nl L) := by
  unfold F_X8_isInCopy
  simp only [nmb, nbm, nim, nkR, nkI, nkZ, nkM, nkC, nkK, nsm, nwI, nwC, nbE, n_X8_isClient, n_X8_isInCopy_26, n_X8_isNode, n_X8_isInCopy_27]

theorem n_X8_copyField_67 (L : Nat → Nat → Nat → BitVec 64) (z : Nat) (v0 : Nat) (v1 : Int) (v2 : Int) (v3 : Int) (u0 : Int) (u1 : Nat) (x : Mm) : F_X8_copyField_67 z v0 v1 v2 v3 u0 u1 (x.1, L) = (F_X8_copyField_67 z v0 v1 v2 v3 u0 u1 x).map (nl L) := by
  unfold F_X8_copyField_67
  simp only [nmb, nbm, nim, nkR, nkI, nkZ, nkM, nkC, nkK, nsm, nwI, nwC, nbE, n_X8_fails, n_X8_fresh]

theorem n_X8_copyField_66 (L : Nat → Nat → Nat → BitVec 64) (z : Nat) (v0 : Nat) (v1 : Int) (v2 : Int) (v3 : Int) (u0 : Nat) (x : Mm) : F_X8_copyField_66 z v0 v1 v2 v3 u0 (x.1, L) = (F_X8_copyField_66 z v0 v1 v2 v3 u0 x).map (nl L) := by
  unfold F_X8_copyField_66
  simp only [nmb, nbm, nim, nkR, nkI, nkZ, nkM, nkC, nkK, nsm, nwI, nwC, nbE, n_X8_copyField_67]

theorem n_X8_copyField_35 (L : Nat → Nat → Nat → BitVec 64) (z : Nat) (v0 : Nat) (v1 : Int) (v2 : Int) (v3 : Int) (u0 : Int) (u1 : Nat) (x : Mm) : F_X8_copyField_35 z v0 v1 v2 v3 u0 u1 (x.1, L) = (F_X8_copyField_35 z v0 v1 v2 v3 u0 u1 x).map (nl L) := by
  unfold F_X8_copyField_35
  simp only [nmb, nbm, nim, nkR, nkI, nkZ, nkM, nkC, nkK, nsm, nwI, nwC, nbE, n_X8_fails, n_X8_hasLease, n_X8_copyField_66, n_X8_is, n_X8_copyField_67]

theorem n_X8_copyField_34 (L : Nat → Nat → Nat → BitVec 64) (z : Nat) (v0 : Nat) (v1 : Int) (v2 : Int) (v3 : Int) (u0 : Nat) (x : Mm) : F_X8_copyField_34 z v0 v1 v2 v3 u0 (x.1, L) = (F_X8_copyField_34 z v0 v1 v2 v3 u0 x).map (nl L) := by
  unfold F_X8_copyField_34
  simp only [nmb, nbm, nim, nkR, nkI, nkZ, nkM, nkC, nkK, nsm, nwI, nwC, nbE, n_X8_copyField_35]

theorem n_X8_copyField (L : Nat → Nat → Nat → BitVec 64) (z : Nat) (v0 : Nat) (v1 : Int) (v2 : Int) (v3 : Int) (x : Mm) : F_X8_copyField z v0 v1 v2 v3 (x.1, L) = (F_X8_copyField z v0 v1 v2 v3 x).map (nl L) := by
  unfold F_X8_copyField
  simp only [nmb, nbm, nim, nkR, nkI, nkZ, nkM, nkC, nkK, nsm, nwI, nwC, nbE, n_X8_isClient, n_X8_copyField_34, n_X8_isNode, n_X8_isField, n_X8_copyField_35]

theorem n_X8_changedCount (L : Nat → Nat → Nat → BitVec 64) (z : Nat) (v0 : Nat) (v1 : Int) (x : Mm) : F_X8_changedCount z v0 v1 (x.1, L) = (F_X8_changedCount z v0 v1 x).map (nl L) := by
  unfold F_X8_changedCount
  simp only [nmb, nbm, nim, nkR, nkI, nkZ, nkM, nkC, nkK, nsm, nwI, nwC, nbE, n_X8_isClient, n_X8_fails, n_X8_hasLease, n_X8_allChanges]

theorem n_X8_preview (L : Nat → Nat → Nat → BitVec 64) (z : Nat) (v0 : Nat) (v1 : Int) (x : Mm) : F_X8_preview z v0 v1 (x.1, L) = (F_X8_preview z v0 v1 x).map (nl L) := by
  unfold F_X8_preview
  simp only [nmb, nbm, nim, nkR, nkI, nkZ, nkM, nkC, nkK, nsm, nwI, nwC, nbE, n_X8_isClient, n_X8_fails, n_X8_hasLease, n_X8_copy, n_X8_merge]

theorem n_X8_wouldBe_35 (L : Nat → Nat → Nat → BitVec 64) (z : Nat) (v0 : Nat) (v1 : Int) (v2 : Int) (v3 : Int) (u0 : Int) (u1 : Nat) (x : Mm) : F_X8_wouldBe_35 z v0 v1 v2 v3 u0 u1 (x.1, L) = (F_X8_wouldBe_35 z v0 v1 v2 v3 u0 u1 x).map (nl L) := by
  unfold F_X8_wouldBe_35
  simp only [nmb, nbm, nim, nkR, nkI, nkZ, nkM, nkC, nkK, nsm, nwI, nwC, nbE, n_X8_fails, n_X8_hasLease, n_X8_copy, n_X8_merge, n_X8_isAlive, n_X8_value]

theorem n_X8_wouldBe_34 (L : Nat → Nat → Nat → BitVec 64) (z : Nat) (v0 : Nat) (v1 : Int) (v2 : Int) (v3 : Int) (u0 : Nat) (x : Mm) : F_X8_wouldBe_34 z v0 v1 v2 v3 u0 (x.1, L) = (F_X8_wouldBe_34 z v0 v1 v2 v3 u0 x).map (nl L) := by
  unfold F_X8_wouldBe_34
  simp only [nmb, nbm, nim, nkR, nkI, nkZ, nkM, nkC, nkK, nsm, nwI, nwC, nbE, n_X8_wouldBe_35]

theorem n_X8_wouldBe (L : Nat → Nat → Nat → BitVec 64) (z : Nat) (v0 : Nat) (v1 : Int) (v2 : Int) (v3 : Int) (x : Mm) : F_X8_wouldBe z v0 v1 v2 v3 (x.1, L) = (F_X8_wouldBe z v0 v1 v2 v3 x).map (nl L) := by
  unfold F_X8_wouldBe
  simp only [nmb, nbm, nim, nkR, nkI, nkZ, nkM, nkC, nkK, nsm, nwI, nwC, nbE, n_X8_isClient, n_X8_wouldBe_34, n_X8_isNode, n_X8_isField, n_X8_wouldBe_35]

theorem n_X8_isTrunkLike_36 (L : Nat → Nat → Nat → BitVec 64) (z : Nat) (v0 : Nat) (v1 : Nat) (v2 : Int) (x : Mm) : ∀ (k : Nat) (w0 : Int), F_X8_isTrunkLike_36 z v0 v1 v2 (x.1, L) k w0 = F_X8_isTrunkLike_36 z v0 v1 v2 x k w0 := by
  intro k
  induction k with
  | zero => intro w0; rfl
  | succ k ih =>
    intro w0
    unfold F_X8_isTrunkLike_36
    simp only [nmb, nbm, nim, nkR, nkI, nkZ, nkM, nkC, nkK, nsm, nwI, nwC, nbE, ih, n_X8_isAlive, n_X8_value]

theorem n_X8_isTrunkLike_2 (L : Nat → Nat → Nat → BitVec 64) (z : Nat) (v0 : Nat) (v1 : Nat) (x : Mm) : ∀ (k : Nat) (w0 : Int), F_X8_isTrunkLike_2 z v0 v1 (x.1, L) k w0 = F_X8_isTrunkLike_2 z v0 v1 x k w0 := by
  intro k
  induction k with
  | zero => intro w0; rfl
  | succ k ih =>
    intro w0
    unfold F_X8_isTrunkLike_2
    simp only [nmb, nbm, nim, nkR, nkI, nkZ, nkM, nkC, nkK, nsm, nwI, nwC, nbE, ih, n_X8_isTrunkLike_36]

theorem n_X8_isTrunkLike (L : Nat → Nat → Nat → BitVec 64) (z : Nat) (v0 : Nat) (v1 : Nat) (x : Mm) : F_X8_isTrunkLike z v0 v1 (x.1, L) = F_X8_isTrunkLike z v0 v1 x := by
  unfold F_X8_isTrunkLike
  simp only [nmb, nbm, nim, nkR, nkI, nkZ, nkM, nkC, nkK, nsm, nwI, nwC, nbE, n_X8_isTrunkLike_2]

theorem n_X8_isFree_168 (L : Nat → Nat → Nat → BitVec 64) (z : Nat) (v0 : Nat) (x : Mm) : F_X8_isFree_168 z v0 (x.1, L) = (F_X8_isFree_168 z v0 x).map (nl L) := by
  unfold F_X8_isFree_168
  simp only [nmb, nbm, nim, nkR, nkI, nkZ, nkM, nkC, nkK, nsm, nwI, nwC, nbE, n_X8_copy]

theorem n_X8_isFree_74 (L : Nat → Nat → Nat → BitVec 64) (z : Nat) (v0 : Nat) (v1 : Int) (v2 : Int) (u0 : Int) (u1 : Nat) (x : Mm) : F_X8_isFree_74 z v0 v1 v2 u0 u1 (x.1, L) = (F_X8_isFree_74 z v0 v1 v2 u0 u1 x).map (nl L) := by
  unfold F_X8_isFree_74
  simp only [nmb, nbm, nim, nkR, nkI, nkZ, nkM, nkC, nkK, nsm, nwI, nwC, nbE, n_X8_fails, n_X8_copy, n_X8_merge, n_X8_isTrunkLike, n_X8_isFree_168]

theorem n_X8_isFree_73 (L : Nat → Nat → Nat → BitVec 64) (z : Nat) (v0 : Nat) (v1 : Int) (v2 : Int) (u0 : Nat) (x : Mm) : F_X8_isFree_73 z v0 v1 v2 u0 (x.1, L) = (F_X8_isFree_73 z v0 v1 v2 u0 x).map (nl L) := by
  unfold F_X8_isFree_73
  simp only [nmb, nbm, nim, nkR, nkI, nkZ, nkM, nkC, nkK, nsm, nwI, nwC, nbE, n_X8_isFree_74]

theorem n_X8_isFree_45 (L : Nat → Nat → Nat → BitVec 64) (z : Nat) (v0 : Nat) (v1 : Int) (v2 : Int) (u0 : Int) (u1 : Nat) (x : Mm) : F_X8_isFree_45 z v0 v1 v2 u0 u1 (x.1, L) = (F_X8_isFree_45 z v0 v1 v2 u0 u1 x).map (nl L) := by
  unfold F_X8_isFree_45
  simp only [nmb, nbm, nim, nkR, nkI, nkZ, nkM, nkC, nkK, nsm, nwI, nwC, nbE, n_X8_fails, n_X8_hasLease, n_X8_isFree_73, n_X8_isFree_74]

theorem n_X8_isFree_27 (L : Nat → Nat → Nat → BitVec 64) (z : Nat) (v0 : Nat) (v1 : Int) (v2 : Int) (u0 : Int) (u1 : Nat) (x : Mm) : F_X8_isFree_27 z v0 v1 v2 u0 u1 (x.1, L) = (F_X8_isFree_27 z v0 v1 v2 u0 u1 x).map (nl L) := by
  unfold F_X8_isFree_27
  simp only [nmb, nbm, nim, nkR, nkI, nkZ, nkM, nkC, nkK, nsm, nwI, nwC, nbE, n_X8_fails, n_X8_isFree_45]

theorem n_X8_isFree_26 (L : Nat → Nat → Nat → BitVec 64) (z : Nat) (v0 : Nat) (v1 : Int) (v2 : Int) (u0 : Nat) (x : Mm) : F_X8_isFree_26 z v0 v1 v2 u0 (x.1, L) = (F_X8_isFree_26 z v0 v1 v2 u0 x).map (nl L) := by
  unfold F_X8_isFree_26
  simp only [nmb, nbm, nim, nkR, nkI, nkZ, nkM, nkC, nkK, nsm, nwI, nwC, nbE, n_X8_isFree_27]

theorem n_X8_isFree (L : Nat → Nat → Nat → BitVec 64) (z : Nat) (v0 : Nat) (v1 : Int) (v2 : Int) (x : Mm) : F_X8_isFree z v0 v1 v2 (x.1, L) = (F_X8_isFree z v0 v1 v2 x).map (nl L) := by
  unfold F_X8_isFree
  simp only [nmb, nbm, nim, nkR, nkI, nkZ, nkM, nkC, nkK, nsm, nwI, nwC, nbE, n_X8_isClient, n_X8_isFree_26, n_X8_isFree_27]

theorem n_X8_conflictCount (L : Nat → Nat → Nat → BitVec 64) (z : Nat) (v0 : Nat) (x : Mm) : F_X8_conflictCount z v0 (x.1, L) = (F_X8_conflictCount z v0 x).map (nl L) := by
  unfold F_X8_conflictCount
  simp only [nmb, nbm, nim, nkR, nkI, nkZ, nkM, nkC, nkK, nsm, nwI, nwC, nbE]

theorem n_X8_conflict (L : Nat → Nat → Nat → BitVec 64) (z : Nat) (v0 : Nat) (v1 : Int) (v2 : Int) (x : Mm) : F_X8_conflict z v0 v1 v2 (x.1, L) = (F_X8_conflict z v0 v1 v2 x).map (nl L) := by
  unfold F_X8_conflict
  simp only [nmb, nbm, nim, nkR, nkI, nkZ, nkM, nkC, nkK, nsm, nwI, nwC, nbE, n_X8_in, n_X8_fails]

theorem n_X8_conflictsOf_25 (L : Nat → Nat → Nat → BitVec 64) (z : Nat) (v0 : Nat) (v1 : Int) (x : Mm) : ∀ (k : Nat) (w0 : Int) (w1 : Int), F_X8_conflictsOf_25 z v0 v1 (x.1, L) k w0 w1 = F_X8_conflictsOf_25 z v0 v1 x k w0 w1 := by
  intro k
  induction k with
  | zero => intro w0 w1; rfl
  | succ k ih =>
    intro w0 w1
    unfold F_X8_conflictsOf_25
    simp only [nmb, nbm, nim, nkR, nkI, nkZ, nkM, nkC, nkK, nsm, nwI, nwC, nbE, ih]

theorem n_X8_conflictsOf (L : Nat → Nat → Nat → BitVec 64) (z : Nat) (v0 : Nat) (v1 : Int) (x : Mm) : F_X8_conflictsOf z v0 v1 (x.1, L) = (F_X8_conflictsOf z v0 v1 x).map (nl L) := by
  unfold F_X8_conflictsOf
  simp only [nmb, nbm, nim, nkR, nkI, nkZ, nkM, nkC, nkK, nsm, nwI, nwC, nbE, n_X8_in, n_X8_fails, n_X8_conflictsOf_25]
