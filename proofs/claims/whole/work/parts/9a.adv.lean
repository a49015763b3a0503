/-! advance, resolve. -/
section
variable {z : Nat} {x y : Mm} {r : Nat → Int}
theorem adv_loop (hz : 50000 ≤ z) {T : Int} : ∀ (t : Nat) (k : Nat) (i v : Int) (y : Mm) (r : Nat → Int), 0 ≤ i → i + (t : Int) = T → T ≤ 200 → t < k → Rs y 0 r → Zr r → qtk r + (t : Int) ≤ 9999 → 0 ≤ v → v + 5 * (t : Int) ≤ 2000 → ∃ y' r' n, F_X7_advance_52 z 0 T k v i y = some (v + n, y') ∧ (∀ (k2 : Nat) (d : Int) (M : Mm) (m : Nat → Int), t < k2 → ∃ d', F_X8_advance_53 z 0 T k2 v i (mS M m (r, d)) = some (v + n, mS M m (r', d'))) ∧ Rs y' 0 r' ∧ Zr r' ∧ Fo (fun o => o = 0) y y' := by
  intro t
  induction t with
  | zero =>
    intro k i v y r i0 hi hT hk hR hZ htk v0 v1
    obtain ⟨k, rfl⟩ : ∃ q, k = q + 1 := ⟨k - 1, by omega⟩
    refine ⟨y, r, 0, ?_, fun k2 d M m hk2 => ⟨d, ?_⟩, hR, hZ, Fg.rf⟩
    · show (if T ≤ i then _ else _) = _
      rw [if_pos (by omega), Int.add_zero]
    · obtain ⟨k2, rfl⟩ : ∃ q, k2 = q + 1 := ⟨k2 - 1, by omega⟩
      show (if T ≤ i then _ else _) = _
      rw [if_pos (by omega), Int.add_zero]
  | succ t ih =>
    intro k i v y r i0 hi hT hk hR hZ htk v0 v1
    obtain ⟨k, rfl⟩ : ∃ q, k = q + 1 := ⟨k - 1, by omega⟩
    have hb := hR.1.1
    have htk0 := hb.1
    have hcc := hb.2.2.1
    have cI : ∀ {α : Type} {A : Option α}, ckR (i + 1) A = A := fun {α} {A} => ckR_t (by omega) (by omega)
    have hR1 := Rs_tick (v := qtk r + 1) hR (by omega)
    have hZ1 : Zr (up r (0 : Int).toNat (qtk r + 1)) := zr_up hZ (by omega) (by omega)
    have ecc : qcc (up r (0 : Int).toNat (qtk r + 1)) = qcc r := up_i (by omega) (by omega) (by omega)
    have etk : qtk (up r (0 : Int).toNat (qtk r + 1)) = qtk r + 1 := up_s
    obtain ⟨y1, r1, n1, g1, g2, g3, g4, g5, g6, g7, g8, g9⟩ := tick_loop (z := z) hz (qcc r).toNat z 0 0 (pj y 6 0 (up (y.1 6 0) 0 (qtk r + 1))) (up r (0 : Int).toNat (qtk r + 1)) (by omega) (by rw [ecc]; omega) (by omega) hR1 hZ1 (by omega) (by omega)
    have g9' : n1 ≤ 5 := by omega
    obtain ⟨y', r', n, f1, f2, f3, f4, f5⟩ := ih k (i + 1) (v + n1) y1 r1 (by omega) (by omega) hT (by omega) g3 g4 (by rw [g7, etk]; omega) (by omega) (by omega)
    refine ⟨y', r', n1 + n, ?_, fun k2 d M m hk2 => ?_, f3, f4, ((fo_pj (p := fun o => o = 0) (own_s (by omega))).tr g5).tr f5⟩
    · show (if T ≤ i then _ else (F_X6_passTick z 0 y).bind _) = _
      have ep : F_X6_passTick z 0 y = some (n1, y1) := by
        unfold F_X6_passTick
        rw [hR.2.1.1, ckR_t (by omega) (by omega), sbind, wI_pj, g1, sbind]
        show some (0 + n1, y1) = _
        rw [Int.zero_add]
      rw [if_neg (by omega), ep, sbind]
      show ckR (v + n1) (ckR (i + 1) (F_X7_advance_52 z 0 T k (v + n1) (i + 1) y1)) = _
      rw [ckR_t (by omega) (by omega), cI, f1]; congr 2; omega
    · obtain ⟨k2, rfl⟩ : ∃ q, k2 = q + 1 := ⟨k2 - 1, by omega⟩
      obtain ⟨d1, gd⟩ := g2 z v d T i M m (by omega) v0 (by omega)
      obtain ⟨d', fd⟩ := f2 k2 d1 M m (by omega)
      refine ⟨d', ?_⟩
      show (if T ≤ i then _ else _) = _
      have e0 : (mS M m (r, d)).1 27 0 (0 : Int).toNat = qtk r := by rw [mS_r]; rfl
      rw [if_neg (by omega), ckI_t (by omega) (by omega), e0, ckR_t (by omega) (by omega), ckI_t (by omega) (by omega), sbind, wI_pj, mS_r, mS_pr]
      show (F_X8_advance_71 z 0 T i z v 0 (mS M m (up r (0 : Int).toNat (qtk r + 1), d))).bind _ = _
      rw [gd, sbind, cI]
      show F_X8_advance_53 z 0 T k2 (v + n1) (i + 1) (mS M m (r1, d1)) = _
      rw [fd]; congr 2; omega
theorem p_advance (hz : 50000 ≤ z) (h : Inv x) (t : Int) : Pr [sA] (F_X7_advance z 0 t) (F_X8_advance z 0 t) x := by
  have hb := h.1.1.1
  have htk : 0 ≤ x.1 27 0 (0 : Int).toNat ∧ x.1 27 0 (0 : Int).toNat ≤ 9999 := hb.1
  have h60 : x.1 6 0 0 = x.1 27 0 (0 : Int).toNat := h.1.2.1.1
  by_cases qt : 1 ≤ t ∧ t ≤ 200
  · by_cases ql : x.1 27 0 (0 : Int).toNat + t ≤ 9999
    · obtain ⟨y, e, hHI, hRy, hF⟩ := k_push (z := z) hz h.2.2.2.1 h.1 h.2.1
      obtain ⟨y1, r1, n, g1, g2, g3, g4, g5⟩ := adv_loop (z := z) hz (T := t) t.toNat z 0 0 y (x.1 27 0) (by omega) (by omega) (by omega) (by omega) hRy h.2.1 (by show x.1 27 0 (0 : Int).toNat + _ ≤ _; omega) (by omega) (by omega)
      rw [Int.zero_add] at g1
      obtain ⟨d', gd⟩ := g2 z ((rm y1 (hrec (x.1 28 0) (x.1 8 0 12) (x.1 27 0)) (enx (x.1 8 0 12))).1 8 0 14) (rm y1 (hrec (x.1 28 0) (x.1 8 0 12) (x.1 27 0)) (enx (x.1 8 0 12))) ((rm y1 (hrec (x.1 28 0) (x.1 8 0 12) (x.1 27 0)) (enx (x.1 8 0 12))).1 8 0) (by omega)
      rw [Int.zero_add] at gd
      refine Pr.chgM h hF hHI g5 g3 g4 (b := n) (d := d') ?_ (fun q => ?_)
      · unfold F_X7_advance
        rw [if_neg (by omega), if_neg (by omega), h60, ckR_t (by omega) (by omega), if_pos ql, e, sbind, g1, sbind]
      · have q27 := q 27 0 (by omega)
        unfold F_X8_advance F_X8_advance_36
        have hid := mS_id (x := rm y1 (hrec (x.1 28 0) (x.1 8 0 12) (x.1 27 0)) (enx (x.1 8 0 12)))
        rw [rm_C (C := 27) (by decide) (by decide), q27] at hid
        rw [sbind, th_w, e_in, sbind, dt qt, th_C (by decide), q27, ckI_t (by omega) (by omega), ckR_t (by omega) (by omega), if_neg (by omega), e_fails1, sbind, it0, n_rec hz h q, sbind, hid, gd, sbind]
        rw [← hid]
        rfl
    · refine Pr.get h (y := .inr sA) ?_ (b := 0) (t := 1) ?_ (Ok.x rfl (by decide))
      · unfold F_X7_advance
        rw [if_neg (by omega), if_neg (by omega), h60, ckR_t (by omega) (by omega), if_neg ql]
      · unfold F_X8_advance F_X8_advance_35 F_X8_advance_36
        rw [sbind, th_w, e_in, sbind, dt qt, th_C (by decide), ckI_t (by omega) (by omega), ckR_t (by omega) (by omega), if_pos (by omega), e_fails0, sbind, it1, th_th]
  · refine Pr.get h (y := .inr sA) ?_ (b := 0) (t := 1) ?_ (Ok.x rfl (by decide))
    · unfold F_X7_advance
      by_cases w : t < 1
      · rw [if_pos w]
      · rw [if_neg w, if_pos (by omega)]
    · unfold F_X8_advance F_X8_advance_35 F_X8_advance_36
      rw [sbind, th_w, e_in, sbind, df qt, e_fails0, sbind, it1, th_th]
end
