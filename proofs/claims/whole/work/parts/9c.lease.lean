/-! lease. -/
def qis (r : Nat → Int) (n m : Int) : Bool := decide (m < qct r) && (qal r m && win r m n)
def qlr (r : Nat → Int) (c n i e : Int) : Nat → Int := fun k => if 866 + 900 * c ≤ (k : Int) ∧ (k : Int) < 866 + 900 * c + i then b2i (qis r n ((k : Int) - (866 + 900 * c))) else if 866 + 900 * c + 60 ≤ (k : Int) ∧ (k : Int) < 866 + 900 * c + 60 + i then b2i (qis r n ((k : Int) - (866 + 900 * c + 60))) else if 866 + 900 * c + 120 ≤ (k : Int) ∧ (k : Int) < 866 + 900 * c + 120 + i then 0 else if 866 + 900 * c + 180 ≤ (k : Int) ∧ (k : Int) < 866 + 900 * c + 180 + e then b2i (qis r n (((k : Int) - (866 + 900 * c + 180)) / 6)) * r (251 + ((k : Int) - (866 + 900 * c + 180))).toNat else if 866 + 900 * c + 540 ≤ (k : Int) ∧ (k : Int) < 866 + 900 * c + 540 + e then b2i (qis r n (((k : Int) - (866 + 900 * c + 540)) / 6)) * r (251 + ((k : Int) - (866 + 900 * c + 540))).toNat else r k
section
variable {z : Nat} {x y : Mm} {r : Nat → Int} {c n : Int}
theorem qlr_0 : qlr r c n 0 0 = r := by
  funext k; unfold qlr
  rw [if_neg (by omega), if_neg (by omega), if_neg (by omega), if_neg (by omega), if_neg (by omega)]
theorem qlr_b {i e : Int} (i0 : 0 ≤ i) (i1 : i < 60) (c0 : 0 ≤ c) : up (up (up (qlr r c n i e) (866 + 900 * c + 0 + i).toNat (b2i (qis r n i))) (866 + 900 * c + 60 + i).toNat (b2i (qis r n i))) (866 + 900 * c + 120 + i).toNat 0 = qlr r c n (i + 1) e := by
  funext k
  by_cases q2 : k = (866 + 900 * c + 120 + i).toNat
  · rw [q2, up_s]; unfold qlr
    rw [if_neg (by omega), if_neg (by omega), if_pos (by omega)]
  · rw [up_n q2]
    by_cases q1 : k = (866 + 900 * c + 60 + i).toNat
    · rw [q1, up_s]; unfold qlr
      rw [if_neg (by omega), if_pos (by omega), show (((866 + 900 * c + 60 + i).toNat : Nat) : Int) - (866 + 900 * c + 60) = i by omega]
    · rw [up_n q1]
      by_cases q0 : k = (866 + 900 * c + 0 + i).toNat
      · rw [q0, up_s]; unfold qlr
        rw [if_pos (by omega), show (((866 + 900 * c + 0 + i).toNat : Nat) : Int) - (866 + 900 * c) = i by omega]
      · rw [up_n q0]; unfold qlr
        by_cases w1 : 866 + 900 * c ≤ (k : Int) ∧ (k : Int) < 866 + 900 * c + i
        · rw [if_pos w1, if_pos (show 866 + 900 * c ≤ (k : Int) ∧ (k : Int) < 866 + 900 * c + (i + 1) by omega)]
        · rw [if_neg w1, if_neg (show ¬ (866 + 900 * c ≤ (k : Int) ∧ (k : Int) < 866 + 900 * c + (i + 1)) by omega)]
          by_cases w2 : 866 + 900 * c + 60 ≤ (k : Int) ∧ (k : Int) < 866 + 900 * c + 60 + i
          · rw [if_pos w2, if_pos (show 866 + 900 * c + 60 ≤ (k : Int) ∧ (k : Int) < 866 + 900 * c + 60 + (i + 1) by omega)]
          · rw [if_neg w2, if_neg (show ¬ (866 + 900 * c + 60 ≤ (k : Int) ∧ (k : Int) < 866 + 900 * c + 60 + (i + 1)) by omega)]
            by_cases w3 : 866 + 900 * c + 120 ≤ (k : Int) ∧ (k : Int) < 866 + 900 * c + 120 + i
            · rw [if_pos w3, if_pos (show 866 + 900 * c + 120 ≤ (k : Int) ∧ (k : Int) < 866 + 900 * c + 120 + (i + 1) by omega)]
            · rw [if_neg w3, if_neg (show ¬ (866 + 900 * c + 120 ≤ (k : Int) ∧ (k : Int) < 866 + 900 * c + 120 + (i + 1)) by omega)]
theorem qlr_v {i m f : Int} (i0 : 0 ≤ i) (i1 : i ≤ 60) (m0 : 0 ≤ m) (m1 : m < 60) (f0 : 0 ≤ f) (f1 : f < 6) (c0 : 0 ≤ c) : up (up (qlr r c n i (6 * m + f)) (866 + 900 * c + 180 + (6 * m + f)).toNat (b2i (qis r n m) * qtv r m f)) (866 + 900 * c + 540 + (6 * m + f)).toNat (b2i (qis r n m) * qtv r m f) = qlr r c n i (6 * m + f + 1) := by
  funext k
  by_cases q2 : k = (866 + 900 * c + 540 + (6 * m + f)).toNat
  · rw [q2, up_s]; unfold qlr qtv
    have e1 : (((866 + 900 * c + 540 + (6 * m + f)).toNat : Nat) : Int) - (866 + 900 * c + 540) = 6 * m + f := by omega
    rw [if_neg (by omega), if_neg (by omega), if_neg (by omega), if_neg (by omega), if_pos (by omega), e1, show (6 * m + f) / 6 = m by omega, show 251 + 6 * m + f = 251 + (6 * m + f) by omega]
  · rw [up_n q2]
    by_cases q1 : k = (866 + 900 * c + 180 + (6 * m + f)).toNat
    · rw [q1, up_s]; unfold qlr qtv
      have e1 : (((866 + 900 * c + 180 + (6 * m + f)).toNat : Nat) : Int) - (866 + 900 * c + 180) = 6 * m + f := by omega
      rw [if_neg (by omega), if_neg (by omega), if_neg (by omega), if_pos (by omega), e1, show (6 * m + f) / 6 = m by omega, show 251 + 6 * m + f = 251 + (6 * m + f) by omega]
    · rw [up_n q1]; unfold qlr
      by_cases w1 : 866 + 900 * c ≤ (k : Int) ∧ (k : Int) < 866 + 900 * c + i
      · rw [if_pos w1, if_pos w1]
      · rw [if_neg w1, if_neg w1]
        by_cases w2 : 866 + 900 * c + 60 ≤ (k : Int) ∧ (k : Int) < 866 + 900 * c + 60 + i
        · rw [if_pos w2, if_pos w2]
        · rw [if_neg w2, if_neg w2]
          by_cases w3 : 866 + 900 * c + 120 ≤ (k : Int) ∧ (k : Int) < 866 + 900 * c + 120 + i
          · rw [if_pos w3, if_pos w3]
          · rw [if_neg w3, if_neg w3]
            by_cases w4 : 866 + 900 * c + 180 ≤ (k : Int) ∧ (k : Int) < 866 + 900 * c + 180 + (6 * m + f)
            · rw [if_pos w4, if_pos (show 866 + 900 * c + 180 ≤ (k : Int) ∧ (k : Int) < 866 + 900 * c + 180 + (6 * m + f + 1) by omega)]
            · rw [if_neg w4, if_neg (show ¬ (866 + 900 * c + 180 ≤ (k : Int) ∧ (k : Int) < 866 + 900 * c + 180 + (6 * m + f + 1)) by omega)]
              by_cases w5 : 866 + 900 * c + 540 ≤ (k : Int) ∧ (k : Int) < 866 + 900 * c + 540 + (6 * m + f)
              · rw [if_pos w5, if_pos (show 866 + 900 * c + 540 ≤ (k : Int) ∧ (k : Int) < 866 + 900 * c + 540 + (6 * m + f + 1) by omega)]
              · rw [if_neg w5, if_neg (show ¬ (866 + 900 * c + 540 ≤ (k : Int) ∧ (k : Int) < 866 + 900 * c + 540 + (6 * m + f + 1)) by omega)]
theorem qlr_S {i e : Int} (i1 : i ≤ 60) (e1 : e ≤ 360) (c0 : 0 ≤ c) : Slc r (qlr r c n i e) c := fun j j0 j1 j2 => by
  unfold qlr
  rw [if_neg (by omega), if_neg (by omega), if_neg (by omega), if_neg (by omega), if_neg (by omega)]
theorem e_lease247 (hz : 50000 ≤ z) {a b i v : Int} (c0 : 0 ≤ c) (c1 : c < 5) (i0 : 0 ≤ i) (i1 : i < 60) (hv : v = b2i (qis r n i)) (hr : ∀ f : Int, 0 ≤ f → f < 6 → -2147483648 ≤ qtv r i f ∧ qtv r i f ≤ 2147483647) : F_X8_lease_247 z 0 c a b i v z 0 (pj y 27 0 (qlr r c n (i + 1) (6 * i))) = some (pj y 27 0 (qlr r c n (i + 1) (6 * (i + 1)))) := by
  have hb2 := b2i_le (qis r n i)
  refine Tt.eq ?_
  refine loopU (fun k f (w : Mm) => F_X8_lease_247 z 0 c a b i v k f w) 6 (fun f w => 0 ≤ f ∧ f ≤ 6 ∧ w = pj y 27 0 (qlr r c n (i + 1) (6 * i + f))) _ ?_ ?_ z 0 _ (by omega) (by omega) ⟨by omega, by omega, by rw [Int.add_zero]⟩
  · rintro k w f hN ⟨f0, f1, rfl⟩
    refine Tt.of (v := pj y 27 0 (qlr r c n (i + 1) (6 * i + f))) (if_pos hN) ?_
    rw [show 6 * i + f = 6 * (i + 1) by omega]
  · rintro k w f hN ⟨f0, f1, rfl⟩
    refine Or.inl ⟨pj y 27 0 (qlr r c n (i + 1) (6 * i + (f + 1))), ?_, by omega, by omega, rfl⟩
    have hq := hr f f0 hN
    have hS := qlr_S (r := r) (c := c) (n := n) (i := i + 1) (e := 6 * i + f) (by omega) (by omega) c0
    have ev : qtv (qlr r c n (i + 1) (6 * i + f)) i f = qtv r i f := hS.sm c0 (by omega) (by omega) c1
    have hvr : -2147483648 ≤ v * qtv r i f ∧ v * qtv r i f ≤ 2147483647 := by
      rw [hv]; cases qis r n i
      · show -2147483648 ≤ 0 * _ ∧ 0 * _ ≤ _; rw [Int.zero_mul]; omega
      · show -2147483648 ≤ 1 * _ ∧ 1 * _ ≤ _; rw [Int.one_mul]; exact hq
    have e1 := e_value z i f (pj y 27 0 (qlr r c n (i + 1) (6 * i + f))) i0 (by omega) f0 (by omega)
    rw [pj_s, ev] at e1
    show (if (6 : Int) ≤ f then _ else _) = _
    rw [if_neg (by omega), ckR_t (by omega) (by omega), ckR_t (by omega) (by omega), e_partOf z c 180 _ _ c0 c1 (by omega) (by omega) (by omega), sbind, e1, sbind, ckR_t hvr.1 hvr.2, ckI_t (by omega) (by omega), sbind, wI_pj, pj_s, pj_pj, e_partOf z c 540 _ _ c0 c1 (by omega) (by omega) (by omega), sbind]
    have e2 := e_value z i f (pj y 27 0 (up (qlr r c n (i + 1) (6 * i + f)) (866 + 900 * c + 180 + (6 * i + f)).toNat (v * qtv r i f))) i0 (by omega) f0 (by omega)
    have ev2 : qtv (up (qlr r c n (i + 1) (6 * i + f)) (866 + 900 * c + 180 + (6 * i + f)).toNat (v * qtv r i f)) i f = qtv r i f := by
      unfold qtv at ev ⊢; rw [up_i (by omega) (by omega) (by omega)]; exact ev
    rw [pj_s, ev2] at e2
    rw [ckR_t (by omega) (by omega), ckR_t (by omega) (by omega), e2, sbind, ckR_t hvr.1 hvr.2, ckI_t (by omega) (by omega), sbind, wI_pj, pj_s, pj_pj, hv, qlr_v (by omega) (by omega) i0 (by omega) f0 (by omega) c0, ckR_t (by omega) (by omega), show 6 * i + f + 1 = 6 * i + (f + 1) by omega]
theorem e_lease157 (hz : 50000 ≤ z) {b : Int} (hb : Wb r) (ht : Wt r) (c0 : 0 ≤ c) (c1 : c < 5) (n0 : 0 ≤ n) (n1 : n < qct r) (hr : ∀ m f : Int, 0 ≤ m → m < 60 → 0 ≤ f → f < 6 → -2147483648 ≤ qtv r m f ∧ qtv r m f ≤ 2147483647) : F_X8_lease_157 z 0 c n b z 0 (pj y 27 0 r) = some (pj y 27 0 (qlr r c n 60 360)) := by
  have h60 := hb.2.2.2.1
  refine Tt.eq ?_
  refine loopU (fun k i (w : Mm) => F_X8_lease_157 z 0 c n b k i w) 60 (fun i w => 0 ≤ i ∧ i ≤ 60 ∧ w = pj y 27 0 (qlr r c n i (6 * i))) _ ?_ ?_ z 0 _ (by omega) (by omega) ⟨by omega, by omega, by rw [show (6 : Int) * 0 = 0 from rfl, qlr_0]⟩
  · rintro k w i hN ⟨i0, i1, rfl⟩
    refine Tt.of (v := pj y 27 0 (qlr r c n i (6 * i))) (if_pos hN) ?_
    rw [show i = 60 by omega]; rfl
  · rintro k w i hN ⟨i0, i1, rfl⟩
    refine Or.inl ⟨pj y 27 0 (qlr r c n (i + 1) (6 * (i + 1))), ?_, by omega, by omega, rfl⟩
    have hS := qlr_S (r := r) (c := c) (n := n) (i := i) (e := 6 * i) (by omega) (by omega) c0
    have e3 : (pj y 27 0 (qlr r c n i (6 * i))).1 27 0 (3 : Int).toNat = qct r := by rw [pj_s]; exact hS.ct c0 c1
    have w3 : ∀ v : Int, v = b2i (qis r n i) → ((F_X8_partOf z c 0 i (pj y 27 0 (qlr r c n i (6 * i)))).bind fun r34 => ckI r34 5366 <| (some (wI (pj y 27 0 (qlr r c n i (6 * i))) 27 0 (r34).toNat v)).bind fun x36 => (F_X8_partOf z c 60 i x36).bind fun r38 => ckI r38 5366 <| (some (wI x36 27 0 (r38).toNat v)).bind fun x40 => (F_X8_partOf z c 120 i x40).bind fun r42 => ckI r42 5366 <| (some (wI x40 27 0 (r42).toNat (0 : Int))).bind fun x44 => (F_X8_lease_247 z 0 c n b i v z 0 x44).bind fun s64 => ckR (i + 1) <| F_X8_lease_157 z 0 c n b k (i + 1) s64) = F_X8_lease_157 z 0 c n b k (i + 1) (pj y 27 0 (qlr r c n (i + 1) (6 * (i + 1)))) := by
      intro v hv
      rw [e_partOf z c 0 i _ c0 c1 (by omega) i0 (by omega), sbind, ckI_t (by omega) (by omega), sbind, wI_pj, pj_s, pj_pj, e_partOf z c 60 i _ c0 c1 (by omega) i0 (by omega), sbind, ckI_t (by omega) (by omega), sbind, wI_pj, pj_s, pj_pj, e_partOf z c 120 i _ c0 c1 (by omega) i0 (by omega), sbind, ckI_t (by omega) (by omega), sbind, wI_pj, pj_s, pj_pj, hv, qlr_b i0 hN c0, e_lease247 hz c0 c1 i0 hN rfl (fun f f0 f1 => hr i f i0 hN f0 f1), sbind, ckR_t (by omega) (by omega)]
    show (if (60 : Int) ≤ i then _ else _) = _
    rw [if_neg (by omega), ckI_t (by omega) (by omega), e3]
    by_cases q : qct r ≤ i
    · rw [if_pos q]
      exact w3 0 (by unfold qis; rw [decide_eq_false (by omega)]; rfl)
    · have ea := e_isAlive z i (pj y 27 0 (qlr r c n i (6 * i))) i0 (by omega)
      rw [pj_s, show qal (qlr r c n i (6 * i)) i = qal r i from by unfold qal; rw [hS.sm c0 (by omega) (by omega) c1]] at ea
      have hb' : Wb (qlr r c n i (6 * i)) := by
        unfold Wb
        rw [show qtk (qlr r c n i (6 * i)) = qtk r from hS.sm c0 (by omega) (by omega) c1, hS.fc c0 c1, show qcc (qlr r c n i (6 * i)) = qcc r from hS.sm c0 (by omega) (by omega) c1, hS.ct c0 c1, show qkc (qlr r c n i (6 * i)) = qkc r from hS.sm c0 (by omega) (by omega) c1]; exact hb
      have ht' : Wt (qlr r c n i (6 * i)) := by
        have ep : ∀ m : Int, 0 ≤ m → m < 60 → qpa (qlr r c n i (6 * i)) m = qpa r m ∧ qlb (qlr r c n i (6 * i)) m = qlb r m := fun m m0 m1 => ⟨hS.sm c0 (by omega) (by omega) c1, hS.sm c0 (by omega) (by omega) c1⟩
        refine ⟨by rw [(ep 0 (by omega) (by omega)).1]; exact ht.1, by rw [(ep 0 (by omega) (by omega)).2]; exact ht.2.1, fun m m0 m1 => ?_⟩
        rw [hS.ct c0 c1] at m1
        rw [(ep m (by omega) (by omega)).1, (ep m (by omega) (by omega)).2]; exact ht.2.2 m m0 m1
      have ew := e_isWithin z hz i n (pj y 27 0 (qlr r c n i (6 * i))) (by rw [pj_s]; exact ht') (by rw [pj_s]; exact hb') n0 (by rw [pj_s, hS.ct c0 c1]; omega)
      rw [pj_s, hS.wi c0 c1 hb ht n0 (by omega)] at ew
      rw [if_neg q, ea, sbind, ib, ew, sbind, ib]
      cases qa : qal r i
      · rw [if_pos rfl]
        exact w3 0 (by unfold qis; rw [qa, Bool.false_and, Bool.and_false]; rfl)
      · rw [if_neg (by decide)]
        cases qw : win r i n
        · rw [if_pos rfl]
          exact w3 0 (by unfold qis; rw [qw, Bool.and_false, Bool.and_false]; rfl)
        · rw [if_neg (by decide)]
          exact w3 1 (by unfold qis; rw [qa, qw, decide_eq_true (show i < qct r by omega)]; rfl)
end
