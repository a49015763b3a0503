/-! More calls that only tell. -/
section
variable {z : Nat} {x : Mm}
theorem rl_t (h : Inv x) {c : Int} (c0 : 0 ≤ c) (c1 : c < 5) (hl : qhl (x.1 27 0) c = true) : F_X7_requireLease z 0 c x = some (.inl (), x) := rqL_t c0 c1 (by rw [(h.1.2.2.2.2.1 c c0 c1).1, hl]; rfl)
theorem rl_f (h : Inv x) {c : Int} (c0 : 0 ≤ c) (c1 : c < 5) (hl : qhl (x.1 27 0) c = false) : F_X7_requireLease z 0 c x = some (.inr sS, x) := rqL_f c0 c1 (by rw [(h.1.2.2.2.2.1 c c0 c1).1, hl]; rfl)
theorem rc_t (h : Inv x) {c : Int} (q : 0 ≤ c ∧ c < qcc (x.1 27 0)) : F_X7_requireClient z 0 c x = some (.inl (), x) := rqC_t q.1 (by rw [h.1.2.1.2.2.1]; exact q.2)
theorem rc_f (h : Inv x) {c : Int} (q : ¬ (0 ≤ c ∧ c < qcc (x.1 27 0))) : F_X7_requireClient z 0 c x = some (.inr sI, x) := rqC_f (by rw [h.1.2.1.2.2.1]; exact q)
theorem rn_t (h : Inv x) {c : Int} (q : 0 ≤ c ∧ c < qct (x.1 27 0)) : F_X7_requireNode z 0 c x = some (.inl (), x) := rqN_t q.1 (by rw [h.1.2.2.1.1]; exact q.2)
theorem rn_f (h : Inv x) {c : Int} (q : ¬ (0 ≤ c ∧ c < qct (x.1 27 0))) : F_X7_requireNode z 0 c x = some (.inr sI, x) := rqN_f (by rw [h.1.2.2.1.1]; exact q)
theorem rf_t (h : Inv x) {c : Int} (q : 0 ≤ c ∧ c < qfc (x.1 27 0)) : F_X7_requireField z 0 c x = some (.inl (), x) := rqF_t q.1 (by rw [h.1.2.1.2.1]; exact q.2)
theorem rf_f (h : Inv x) {c : Int} (q : ¬ (0 ≤ c ∧ c < qfc (x.1 27 0))) : F_X7_requireField z 0 c x = some (.inr sI, x) := rqF_f (by rw [h.1.2.1.2.1]; exact q)
theorem rp_t (h : Inv x) {c n : Int} (c0 : 0 ≤ c) (c1 : c < 5) (hl : qhl (x.1 27 0) c = true) (q : 0 ≤ n ∧ n < qct (x.1 27 0)) (hc : qcp (x.1 27 0) c 60 n = true) : F_X7_requireInCopy z 0 c n x = some (.inl (), x) := by
  have h60 := h.1.1.1.2.2.2.1
  refine rqP_t c0 c1 q.1 (by omega) ?_
  rw [(((h.1.2.2.2.2.1 c c0 c1).2 hl).2.1 n q.1 (by omega)).2.2, hc, decide_eq_true q.2]; rfl
theorem rp_f (h : Inv x) {c n : Int} (c0 : 0 ≤ c) (c1 : c < 5) (hl : qhl (x.1 27 0) c = true) (q : 0 ≤ n ∧ n < qct (x.1 27 0)) (hc : qcp (x.1 27 0) c 60 n = false) : F_X7_requireInCopy z 0 c n x = some (.inr sS, x) := by
  have h60 := h.1.1.1.2.2.2.1
  refine rqP_f c0 c1 q.1 (by omega) ?_
  rw [(((h.1.2.2.2.2.1 c c0 c1).2 hl).2.1 n q.1 (by omega)).2.2, hc, Bool.and_false]
theorem m_is (c p n t : Int) (h0 : 0 ≤ c) (h1 : c < 5) (h2 : 0 ≤ p) (h3 : 0 ≤ n) (h4 : p + n < 900) : F_X8_is z 0 c p n (th x t) = some (b2i (qcp (x.1 27 0) c p n)) := by
  have := e_is z c p n (th x t) h0 h1 h2 h3 h4
  rw [th_C (by decide)] at this; exact this
theorem p_isInCopy (h : Inv x) (c n : Int) : Pr [sI, sS] (F_X7_isInCopy z 0 c n) (F_X8_isInCopy z 0 c n) x := by
  have h60 := h.1.1.1.2.2.2.1
  have hcc := h.1.1.1.2.2.1
  by_cases qc : 0 ≤ c ∧ c < qcc (x.1 27 0)
  · by_cases qn : 0 ≤ n ∧ n < qct (x.1 27 0)
    · by_cases ql : qhl (x.1 27 0) c = true
      · refine Pr.get h (y := .inl (b2i (qcp (x.1 27 0) c 60 n))) ?_ (b := b2i (qcp (x.1 27 0) c 60 n)) (t := 0) ?_ Ok.v
        · unfold F_X7_isInCopy
          rw [rc_t h qc, bndXl, rn_t h qn, bndXl, rl_t h qc.1 (by omega) ql, bndXl, ckI_t qc.1 (by omega), k_has z x qn.1 (by omega), sbind, ckZ_b, (((h.1.2.2.2.2.1 c qc.1 (by omega)).2 ql).2.1 n qn.1 (by omega)).2.2, decide_eq_true qn.2, Bool.true_and]
        · unfold F_X8_isInCopy F_X8_isInCopy_27
          rw [sbind, th_w, mC h, sbind, dt qc, mN h, sbind, dt qn, e_fails1, sbind, it0, mH qc.1 (by omega), sbind, e_failst ql, sbind, it0, m_is c 60 n 0 qc.1 (by omega) (by omega) qn.1 (by omega), sbind, ib]
          cases qcp (x.1 27 0) c 60 n <;> rfl
      · refine Pr.get h (y := .inr sS) ?_ (b := 0) (t := 2) ?_ (Ok.x rfl (by decide))
        · unfold F_X7_isInCopy
          rw [rc_t h qc, bndXl, rn_t h qn, bndXl, rl_f h qc.1 (by omega) (by simpa using ql), bndXr]
        · unfold F_X8_isInCopy F_X8_isInCopy_27
          rw [sbind, th_w, mC h, sbind, dt qc, mN h, sbind, dt qn, e_fails1, sbind, it0, mH qc.1 (by omega), sbind, e_failsf (by simpa using ql), sbind, it1, th_th]
    · refine Pr.get h (y := .inr sI) ?_ (b := 0) (t := 1) ?_ (Ok.x rfl (by decide))
      · unfold F_X7_isInCopy
        rw [rc_t h qc, bndXl, rn_f h qn, bndXr]
      · unfold F_X8_isInCopy F_X8_isInCopy_26 F_X8_isInCopy_27
        rw [sbind, th_w, mC h, sbind, dt qc, mN h, sbind, df qn, e_fails0, sbind, it1, th_th]
  · refine Pr.get h (y := .inr sI) ?_ (b := 0) (t := 1) ?_ (Ok.x rfl (by decide))
    · unfold F_X7_isInCopy
      rw [rc_f h qc, bndXr]
    · unfold F_X8_isInCopy F_X8_isInCopy_26 F_X8_isInCopy_27
      rw [sbind, th_w, mC h, sbind, df qc, e_fails0, sbind, it1, th_th]
theorem p_copyField (h : Inv x) (c n f : Int) : Pr [sI, sS] (F_X7_copyField z 0 c n f) (F_X8_copyField z 0 c n f) x := by
  have h60 := h.1.1.1.2.2.2.1
  have hcc := h.1.1.1.2.2.1
  have hfc := h.1.1.1.2.1
  by_cases qc : 0 ≤ c ∧ c < qcc (x.1 27 0)
  · by_cases qn : 0 ≤ n ∧ n < qct (x.1 27 0)
    · by_cases qf : 0 ≤ f ∧ f < qfc (x.1 27 0)
      · by_cases ql : qhl (x.1 27 0) c = true
        · cases qi : qcp (x.1 27 0) c 60 n
          · refine Pr.get h (y := .inr sS) ?_ (b := 0) (t := 2) ?_ (Ok.x rfl (by decide))
            · unfold F_X7_copyField
              rw [rc_t h qc, bndXl, rn_t h qn, bndXl, rf_t h qf, bndXl, rl_t h qc.1 (by omega) ql, bndXl, rp_f h qc.1 (by omega) ql qn qi, bndXr]
            · unfold F_X8_copyField F_X8_copyField_35 F_X8_copyField_66 F_X8_copyField_67
              rw [sbind, th_w, mC h, sbind, dt qc, mN h, sbind, dt qn, mF' h, sbind, dt qf, e_fails1, sbind, it0, mH qc.1 (by omega), sbind, ib, if_neg (by rw [ql]; decide), m_is c 60 n 0 qc.1 (by omega) (by omega) qn.1 (by omega), sbind, ib, if_pos qi, e_fails0, sbind, it1, th_th]
          · refine Pr.get h (y := .inl (qnv (x.1 27 0) c n f)) ?_ (b := qnv (x.1 27 0) c n f) (t := 0) ?_ Ok.v
            · unfold F_X7_copyField
              have hw := (h.1.1.2.2.2.2.2.1 c qc.1 (by omega) ql).2.2.2.1.2.2 n qn.1 (by omega) qi
              rw [rc_t h qc, bndXl, rn_t h qn, bndXl, rf_t h qf, bndXl, rl_t h qc.1 (by omega) ql, bndXl, rp_t h qc.1 (by omega) ql qn qi, bndXl, ckI_t qc.1 (by omega), k_valueOf z x qn.1 (by omega) qf.1 (by omega), sbind, (((h.1.2.2.2.2.1 c qc.1 (by omega)).2 ql).2.2 n f qn.1 (by omega) qf.1 (by omega)).2 hw]
            · unfold F_X8_copyField F_X8_copyField_35 F_X8_copyField_67
              rw [sbind, th_w, mC h, sbind, dt qc, mN h, sbind, dt qn, mF' h, sbind, dt qf, e_fails1, sbind, it0, mH qc.1 (by omega), sbind, ib, if_neg (by rw [ql]; decide), m_is c 60 n 0 qc.1 (by omega) (by omega) qn.1 (by omega), sbind, ib, if_neg (by rw [qi]; decide), e_fails1, sbind, it0, e_fresh z c n f _ qc.1 (by omega) qn.1 (by omega) qf.1 (by omega), sbind, th_C (by decide)]
        · refine Pr.get h (y := .inr sS) ?_ (b := 0) (t := 2) ?_ (Ok.x rfl (by decide))
          · unfold F_X7_copyField
            rw [rc_t h qc, bndXl, rn_t h qn, bndXl, rf_t h qf, bndXl, rl_f h qc.1 (by omega) (by simpa using ql), bndXr]
          · unfold F_X8_copyField F_X8_copyField_35 F_X8_copyField_66 F_X8_copyField_67
            rw [sbind, th_w, mC h, sbind, dt qc, mN h, sbind, dt qn, mF' h, sbind, dt qf, e_fails1, sbind, it0, mH qc.1 (by omega), sbind, ib, if_pos (by simpa using ql), e_fails0, sbind, it1, th_th]
      · refine Pr.get h (y := .inr sI) ?_ (b := 0) (t := 1) ?_ (Ok.x rfl (by decide))
        · unfold F_X7_copyField
          rw [rc_t h qc, bndXl, rn_t h qn, bndXl, rf_f h qf, bndXr]
        · unfold F_X8_copyField F_X8_copyField_34 F_X8_copyField_35
          rw [sbind, th_w, mC h, sbind, dt qc, mN h, sbind, dt qn, mF' h, sbind, df qf, e_fails0, sbind, it1, th_th]
    · refine Pr.get h (y := .inr sI) ?_ (b := 0) (t := 1) ?_ (Ok.x rfl (by decide))
      · unfold F_X7_copyField
        rw [rc_t h qc, bndXl, rn_f h qn, bndXr]
      · unfold F_X8_copyField F_X8_copyField_34 F_X8_copyField_35
        rw [sbind, th_w, mC h, sbind, dt qc, mN h, sbind, df qn, e_fails0, sbind, it1, th_th]
  · refine Pr.get h (y := .inr sI) ?_ (b := 0) (t := 1) ?_ (Ok.x rfl (by decide))
    · unfold F_X7_copyField
      rw [rc_f h qc, bndXr]
    · unfold F_X8_copyField F_X8_copyField_34 F_X8_copyField_35
      rw [sbind, th_w, mC h, sbind, df qc, e_fails0, sbind, it1, th_th]
theorem k_changedIn (hz : 50000 ≤ z) (h : Inv x) {c : Int} (c0 : 0 ≤ c) (c1 : c < 5) (ql : qhl (x.1 27 0) c = true) : F_X6_changedIn z 0 c x = some (qac (x.1 27 0) c) := by
  have hb := h.1.1.1
  have h60 := hb.2.2.2.1
  have hN := h.1.2.2.1
  have hw := (h.1.1.2.2.2.2.2.1 c c0 c1 ql).2.2.2.1
  unfold F_X6_changedIn
  refine Tt.eq ?_
  refine Tt.bind (P := fun v => v = qac (x.1 27 0) c) ?_ (fun a e => Tt.ret e)
  refine loopU (fun k i (s : Int) => F_X6_changedIn_4 z 0 c x k s i) (qct (x.1 27 0)) (fun i s => 0 ≤ i ∧ i ≤ qct (x.1 27 0) ∧ s = qsm (qco (x.1 27 0) c) i.toNat) _ ?_ ?_ z 0 0 (by omega) (by omega) ⟨by omega, by omega, rfl⟩
  · rintro k s i hN' ⟨i0, i1, rfl⟩
    refine Tt.of (v := qsm (qco (x.1 27 0) c) i.toNat) ?_ ?_
    · show (if x.1 4 0 0 ≤ i then _ else _) = _
      rw [hN.1, if_pos hN']
    · rw [show i = qct (x.1 27 0) by omega]; rfl
  · rintro k s i hN' ⟨i0, i1, rfl⟩
    refine Or.inl ⟨qsm (qco (x.1 27 0) c) (i + 1).toNat, ?_, by omega, by omega, rfl⟩
    have hc := qsm_le (g := qco (x.1 27 0) c) (M := 6) (k := i.toNat) (fun j _ _ => qco_le _ _ _ hb)
    have hd := qco_le (x.1 27 0) c i hb
    show (if x.1 4 0 0 ≤ i then _ else _) = _
    rw [hN.1, if_neg (by omega), ckI_t c0 (by omega), k_changedFields z hz hb c0 c1 hw ql (h.1.2.2.2.2.1 c c0 c1) (fun _ _ => rfl) (fun _ _ => rfl) i0 hN', sbind, qsm_s i0, ckR_t (by omega) (by omega), ckR_t (by omega) (by omega)]
theorem p_changedCount (hz : 50000 ≤ z) (h : Inv x) (c : Int) : Pr [sI, sS] (F_X7_changedCount z 0 c) (F_X8_changedCount z 0 c) x := by
  have hcc := h.1.1.1.2.2.1
  by_cases qc : 0 ≤ c ∧ c < qcc (x.1 27 0)
  · by_cases ql : qhl (x.1 27 0) c = true
    · refine Pr.get h (y := .inl (qac (x.1 27 0) c)) ?_ (b := qac (x.1 27 0) c) (t := 0) ?_ Ok.v
      · unfold F_X7_changedCount
        rw [rc_t h qc, bndXl, rl_t h qc.1 (by omega) ql, bndXl, k_changedIn hz h qc.1 (by omega) ql, sbind]
      · unfold F_X8_changedCount
        have E := e_allChanges z hz c (th x 0) (by rw [th_C (by decide)]; exact h.1.1.1) qc.1 (by omega)
        rw [th_C (by decide)] at E
        rw [sbind, th_w, mC h, sbind, e_failsT qc, sbind, it0, mH qc.1 (by omega), sbind, e_failst ql, sbind, it0, E, sbind]
    · refine Pr.get h (y := .inr sS) ?_ (b := 0) (t := 2) ?_ (Ok.x rfl (by decide))
      · unfold F_X7_changedCount
        rw [rc_t h qc, bndXl, rl_f h qc.1 (by omega) (by simpa using ql), bndXr]
      · unfold F_X8_changedCount
        rw [sbind, th_w, mC h, sbind, e_failsT qc, sbind, it0, mH qc.1 (by omega), sbind, e_failsf (by simpa using ql), sbind, it1, th_th]
  · refine Pr.get h (y := .inr sI) ?_ (b := 0) (t := 1) ?_ (Ok.x rfl (by decide))
    · unfold F_X7_changedCount
      rw [rc_f h qc, bndXr]
    · unfold F_X8_changedCount
      rw [sbind, th_w, mC h, sbind, e_failsF qc, sbind, it1, th_th]
theorem p_leased (h : Inv x) (c w : Int) : Pr [sI, sA] (F_X7_leased z 0 c w) (F_X8_leased z 0 c w) x := by
  have hcc := h.1.1.1.2.2.1
  by_cases qc : 0 ≤ c ∧ c < qcc (x.1 27 0)
  · by_cases qw : 0 ≤ w ∧ w ≤ 2
    · have hL := h.1.2.2.2.2.1 c qc.1 (by omega)
      cases ql : qhl (x.1 27 0) c
      · refine Pr.get h (y := .inl (-1)) ?_ (b := -1) (t := 0) ?_ Ok.v
        · unfold F_X7_leased
          rw [rc_t h qc, bndXl, if_neg (by omega), if_pos qw.2, ckI_t qc.1 (by omega), if_pos (by rw [hL.1, ql]; rfl)]
        · unfold F_X8_leased
          rw [sbind, th_w, mC h, sbind, e_failsT qc, sbind, it0, e_in, sbind, e_failsT qw, sbind, it0, mH qc.1 (by omega), sbind, ib, if_pos ql]
      · obtain ⟨g1, g2, g3⟩ := (hL.2 ql).1
        have hx := (h.1.1.2.2.2.2.2.1 c qc.1 (by omega) ql).2.2.1
        have e8 : F_X8_leased z 0 c w x = some ((if w = 0 then qln (x.1 27 0) c else if w = 1 then qle (x.1 27 0) c else qlx (x.1 27 0) c), th x 0) := by
          unfold F_X8_leased
          rw [sbind, th_w, mC h, sbind, e_failsT qc, sbind, it0, e_in, sbind, e_failsT qw, sbind, it0, mH qc.1 (by omega), sbind, ib, if_neg (by rw [ql]; decide), ckR_t (by omega) (by omega), ckR_t (by omega) (by omega), ckR_t (by omega) (by omega), ckI_t (by omega) (by omega), th_C (by decide)]
          rcases (by omega : w = 0 ∨ w = 1 ∨ w = 2) with rfl | rfl | rfl
          · rw [if_pos rfl, show 611 + 3 * c + 0 = 611 + 3 * c by omega]; rfl
          · rfl
          · rfl
        refine Pr.get h (y := .inl _) ?_ e8 Ok.v
        unfold F_X7_leased
        rw [rc_t h qc, bndXl, if_neg (by omega), if_pos qw.2, ckI_t qc.1 (by omega), if_neg (by rw [hL.1, ql]; decide), g1, g2, g3]
        by_cases w0 : w = 0
        · rw [if_pos w0, if_pos w0]
        · rw [if_neg w0, if_neg w0]
          by_cases w1 : w = 1
          · rw [if_pos w1, if_pos w1]
          · rw [if_neg w1, if_neg w1]
            rcases hx with e | e <;> rw [e] <;> rfl
    · refine Pr.get h (y := .inr sA) ?_ (b := 0) (t := 2) ?_ (Ok.x rfl (by decide))
      · unfold F_X7_leased
        rw [rc_t h qc, bndXl]
        by_cases w0 : w < 0
        · rw [if_pos w0]
        · rw [if_neg w0, if_neg (by omega)]
      · unfold F_X8_leased
        rw [sbind, th_w, mC h, sbind, e_failsT qc, sbind, it0, e_in, sbind, e_failsF qw, sbind, it1, th_th]
  · refine Pr.get h (y := .inr sI) ?_ (b := 0) (t := 1) ?_ (Ok.x rfl (by decide))
    · unfold F_X7_leased
      rw [rc_f h qc, bndXr]
    · unfold F_X8_leased
      rw [sbind, th_w, mC h, sbind, e_failsF qc, sbind, it1, th_th]
theorem p_conflict (h : Inv x) (i w : Int) : Pr [sI, sA] (F_X7_conflict z 0 i w) (F_X8_conflict z 0 i w) x := by
  have hk : 0 ≤ x.1 27 0 (4 : Int).toNat ∧ x.1 27 0 (4 : Int).toNat ≤ 40 := h.1.1.1.2.2.2.2
  have hC := h.1.2.2.2.2.2
  have hC1 : x.1 1 0 0 = x.1 27 0 (4 : Int).toNat := hC.1
  by_cases qi : 0 ≤ i ∧ i ≤ x.1 27 0 (4 : Int).toNat - 1
  · by_cases qw : 0 ≤ w ∧ w ≤ 5
    · refine Pr.get h (y := .inl (qkp (x.1 27 0) i w)) ?_ (b := qkp (x.1 27 0) i w) (t := 0) ?_ Ok.v
      · unfold F_X7_conflict F_X1_part
        rw [rqK_t qi.1 (by omega), bndXl, if_neg (by omega), if_pos (by omega), ckR_t (by omega) (by omega), ckR_t (by omega) (by omega), ckI_t (by omega) (by omega), sbind, hC.2 i w qi.1 (by show i < x.1 27 0 (4 : Int).toNat; omega) qw.1 (by omega)]
      · unfold F_X8_conflict
        rw [sbind, th_w, th_C (by decide), ckI_t (by omega) (by omega), ckR_t (by omega) (by omega), e_in, sbind, e_failsT qi, sbind, it0, e_in, sbind, e_failsT qw, sbind, it0, ckR_t (by omega) (by omega), ckR_t (by omega) (by omega), ckR_t (by omega) (by omega), ckI_t (by omega) (by omega), th_C (by decide)]; rfl
    · refine Pr.get h (y := .inr sA) ?_ (b := 0) (t := 2) ?_ (Ok.x rfl (by decide))
      · unfold F_X7_conflict
        rw [rqK_t qi.1 (by omega), bndXl]
        by_cases w0 : w < 0
        · rw [if_pos w0]
        · rw [if_neg w0, if_neg (by omega)]
      · unfold F_X8_conflict
        rw [sbind, th_w, th_C (by decide), ckI_t (by omega) (by omega), ckR_t (by omega) (by omega), e_in, sbind, e_failsT qi, sbind, it0, e_in, sbind, e_failsF qw, sbind, it1, th_th]
  · refine Pr.get h (y := .inr sI) ?_ (b := 0) (t := 1) ?_ (Ok.x rfl (by decide))
    · unfold F_X7_conflict
      rw [rqK_f (by omega), bndXr]
    · unfold F_X8_conflict
      rw [sbind, th_w, th_C (by decide), ckI_t (by omega) (by omega), ckR_t (by omega) (by omega), e_in, sbind, e_failsF qi, sbind, it1, th_th]
end
