/-! The law's first objects, and the claim. -/
abbrev noD : Nat → Nat → Prop := fun _ _ => False
set_option maxHeartbeats 4000000 in
theorem law_start {nm : String} {hh : List (Nat × Nat × Nat × Nat)} {Θ : GC} {y y1 y2 : Mm} (hN : gN Θ ≤ 3072) (hy : F_X6_reset 50000 0 x0m = some y) (hy1 : F_X8_forgetRead 50000 0 y = some y1) (hy2 : F_X8_takeRead 50000 0 y1 = some y2) (hI : Inv y2) : Ev Θ (mL_law nm hh) 14 504 601024 7293034 0 [(0, vr 13 1)] [] (hq noD x0m) lQ := by
  have hb0 : BD noD 0 := fun C j q => q.elim
  refine Ev.cast ?_ rfl rfl hg_no.symm
  refine Ev.newB (mc1 := 601023) (ms1 := 7293026) 0 40 0 cok7 kL_8 g19 g18 hb0 (Nat.zero_le _) rfl (fun k _ => SR_20 (by decide)) rfl rfl ⟨dL_law_0, rfl⟩ (fun D1 hb1 => ?_)
  refine Ev.dup ⟨dL_law_3, rfl⟩ rfl ?_
  refine Ev.callC (mc1 := 500000) (ms1 := 7000000) iL_136 (c_X7_init Θ 50000 x0m y hy hb1) (by decide) ⟨by decide, by decide, Nat.le_of_ble_eq_true rfl, Nat.le_of_ble_eq_true rfl, Nat.le_of_ble_eq_true rfl⟩ ⟨dL_law_4, rfl⟩ (fun D2 hb2 => ?_)
  refine Ev.astore_n (i := 1) (ls' := [(0, vr 13 1), (1, vr 7 (0 + 1))]) ⟨dL_law_7, rfl⟩ rfl (Nat.le_of_ble_eq_true rfl) rfl ?_
  refine Ev.cast ?_ rfl rfl hg_no.symm
  refine Ev.newB (mc1 := 499999) (ms1 := 6999983) 0 40 0 cok8 kL_137 g21 g20 hb2 (by decide) rfl (fun k _ => SR_20 (by decide)) rfl rfl ⟨dL_law_8, rfl⟩ (fun D3 hb3 => ?_)
  refine Ev.dup ⟨dL_law_11, rfl⟩ rfl ?_
  refine Ev.callC (mc1 := 400000) (ms1 := 6000000) iL_139 (c_X8_init Θ 50000 y y1 y2 hy1 hy2 hb3) (by decide) ⟨by decide, by decide, Nat.le_of_ble_eq_true rfl, Nat.le_of_ble_eq_true rfl, Nat.le_of_ble_eq_true rfl⟩ ⟨dL_law_12, rfl⟩ (fun D4 hb4 => ?_)
  refine Ev.astore_n (i := 2) (ls' := [(0, vr 13 1), (1, vr 7 (0 + 1)), (2, vr 8 (0 + 1))]) ⟨dL_law_15, rfl⟩ rfl (Nat.le_of_ble_eq_true rfl) rfl ?_
  refine Ev.iconst ⟨dL_law_16, rfl⟩ (inRd rfl) ?_
  refine Ev.cast ?_ rfl rfl hg_no.symm
  refine Ev.newJB (mc1 := 399999) (ms1 := 5999999) 31 0 (by decide) hb4 (by decide) rfl (by decide) (by decide) rfl rfl ⟨dL_law_17, rfl⟩ (fun D5 hb5 => ?_)
  refine Ev.astore_n (i := 3) (ls' := [(0, vr 13 1), (1, vr 7 (0 + 1)), (2, vr 8 (0 + 1)), (3, vr 31 (0 + 1))]) ⟨dL_law_19, rfl⟩ rfl (Nat.le_of_ble_eq_true rfl) rfl ?_
  refine Ev.iconst ⟨dL_law_20, rfl⟩ (inRd rfl) ?_
  refine Ev.istore (i := 4) (ls' := [(0, vr 13 1), (1, vr 7 (0 + 1)), (2, vr 8 (0 + 1)), (3, vr 31 (0 + 1)), (4, vi (0 : Int))]) ⟨dL_law_21, rfl⟩ (Nat.le_of_ble_eq_true rfl) rfl ?_
  refine Ev.cast (h2 := hq D5 y2) ?_ rfl rfl hg_no
  refine Ev.mono (mc := 6 * 512) (ms := 36 * 512) (Nat.le_of_ble_eq_true rfl) (Nat.le_of_ble_eq_true rfl) ?_
  exact law_loop hN 512 0 y2 (by omega) hI (by omega)
theorem sbn_forget {s t : State} {L : List Loc} {k n : Nat} (h : s.sameButNew t L k n) (hf : ∀ q ∈ L, s.heap.size ≤ q.base) : s.sameButNew t [] k n := by
  obtain ⟨h1, h2, h3, h4, h5, h6⟩ := h
  refine ⟨h1, h2, h3, h4, h5, fun a c ha => ?_⟩
  obtain ⟨c', q1, q2, q3, q4⟩ := h6 a c ha
  exact ⟨c', q1, q2, q3, fun i _ => q4 i (fun hm => Nat.not_le.mpr (Array.getElem?_eq_some_iff.mp ha).1 (hf _ hm))⟩
theorem wf_first : wfh (hq noD x0m) := by
  refine ⟨fun C j k => (show inR 0 from ⟨by decide, by decide⟩), fun C j k q => q.elim, fun C j => ?_, fun C j k _ => ⟨rfl, rfl⟩⟩
  show SN C j < _
  unfold SN
  split <;> decide
