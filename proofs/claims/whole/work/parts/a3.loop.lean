/-! The law's loop. -/
theorem Ev.wf {Θ : GC} {M : MD} {fr lc mc ms pc : Nat} {ls : List (Nat × Vv)} {st : List Vv} {h : Hp} {Q : Ro → Hp → Prop} (k : wfh h → Ev Θ M fr lc mc ms pc ls st h Q) : Ev Θ M fr lc mc ms pc ls st h Q := by
  intro p e R s m args below meth c H locs cells slots ρ la hF hR hS0 hS1 hc hs hl hlv hst
  have hR' := hR
  obtain ⟨ws, pos, hP, hD, hE, hJ, hw⟩ := hR'
  exact k hw p e R s m args below meth c H locs cells slots ρ la hF hR hS0 hS1 hc hs hl hlv hst
theorem Ev.mono {Θ : GC} {M : MD} {fr lc mc ms mc1 ms1 pc : Nat} {ls : List (Nat × Vv)} {st : List Vv} {h : Hp} {Q : Ro → Hp → Prop} (h1 : mc ≤ mc1) (h2 : ms ≤ ms1) (k : Ev Θ M fr lc mc ms pc ls st h Q) : Ev Θ M fr lc mc1 ms1 pc ls st h Q := by
  intro p e R s m args below meth c H locs cells slots ρ la hF hR hS0 hS1 hc hs hl hlv hst
  exact k p e R s m args below meth c H locs cells slots ρ la hF hR hS0 hS1 (by omega) (by omega) hl hlv hst
theorem la_next {nm : String} {hh : List (Nat × Nat × Nat × Nat)} {Θ : GC} {D : Nat → Nat → Prop} {x : Mm} {i : Int} {mc ms : Nat} (hN : gN Θ ≤ 3072) (h0 : 0 ≤ i) (h6 : i + 6 ≤ (gN Θ : Int)) (kk : Ev Θ (mL_law nm hh) 14 504 mc ms 23 [(0, vr 13 1), (1, vr 7 (0 + 1)), (2, vr 8 (0 + 1)), (3, vr 31 (0 + 1)), (4, vi (i + 6))] [] (hq D x) lQ) : Ev Θ (mL_law nm hh) 14 504 mc ms 2743 [(0, vr 13 1), (1, vr 7 (0 + 1)), (2, vr 8 (0 + 1)), (3, vr 31 (0 + 1)), (4, vi i)] [] (hq D x) lQ := by
  refine Ev.iinc (q := 4) (ls' := [(0, vr 13 1), (1, vr 7 (0 + 1)), (2, vr 8 (0 + 1)), (3, vr 31 (0 + 1)), (4, vi (i + 6))]) ⟨dL_law_2743, rfl⟩ rfl (Nat.le_of_ble_eq_true rfl) (inRo (by omega) (by omega)) rfl ?_
  exact Ev.goto jL_law_2746 kk
set_option maxHeartbeats 4000000 in
set_option maxRecDepth 20000 in
theorem la_switch {nm : String} {hh : List (Nat × Nat × Nat × Nat)} {Θ : GC} {D : Nat → Nat → Prop} {x : Mm} {i : Int} {mc ms : Nat} (h : Inv x) (hI : ∀ k, -2147483648 ≤ x.1 27 0 k ∧ x.1 27 0 k ≤ 2147483647) (hN : gN Θ ≤ 3072) (h0 : 0 ≤ i) (h6 : i + 6 ≤ (gN Θ : Int)) (kk : ∀ x2, Inv x2 → Ev Θ (mL_law nm hh) 14 504 mc ms 2743 [(0, vr 13 1), (1, vr 7 (0 + 1)), (2, vr 8 (0 + 1)), (3, vr 31 (0 + 1)), (4, vi i)] [] (hq D x2) lQ) (a : Int) : Ev Θ (mL_law nm hh) 14 504 (mc + 6) (ms + 36) 40 [(0, vr 13 1), (1, vr 7 (0 + 1)), (2, vr 8 (0 + 1)), (3, vr 31 (0 + 1)), (4, vi i)] [vi a] (hq D x) lQ := by
  by_cases hk : a = 0
  · refine Ev.tswIn (tg := 224) (off := 184) dL_law_40 (by omega) (by omega) (by rw [hk]; rfl) (by decide) ?_
    exact la_append h hN h0 h6 kk
  have hn0 := hk; clear hk
  by_cases hk : a = 1
  · refine Ev.tswIn (tg := 328) (off := 288) dL_law_40 (by omega) (by omega) (by rw [hk]; rfl) (by decide) ?_
    exact la_truncate h hN h0 h6 kk
  have hn1 := hk; clear hk
  by_cases hk : a = 2
  · refine Ev.tswIn (tg := 384) (off := 344) dL_law_40 (by omega) (by omega) (by rw [hk]; rfl) (by decide) ?_
    exact la_errorPosition h hN h0 h6 kk
  have hn2 := hk; clear hk
  by_cases hk : a = 3
  · refine Ev.tswIn (tg := 397) (off := 357) dL_law_40 (by omega) (by omega) (by rw [hk]; rfl) (by decide) ?_
    exact la_load h hN h0 h6 kk
  have hn3 := hk; clear hk
  by_cases hk : a = 4
  · refine Ev.tswIn (tg := 441) (off := 401) dL_law_40 (by omega) (by omega) (by rw [hk]; rfl) (by decide) ?_
    exact la_lease h hI hN h0 h6 kk
  have hn4 := hk; clear hk
  by_cases hk : a = 5
  · refine Ev.tswIn (tg := 549) (off := 509) dL_law_40 (by omega) (by omega) (by rw [hk]; rfl) (by decide) ?_
    exact la_renew h hN h0 h6 kk
  have hn5 := hk; clear hk
  by_cases hk : a = 6
  · refine Ev.tswIn (tg := 617) (off := 577) dL_law_40 (by omega) (by omega) (by rw [hk]; rfl) (by decide) ?_
    exact la_setField h hN h0 h6 kk
  have hn6 := hk; clear hk
  by_cases hk : a = 7
  · refine Ev.tswIn (tg := 709) (off := 669) dL_law_40 (by omega) (by omega) (by rw [hk]; rfl) (by decide) ?_
    exact la_addNode h hN h0 h6 kk
  have hn7 := hk; clear hk
  by_cases hk : a = 8
  · refine Ev.tswIn (tg := 817) (off := 777) dL_law_40 (by omega) (by omega) (by rw [hk]; rfl) (by decide) ?_
    exact la_removeNode h hN h0 h6 kk
  have hn8 := hk; clear hk
  by_cases hk : a = 9
  · refine Ev.tswIn (tg := 885) (off := 845) dL_law_40 (by omega) (by omega) (by rw [hk]; rfl) (by decide) ?_
    exact la_commit h hN h0 h6 kk
  have hn9 := hk; clear hk
  by_cases hk : a = 10
  · refine Ev.tswIn (tg := 941) (off := 901) dL_law_40 (by omega) (by omega) (by rw [hk]; rfl) (by decide) ?_
    exact la_abandon h hN h0 h6 kk
  have hn10 := hk; clear hk
  by_cases hk : a = 11
  · refine Ev.tswIn (tg := 997) (off := 957) dL_law_40 (by omega) (by omega) (by rw [hk]; rfl) (by decide) ?_
    exact la_resolve h hN h0 h6 kk
  have hn11 := hk; clear hk
  by_cases hk : a = 12
  · refine Ev.tswIn (tg := 1081) (off := 1041) dL_law_40 (by omega) (by omega) (by rw [hk]; rfl) (by decide) ?_
    exact la_advance h hN h0 h6 kk
  have hn12 := hk; clear hk
  by_cases hk : a = 13
  · refine Ev.tswIn (tg := 1137) (off := 1097) dL_law_40 (by omega) (by omega) (by rw [hk]; rfl) (by decide) ?_
    exact la_undo h hN h0 h6 kk
  have hn13 := hk; clear hk
  by_cases hk : a = 14
  · refine Ev.tswIn (tg := 1181) (off := 1141) dL_law_40 (by omega) (by omega) (by rw [hk]; rfl) (by decide) ?_
    exact la_undoCount h hN h0 h6 kk
  have hn14 := hk; clear hk
  by_cases hk : a = 15
  · refine Ev.tswIn (tg := 1194) (off := 1154) dL_law_40 (by omega) (by omega) (by rw [hk]; rfl) (by decide) ?_
    exact la_save h hN h0 h6 kk
  have hn15 := hk; clear hk
  by_cases hk : a = 16
  · refine Ev.tswIn (tg := 1207) (off := 1167) dL_law_40 (by omega) (by omega) (by rw [hk]; rfl) (by decide) ?_
    exact la_restore h hN h0 h6 kk
  have hn16 := hk; clear hk
  by_cases hk : a = 17
  · refine Ev.tswIn (tg := 1251) (off := 1211) dL_law_40 (by omega) (by omega) (by rw [hk]; rfl) (by decide) ?_
    exact la_tick h hN h0 h6 kk
  have hn17 := hk; clear hk
  by_cases hk : a = 18
  · refine Ev.tswIn (tg := 1264) (off := 1224) dL_law_40 (by omega) (by omega) (by rw [hk]; rfl) (by decide) ?_
    exact la_setup h hN h0 h6 kk
  have hn18 := hk; clear hk
  by_cases hk : a = 19
  · refine Ev.tswIn (tg := 1320) (off := 1280) dL_law_40 (by omega) (by omega) (by rw [hk]; rfl) (by decide) ?_
    exact la_rule h hN h0 h6 kk
  have hn19 := hk; clear hk
  by_cases hk : a = 20
  · refine Ev.tswIn (tg := 1376) (off := 1336) dL_law_40 (by omega) (by omega) (by rw [hk]; rfl) (by decide) ?_
    exact la_nodeCount h hN h0 h6 kk
  have hn20 := hk; clear hk
  by_cases hk : a = 21
  · refine Ev.tswIn (tg := 1389) (off := 1349) dL_law_40 (by omega) (by omega) (by rw [hk]; rfl) (by decide) ?_
    exact la_node h hN h0 h6 kk
  have hn21 := hk; clear hk
  by_cases hk : a = 22
  · refine Ev.tswIn (tg := 1457) (off := 1417) dL_law_40 (by omega) (by omega) (by rw [hk]; rfl) (by decide) ?_
    exact la_field h hN h0 h6 kk
  have hn22 := hk; clear hk
  by_cases hk : a = 23
  · refine Ev.tswIn (tg := 1525) (off := 1485) dL_law_40 (by omega) (by omega) (by rw [hk]; rfl) (by decide) ?_
    exact la_childCount h hN h0 h6 kk
  have hn23 := hk; clear hk
  by_cases hk : a = 24
  · refine Ev.tswIn (tg := 1581) (off := 1541) dL_law_40 (by omega) (by omega) (by rw [hk]; rfl) (by decide) ?_
    exact la_child h hN h0 h6 kk
  have hn24 := hk; clear hk
  by_cases hk : a = 25
  · refine Ev.tswIn (tg := 1649) (off := 1609) dL_law_40 (by omega) (by omega) (by rw [hk]; rfl) (by decide) ?_
    exact la_find h hN h0 h6 kk
  have hn25 := hk; clear hk
  by_cases hk : a = 26
  · refine Ev.tswIn (tg := 1717) (off := 1677) dL_law_40 (by omega) (by omega) (by rw [hk]; rfl) (by decide) ?_
    exact la_walk h hN h0 h6 kk
  have hn26 := hk; clear hk
  by_cases hk : a = 27
  · refine Ev.tswIn (tg := 1785) (off := 1745) dL_law_40 (by omega) (by omega) (by rw [hk]; rfl) (by decide) ?_
    exact la_size h hN h0 h6 kk
  have hn27 := hk; clear hk
  by_cases hk : a = 28
  · refine Ev.tswIn (tg := 1841) (off := 1801) dL_law_40 (by omega) (by omega) (by rw [hk]; rfl) (by decide) ?_
    exact la_total h hN h0 h6 kk
  have hn28 := hk; clear hk
  by_cases hk : a = 29
  · refine Ev.tswIn (tg := 1908) (off := 1868) dL_law_40 (by omega) (by omega) (by rw [hk]; rfl) (by decide) ?_
    exact la_greatest h hN h0 h6 kk
  have hn29 := hk; clear hk
  by_cases hk : a = 30
  · refine Ev.tswIn (tg := 1976) (off := 1936) dL_law_40 (by omega) (by omega) (by rw [hk]; rfl) (by decide) ?_
    exact la_leased h hN h0 h6 kk
  have hn30 := hk; clear hk
  by_cases hk : a = 31
  · refine Ev.tswIn (tg := 2044) (off := 2004) dL_law_40 (by omega) (by omega) (by rw [hk]; rfl) (by decide) ?_
    exact la_blockers h hN h0 h6 kk
  have hn31 := hk; clear hk
  by_cases hk : a = 32
  · refine Ev.tswIn (tg := 2140) (off := 2100) dL_law_40 (by omega) (by omega) (by rw [hk]; rfl) (by decide) ?_
    exact la_nextEnd h hN h0 h6 kk
  have hn32 := hk; clear hk
  by_cases hk : a = 33
  · refine Ev.tswIn (tg := 2184) (off := 2144) dL_law_40 (by omega) (by omega) (by rw [hk]; rfl) (by decide) ?_
    exact la_isInCopy h hN h0 h6 kk
  have hn33 := hk; clear hk
  by_cases hk : a = 34
  · refine Ev.tswIn (tg := 2259) (off := 2219) dL_law_40 (by omega) (by omega) (by rw [hk]; rfl) (by decide) ?_
    exact la_copyField h hN h0 h6 kk
  have hn34 := hk; clear hk
  by_cases hk : a = 35
  · refine Ev.tswIn (tg := 2339) (off := 2299) dL_law_40 (by omega) (by omega) (by rw [hk]; rfl) (by decide) ?_
    exact la_changedCount h hN h0 h6 kk
  have hn35 := hk; clear hk
  by_cases hk : a = 36
  · refine Ev.tswIn (tg := 2395) (off := 2355) dL_law_40 (by omega) (by omega) (by rw [hk]; rfl) (by decide) ?_
    exact la_preview h hN h0 h6 kk
  have hn36 := hk; clear hk
  by_cases hk : a = 37
  · refine Ev.tswIn (tg := 2451) (off := 2411) dL_law_40 (by omega) (by omega) (by rw [hk]; rfl) (by decide) ?_
    exact la_wouldBe h hN h0 h6 kk
  have hn37 := hk; clear hk
  by_cases hk : a = 38
  · refine Ev.tswIn (tg := 2531) (off := 2491) dL_law_40 (by omega) (by omega) (by rw [hk]; rfl) (by decide) ?_
    exact la_isFree h hN h0 h6 kk
  have hn38 := hk; clear hk
  by_cases hk : a = 39
  · refine Ev.tswIn (tg := 2606) (off := 2566) dL_law_40 (by omega) (by omega) (by rw [hk]; rfl) (by decide) ?_
    exact la_conflictCount h hN h0 h6 kk
  have hn39 := hk; clear hk
  by_cases hk : a = 40
  · refine Ev.tswIn (tg := 2619) (off := 2579) dL_law_40 (by omega) (by omega) (by rw [hk]; rfl) (by decide) ?_
    exact la_conflict h hN h0 h6 kk
  have hn40 := hk; clear hk
  by_cases hk : a = 41
  · refine Ev.tswIn (tg := 2687) (off := 2647) dL_law_40 (by omega) (by omega) (by rw [hk]; rfl) (by decide) ?_
    exact la_conflictsOf h hN h0 h6 kk
  have hn41 := hk; clear hk
  refine Ev.tswOut (tg := 2743) dL_law_40 (by omega) (by decide) ?_
  exact Ev.mono (by omega) (by omega) (kk x h)
theorem law_loop {nm : String} {hh : List (Nat × Nat × Nat × Nat)} {Θ : GC} {D : Nat → Nat → Prop} (hN : gN Θ ≤ 3072) : ∀ (n : Nat) (i : Int) (x : Mm), 0 ≤ i → Inv x → (gN Θ : Int) ≤ i + 6 * n + 5 → Ev Θ (mL_law nm hh) 14 504 (6 * n) (36 * n) 23 [(0, vr 13 1), (1, vr 7 (0 + 1)), (2, vr 8 (0 + 1)), (3, vr 31 (0 + 1)), (4, vi i)] [] (hq D x) lQ := by
  intro n
  induction n with
  | zero =>
    intro i x h0 h hn
    refine Ev.iload (q := 4) ⟨dL_law_23, rfl⟩ rfl ?_
    refine Ev.aload_n (q := 0) ⟨dL_law_25, rfl⟩ rfl rfl ?_
    refine Ev.slen ⟨dL_law_26, rfl⟩ ?_
    refine Ev.bipush ⟨dL_law_27, rfl⟩ (inRd rfl) (by decide) ?_
    refine Ev.isub ⟨dL_law_29, rfl⟩ (inRo (by omega) (by omega)) ?_
    refine Ev.icmp_gt jL_law_30 (fun _ => ?_) (fun hc => absurd (by omega) hc)
    refine Ev.iconst ⟨dL_law_2749, rfl⟩ (inRd rfl) ?_
    exact Ev.ireturn (ty := .boolean) ⟨dL_law_2750, rfl⟩ rfl rfl rfl
  | succ n ih =>
    intro i x h0 h hn
    refine Ev.wf (fun hw => ?_)
    refine Ev.iload (q := 4) ⟨dL_law_23, rfl⟩ rfl ?_
    refine Ev.aload_n (q := 0) ⟨dL_law_25, rfl⟩ rfl rfl ?_
    refine Ev.slen ⟨dL_law_26, rfl⟩ ?_
    refine Ev.bipush ⟨dL_law_27, rfl⟩ (inRd rfl) (by decide) ?_
    refine Ev.isub ⟨dL_law_29, rfl⟩ (inRo (by omega) (by omega)) ?_
    refine Ev.icmp_gt jL_law_30 (fun hc => ?_) (fun hc => ?_)
    · refine Ev.iconst ⟨dL_law_2749, rfl⟩ (inRd rfl) ?_
      exact Ev.ireturn (ty := .boolean) ⟨dL_law_2750, rfl⟩ rfl rfl rfl
    · refine Ev.aload_n (q := 0) ⟨dL_law_33, rfl⟩ rfl rfl ?_
      refine Ev.iload (q := 4) ⟨dL_law_34, rfl⟩ rfl ?_
      refine Ev.sload (by omega) (by omega) ⟨dL_law_36, rfl⟩ ?_
      refine Ev.bipush ⟨dL_law_37, rfl⟩ (inRd rfl) (by decide) ?_
      refine Ev.iand ⟨dL_law_39, rfl⟩ ?_
      exact la_switch h (fun k => hw.1 27 0 k) hN h0 (by omega) (fun x2 h2 => la_next hN h0 (by omega) (ih (i + 6) x2 (by omega) h2 (by omega))) _
