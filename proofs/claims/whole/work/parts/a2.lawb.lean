set_option maxHeartbeats 4000000 in
set_option maxRecDepth 20000 in
theorem la_node {nm : String} {hh : List (Nat × Nat × Nat × Nat)} {Θ : GC} {D : Nat → Nat → Prop} {x : Mm} {i : Int} {mc ms : Nat} (h : Inv x) (hN : gN Θ ≤ 3072) (h0 : 0 ≤ i) (h6 : i + 6 ≤ (gN Θ : Int)) (kk : ∀ x2, Inv x2 → Ev Θ (mL_law nm hh) 14 504 mc ms 2743 [(0, vr 13 1), (1, vr 7 (0 + 1)), (2, vr 8 (0 + 1)), (3, vr 31 (0 + 1)), (4, vi i)] [] (hq D x2) lQ) : Ev Θ (mL_law nm hh) 14 504 (mc + 6) (ms + 36) 1389 [(0, vr 13 1), (1, vr 7 (0 + 1)), (2, vr 8 (0 + 1)), (3, vr 31 (0 + 1)), (4, vi i)] [] (hq D x) lQ := by
  have hq1 : ∃ k x1 b x2, F_L_node 50000 (scr Θ (i + 1)) (scr Θ (i + 2)) x = some (k, x1) ∧ F_X8_node 50000 0 (scr Θ (i + 1)) (scr Θ (i + 2)) x1 = some (b, x2) ∧ x2.1 8 0 0 = k ∧ (k = 0 → x2.2 31 0 0 = BitVec.ofInt 64 b) ∧ Inv x2 := rnI (F7 := F_X7_node 50000 0 (scr Θ (i + 1)) (scr Θ (i + 2))) (F8 := F_X8_node 50000 0 (scr Θ (i + 1)) (scr Θ (i + 2))) (p_node (by decide) h (scr Θ (i + 1)) (scr Θ (i + 2))) (fun L w => n_X8_node L 50000 0 (scr Θ (i + 1)) (scr Θ (i + 2)) w)
  obtain ⟨k, x1, b, x2, e1, e2, e3, e4, e5⟩ := hq1
  refine Ev.aload_n (q := 1) ⟨dL_law_1389, rfl⟩ rfl rfl ?_
  refine Ev.aload_n (q := 0) ⟨dL_law_1390, rfl⟩ rfl rfl ?_
  refine Ev.iload (q := 4) ⟨dL_law_1391, rfl⟩ rfl ?_
  refine Ev.iconst ⟨dL_law_1393, rfl⟩ (inRd rfl) ?_
  refine Ev.iadd ⟨dL_law_1394, rfl⟩ (inRo (by omega) (by omega)) ?_
  refine Ev.sload (by omega) (by omega) ⟨dL_law_1395, rfl⟩ ?_
  refine Ev.aload_n (q := 0) ⟨dL_law_1396, rfl⟩ rfl rfl ?_
  refine Ev.iload (q := 4) ⟨dL_law_1397, rfl⟩ rfl ?_
  refine Ev.iconst ⟨dL_law_1399, rfl⟩ (inRd rfl) ?_
  refine Ev.iadd ⟨dL_law_1400, rfl⟩ (inRo (by omega) (by omega)) ?_
  refine Ev.sload (by omega) (by omega) ⟨dL_law_1401, rfl⟩ ?_
  refine Ev.aload_n (q := 3) ⟨dL_law_1402, rfl⟩ rfl rfl ?_
  refine Ev.callH1 (mc1 := mc) (ms1 := ms) (v := vi k) (h1 := hq D x1) hL_220 (c_L_node Θ D 50000 _ _ x _ e1) rfl rfl ⟨by decide, by decide, by omega, by omega, Nat.le_of_ble_eq_true rfl⟩ ⟨dL_law_1403, rfl⟩ ?_
  refine Ev.istore (i := 5) (ls' := [(0, vr 13 1), (1, vr 7 (0 + 1)), (2, vr 8 (0 + 1)), (3, vr 31 (0 + 1)), (4, vi i), (5, vi k)]) ⟨dL_law_1406, rfl⟩ (Nat.le_of_ble_eq_true rfl) rfl ?_
  refine Ev.aload_n (q := 2) ⟨dL_law_1408, rfl⟩ rfl rfl ?_
  refine Ev.aload_n (q := 0) ⟨dL_law_1409, rfl⟩ rfl rfl ?_
  refine Ev.iload (q := 4) ⟨dL_law_1410, rfl⟩ rfl ?_
  refine Ev.iconst ⟨dL_law_1412, rfl⟩ (inRd rfl) ?_
  refine Ev.iadd ⟨dL_law_1413, rfl⟩ (inRo (by omega) (by omega)) ?_
  refine Ev.sload (by omega) (by omega) ⟨dL_law_1414, rfl⟩ ?_
  refine Ev.aload_n (q := 0) ⟨dL_law_1415, rfl⟩ rfl rfl ?_
  refine Ev.iload (q := 4) ⟨dL_law_1416, rfl⟩ rfl ?_
  refine Ev.iconst ⟨dL_law_1418, rfl⟩ (inRd rfl) ?_
  refine Ev.iadd ⟨dL_law_1419, rfl⟩ (inRo (by omega) (by omega)) ?_
  refine Ev.sload (by omega) (by omega) ⟨dL_law_1420, rfl⟩ ?_
  refine Ev.callV1 (mc1 := mc) (ms1 := ms) (v := vi b) (h1 := hq D x2) vL_222 (c_X8_node Θ D 50000 0 _ _ x1 _ e2) rfl rfl (by decide) rfl ⟨by decide, by decide, by omega, by omega, Nat.le_of_ble_eq_true rfl⟩ ⟨dL_law_1421, rfl⟩ ?_
  refine Ev.istore (i := 6) (ls' := [(0, vr 13 1), (1, vr 7 (0 + 1)), (2, vr 8 (0 + 1)), (3, vr 31 (0 + 1)), (4, vi i), (5, vi k), (6, vi b)]) ⟨dL_law_1424, rfl⟩ (Nat.le_of_ble_eq_true rfl) rfl ?_
  refine Ev.aload_n (q := 2) ⟨dL_law_1426, rfl⟩ rfl rfl ?_
  refine Ev.callV1 (mc1 := mc) (ms1 := ms) (v := vi (x2.1 8 0 0)) (h1 := hq D x2) vL_146 (c_X8_thrown Θ D 50000 0 x2 _ f_thrown) rfl rfl (by decide) rfl ⟨by decide, by decide, by omega, by omega, Nat.le_of_ble_eq_true rfl⟩ ⟨dL_law_1427, rfl⟩ ?_
  refine Ev.iload (q := 5) ⟨dL_law_1430, rfl⟩ rfl ?_
  refine Ev.icmp_eq jL_law_1432 (fun _ => ?_) (fun hc => absurd e3 hc)
  refine Ev.iload (q := 5) ⟨dL_law_1437, rfl⟩ rfl ?_
  have fin : Ev Θ (mL_law nm hh) 14 504 mc ms 1454 [(0, vr 13 1), (1, vr 7 (0 + 1)), (2, vr 8 (0 + 1)), (3, vr 31 (0 + 1)), (4, vi i), (5, vi k), (6, vi b)] [] (hq D x2) lQ := by
    refine Ev.goto jL_law_1454 ?_
    refine Ev.keep [0, 1, 2, 3, 4] rfl ?_
    exact kk x2 e5
  refine Ev.if_ne jL_law_1439 (fun _ => fin) (fun hc => ?_)
  refine Ev.aload_n (q := 3) ⟨dL_law_1442, rfl⟩ rfl rfl ?_
  refine Ev.iconst ⟨dL_law_1443, rfl⟩ (inRd rfl) ?_
  refine Ev.laload (by decide) (by decide) (show (0 : Int) < ((1 : Nat) : Int) by decide) ⟨dL_law_1444, rfl⟩ ?_
  refine Ev.iload (q := 6) ⟨dL_law_1445, rfl⟩ rfl ?_
  refine Ev.i2l ⟨dL_law_1447, rfl⟩ ?_
  refine Ev.lcmp ⟨dL_law_1448, rfl⟩ ?_
  refine Ev.if_eq jL_law_1449 (fun _ => fin) (fun hc => absurd ?_ hc)
  show lcm (x2.2 31 0 0) (BitVec.ofInt 64 b) = 0
  rw [e4 (by assumption)]; exact lcm_self _

set_option maxHeartbeats 4000000 in
set_option maxRecDepth 20000 in
theorem la_field {nm : String} {hh : List (Nat × Nat × Nat × Nat)} {Θ : GC} {D : Nat → Nat → Prop} {x : Mm} {i : Int} {mc ms : Nat} (h : Inv x) (hN : gN Θ ≤ 3072) (h0 : 0 ≤ i) (h6 : i + 6 ≤ (gN Θ : Int)) (kk : ∀ x2, Inv x2 → Ev Θ (mL_law nm hh) 14 504 mc ms 2743 [(0, vr 13 1), (1, vr 7 (0 + 1)), (2, vr 8 (0 + 1)), (3, vr 31 (0 + 1)), (4, vi i)] [] (hq D x2) lQ) : Ev Θ (mL_law nm hh) 14 504 (mc + 6) (ms + 36) 1457 [(0, vr 13 1), (1, vr 7 (0 + 1)), (2, vr 8 (0 + 1)), (3, vr 31 (0 + 1)), (4, vi i)] [] (hq D x) lQ := by
  have hq1 : ∃ k x1 b x2, F_L_field 50000 (scr Θ (i + 1)) (scr Θ (i + 2)) x = some (k, x1) ∧ F_X8_field 50000 0 (scr Θ (i + 1)) (scr Θ (i + 2)) x1 = some (b, x2) ∧ x2.1 8 0 0 = k ∧ (k = 0 → x2.2 31 0 0 = BitVec.ofInt 64 b) ∧ Inv x2 := rnI (F7 := F_X7_field 50000 0 (scr Θ (i + 1)) (scr Θ (i + 2))) (F8 := F_X8_field 50000 0 (scr Θ (i + 1)) (scr Θ (i + 2))) (p_field h (scr Θ (i + 1)) (scr Θ (i + 2))) (fun L w => n_X8_field L 50000 0 (scr Θ (i + 1)) (scr Θ (i + 2)) w)
  obtain ⟨k, x1, b, x2, e1, e2, e3, e4, e5⟩ := hq1
  refine Ev.aload_n (q := 1) ⟨dL_law_1457, rfl⟩ rfl rfl ?_
  refine Ev.aload_n (q := 0) ⟨dL_law_1458, rfl⟩ rfl rfl ?_
  refine Ev.iload (q := 4) ⟨dL_law_1459, rfl⟩ rfl ?_
  refine Ev.iconst ⟨dL_law_1461, rfl⟩ (inRd rfl) ?_
  refine Ev.iadd ⟨dL_law_1462, rfl⟩ (inRo (by omega) (by omega)) ?_
  refine Ev.sload (by omega) (by omega) ⟨dL_law_1463, rfl⟩ ?_
  refine Ev.aload_n (q := 0) ⟨dL_law_1464, rfl⟩ rfl rfl ?_
  refine Ev.iload (q := 4) ⟨dL_law_1465, rfl⟩ rfl ?_
  refine Ev.iconst ⟨dL_law_1467, rfl⟩ (inRd rfl) ?_
  refine Ev.iadd ⟨dL_law_1468, rfl⟩ (inRo (by omega) (by omega)) ?_
  refine Ev.sload (by omega) (by omega) ⟨dL_law_1469, rfl⟩ ?_
  refine Ev.aload_n (q := 3) ⟨dL_law_1470, rfl⟩ rfl rfl ?_
  refine Ev.callH1 (mc1 := mc) (ms1 := ms) (v := vi k) (h1 := hq D x1) hL_223 (c_L_field Θ D 50000 _ _ x _ e1) rfl rfl ⟨by decide, by decide, by omega, by omega, Nat.le_of_ble_eq_true rfl⟩ ⟨dL_law_1471, rfl⟩ ?_
  refine Ev.istore (i := 5) (ls' := [(0, vr 13 1), (1, vr 7 (0 + 1)), (2, vr 8 (0 + 1)), (3, vr 31 (0 + 1)), (4, vi i), (5, vi k)]) ⟨dL_law_1474, rfl⟩ (Nat.le_of_ble_eq_true rfl) rfl ?_
  refine Ev.aload_n (q := 2) ⟨dL_law_1476, rfl⟩ rfl rfl ?_
  refine Ev.aload_n (q := 0) ⟨dL_law_1477, rfl⟩ rfl rfl ?_
  refine Ev.iload (q := 4) ⟨dL_law_1478, rfl⟩ rfl ?_
  refine Ev.iconst ⟨dL_law_1480, rfl⟩ (inRd rfl) ?_
  refine Ev.iadd ⟨dL_law_1481, rfl⟩ (inRo (by omega) (by omega)) ?_
  refine Ev.sload (by omega) (by omega) ⟨dL_law_1482, rfl⟩ ?_
  refine Ev.aload_n (q := 0) ⟨dL_law_1483, rfl⟩ rfl rfl ?_
  refine Ev.iload (q := 4) ⟨dL_law_1484, rfl⟩ rfl ?_
  refine Ev.iconst ⟨dL_law_1486, rfl⟩ (inRd rfl) ?_
  refine Ev.iadd ⟨dL_law_1487, rfl⟩ (inRo (by omega) (by omega)) ?_
  refine Ev.sload (by omega) (by omega) ⟨dL_law_1488, rfl⟩ ?_
  refine Ev.callV1 (mc1 := mc) (ms1 := ms) (v := vi b) (h1 := hq D x2) vL_225 (c_X8_field Θ D 50000 0 _ _ x1 _ e2) rfl rfl (by decide) rfl ⟨by decide, by decide, by omega, by omega, Nat.le_of_ble_eq_true rfl⟩ ⟨dL_law_1489, rfl⟩ ?_
  refine Ev.istore (i := 6) (ls' := [(0, vr 13 1), (1, vr 7 (0 + 1)), (2, vr 8 (0 + 1)), (3, vr 31 (0 + 1)), (4, vi i), (5, vi k), (6, vi b)]) ⟨dL_law_1492, rfl⟩ (Nat.le_of_ble_eq_true rfl) rfl ?_
  refine Ev.aload_n (q := 2) ⟨dL_law_1494, rfl⟩ rfl rfl ?_
  refine Ev.callV1 (mc1 := mc) (ms1 := ms) (v := vi (x2.1 8 0 0)) (h1 := hq D x2) vL_146 (c_X8_thrown Θ D 50000 0 x2 _ f_thrown) rfl rfl (by decide) rfl ⟨by decide, by decide, by omega, by omega, Nat.le_of_ble_eq_true rfl⟩ ⟨dL_law_1495, rfl⟩ ?_
  refine Ev.iload (q := 5) ⟨dL_law_1498, rfl⟩ rfl ?_
  refine Ev.icmp_eq jL_law_1500 (fun _ => ?_) (fun hc => absurd e3 hc)
  refine Ev.iload (q := 5) ⟨dL_law_1505, rfl⟩ rfl ?_
  have fin : Ev Θ (mL_law nm hh) 14 504 mc ms 1522 [(0, vr 13 1), (1, vr 7 (0 + 1)), (2, vr 8 (0 + 1)), (3, vr 31 (0 + 1)), (4, vi i), (5, vi k), (6, vi b)] [] (hq D x2) lQ := by
    refine Ev.goto jL_law_1522 ?_
    refine Ev.keep [0, 1, 2, 3, 4] rfl ?_
    exact kk x2 e5
  refine Ev.if_ne jL_law_1507 (fun _ => fin) (fun hc => ?_)
  refine Ev.aload_n (q := 3) ⟨dL_law_1510, rfl⟩ rfl rfl ?_
  refine Ev.iconst ⟨dL_law_1511, rfl⟩ (inRd rfl) ?_
  refine Ev.laload (by decide) (by decide) (show (0 : Int) < ((1 : Nat) : Int) by decide) ⟨dL_law_1512, rfl⟩ ?_
  refine Ev.iload (q := 6) ⟨dL_law_1513, rfl⟩ rfl ?_
  refine Ev.i2l ⟨dL_law_1515, rfl⟩ ?_
  refine Ev.lcmp ⟨dL_law_1516, rfl⟩ ?_
  refine Ev.if_eq jL_law_1517 (fun _ => fin) (fun hc => absurd ?_ hc)
  show lcm (x2.2 31 0 0) (BitVec.ofInt 64 b) = 0
  rw [e4 (by assumption)]; exact lcm_self _

set_option maxHeartbeats 4000000 in
set_option maxRecDepth 20000 in
theorem la_childCount {nm : String} {hh : List (Nat × Nat × Nat × Nat)} {Θ : GC} {D : Nat → Nat → Prop} {x : Mm} {i : Int} {mc ms : Nat} (h : Inv x) (hN : gN Θ ≤ 3072) (h0 : 0 ≤ i) (h6 : i + 6 ≤ (gN Θ : Int)) (kk : ∀ x2, Inv x2 → Ev Θ (mL_law nm hh) 14 504 mc ms 2743 [(0, vr 13 1), (1, vr 7 (0 + 1)), (2, vr 8 (0 + 1)), (3, vr 31 (0 + 1)), (4, vi i)] [] (hq D x2) lQ) : Ev Θ (mL_law nm hh) 14 504 (mc + 6) (ms + 36) 1525 [(0, vr 13 1), (1, vr 7 (0 + 1)), (2, vr 8 (0 + 1)), (3, vr 31 (0 + 1)), (4, vi i)] [] (hq D x) lQ := by
  have hq1 : ∃ k x1 b x2, F_L_childCount 50000 (scr Θ (i + 1)) x = some (k, x1) ∧ F_X8_childCount 50000 0 (scr Θ (i + 1)) x1 = some (b, x2) ∧ x2.1 8 0 0 = k ∧ (k = 0 → x2.2 31 0 0 = BitVec.ofInt 64 b) ∧ Inv x2 := rnI (F7 := F_X7_childCount 50000 0 (scr Θ (i + 1))) (F8 := F_X8_childCount 50000 0 (scr Θ (i + 1))) (p_childCount (by decide) h (scr Θ (i + 1))) (fun L w => n_X8_childCount L 50000 0 (scr Θ (i + 1)) w)
  obtain ⟨k, x1, b, x2, e1, e2, e3, e4, e5⟩ := hq1
  refine Ev.aload_n (q := 1) ⟨dL_law_1525, rfl⟩ rfl rfl ?_
  refine Ev.aload_n (q := 0) ⟨dL_law_1526, rfl⟩ rfl rfl ?_
  refine Ev.iload (q := 4) ⟨dL_law_1527, rfl⟩ rfl ?_
  refine Ev.iconst ⟨dL_law_1529, rfl⟩ (inRd rfl) ?_
  refine Ev.iadd ⟨dL_law_1530, rfl⟩ (inRo (by omega) (by omega)) ?_
  refine Ev.sload (by omega) (by omega) ⟨dL_law_1531, rfl⟩ ?_
  refine Ev.aload_n (q := 3) ⟨dL_law_1532, rfl⟩ rfl rfl ?_
  refine Ev.callH1 (mc1 := mc) (ms1 := ms) (v := vi k) (h1 := hq D x1) hL_226 (c_L_childCount Θ D 50000 _ x _ e1) rfl rfl ⟨by decide, by decide, by omega, by omega, Nat.le_of_ble_eq_true rfl⟩ ⟨dL_law_1533, rfl⟩ ?_
  refine Ev.istore (i := 5) (ls' := [(0, vr 13 1), (1, vr 7 (0 + 1)), (2, vr 8 (0 + 1)), (3, vr 31 (0 + 1)), (4, vi i), (5, vi k)]) ⟨dL_law_1536, rfl⟩ (Nat.le_of_ble_eq_true rfl) rfl ?_
  refine Ev.aload_n (q := 2) ⟨dL_law_1538, rfl⟩ rfl rfl ?_
  refine Ev.aload_n (q := 0) ⟨dL_law_1539, rfl⟩ rfl rfl ?_
  refine Ev.iload (q := 4) ⟨dL_law_1540, rfl⟩ rfl ?_
  refine Ev.iconst ⟨dL_law_1542, rfl⟩ (inRd rfl) ?_
  refine Ev.iadd ⟨dL_law_1543, rfl⟩ (inRo (by omega) (by omega)) ?_
  refine Ev.sload (by omega) (by omega) ⟨dL_law_1544, rfl⟩ ?_
  refine Ev.callV1 (mc1 := mc) (ms1 := ms) (v := vi b) (h1 := hq D x2) vL_228 (c_X8_childCount Θ D 50000 0 _ x1 _ e2) rfl rfl (by decide) rfl ⟨by decide, by decide, by omega, by omega, Nat.le_of_ble_eq_true rfl⟩ ⟨dL_law_1545, rfl⟩ ?_
  refine Ev.istore (i := 6) (ls' := [(0, vr 13 1), (1, vr 7 (0 + 1)), (2, vr 8 (0 + 1)), (3, vr 31 (0 + 1)), (4, vi i), (5, vi k), (6, vi b)]) ⟨dL_law_1548, rfl⟩ (Nat.le_of_ble_eq_true rfl) rfl ?_
  refine Ev.aload_n (q := 2) ⟨dL_law_1550, rfl⟩ rfl rfl ?_
  refine Ev.callV1 (mc1 := mc) (ms1 := ms) (v := vi (x2.1 8 0 0)) (h1 := hq D x2) vL_146 (c_X8_thrown Θ D 50000 0 x2 _ f_thrown) rfl rfl (by decide) rfl ⟨by decide, by decide, by omega, by omega, Nat.le_of_ble_eq_true rfl⟩ ⟨dL_law_1551, rfl⟩ ?_
  refine Ev.iload (q := 5) ⟨dL_law_1554, rfl⟩ rfl ?_
  refine Ev.icmp_eq jL_law_1556 (fun _ => ?_) (fun hc => absurd e3 hc)
  refine Ev.iload (q := 5) ⟨dL_law_1561, rfl⟩ rfl ?_
  have fin : Ev Θ (mL_law nm hh) 14 504 mc ms 1578 [(0, vr 13 1), (1, vr 7 (0 + 1)), (2, vr 8 (0 + 1)), (3, vr 31 (0 + 1)), (4, vi i), (5, vi k), (6, vi b)] [] (hq D x2) lQ := by
    refine Ev.goto jL_law_1578 ?_
    refine Ev.keep [0, 1, 2, 3, 4] rfl ?_
    exact kk x2 e5
  refine Ev.if_ne jL_law_1563 (fun _ => fin) (fun hc => ?_)
  refine Ev.aload_n (q := 3) ⟨dL_law_1566, rfl⟩ rfl rfl ?_
  refine Ev.iconst ⟨dL_law_1567, rfl⟩ (inRd rfl) ?_
  refine Ev.laload (by decide) (by decide) (show (0 : Int) < ((1 : Nat) : Int) by decide) ⟨dL_law_1568, rfl⟩ ?_
  refine Ev.iload (q := 6) ⟨dL_law_1569, rfl⟩ rfl ?_
  refine Ev.i2l ⟨dL_law_1571, rfl⟩ ?_
  refine Ev.lcmp ⟨dL_law_1572, rfl⟩ ?_
  refine Ev.if_eq jL_law_1573 (fun _ => fin) (fun hc => absurd ?_ hc)
  show lcm (x2.2 31 0 0) (BitVec.ofInt 64 b) = 0
  rw [e4 (by assumption)]; exact lcm_self _

set_option maxHeartbeats 4000000 in
set_option maxRecDepth 20000 in
theorem la_child {nm : String} {hh : List (Nat × Nat × Nat × Nat)} {Θ : GC} {D : Nat → Nat → Prop} {x : Mm} {i : Int} {mc ms : Nat} (h : Inv x) (hN : gN Θ ≤ 3072) (h0 : 0 ≤ i) (h6 : i + 6 ≤ (gN Θ : Int)) (kk : ∀ x2, Inv x2 → Ev Θ (mL_law nm hh) 14 504 mc ms 2743 [(0, vr 13 1), (1, vr 7 (0 + 1)), (2, vr 8 (0 + 1)), (3, vr 31 (0 + 1)), (4, vi i)] [] (hq D x2) lQ) : Ev Θ (mL_law nm hh) 14 504 (mc + 6) (ms + 36) 1581 [(0, vr 13 1), (1, vr 7 (0 + 1)), (2, vr 8 (0 + 1)), (3, vr 31 (0 + 1)), (4, vi i)] [] (hq D x) lQ := by
  have hq1 : ∃ k x1 b x2, F_L_child 50000 (scr Θ (i + 1)) (scr Θ (i + 2)) x = some (k, x1) ∧ F_X8_child 50000 0 (scr Θ (i + 1)) (scr Θ (i + 2)) x1 = some (b, x2) ∧ x2.1 8 0 0 = k ∧ (k = 0 → x2.2 31 0 0 = BitVec.ofInt 64 b) ∧ Inv x2 := rnI (F7 := F_X7_child 50000 0 (scr Θ (i + 1)) (scr Θ (i + 2))) (F8 := F_X8_child 50000 0 (scr Θ (i + 1)) (scr Θ (i + 2))) (p_child (by decide) h (scr Θ (i + 1)) (scr Θ (i + 2))) (fun L w => n_X8_child L 50000 0 (scr Θ (i + 1)) (scr Θ (i + 2)) w)
  obtain ⟨k, x1, b, x2, e1, e2, e3, e4, e5⟩ := hq1
  refine Ev.aload_n (q := 1) ⟨dL_law_1581, rfl⟩ rfl rfl ?_
  refine Ev.aload_n (q := 0) ⟨dL_law_1582, rfl⟩ rfl rfl ?_
  refine Ev.iload (q := 4) ⟨dL_law_1583, rfl⟩ rfl ?_
  refine Ev.iconst ⟨dL_law_1585, rfl⟩ (inRd rfl) ?_
  refine Ev.iadd ⟨dL_law_1586, rfl⟩ (inRo (by omega) (by omega)) ?_
  refine Ev.sload (by omega) (by omega) ⟨dL_law_1587, rfl⟩ ?_
  refine Ev.aload_n (q := 0) ⟨dL_law_1588, rfl⟩ rfl rfl ?_
  refine Ev.iload (q := 4) ⟨dL_law_1589, rfl⟩ rfl ?_
  refine Ev.iconst ⟨dL_law_1591, rfl⟩ (inRd rfl) ?_
  refine Ev.iadd ⟨dL_law_1592, rfl⟩ (inRo (by omega) (by omega)) ?_
  refine Ev.sload (by omega) (by omega) ⟨dL_law_1593, rfl⟩ ?_
  refine Ev.aload_n (q := 3) ⟨dL_law_1594, rfl⟩ rfl rfl ?_
  refine Ev.callH1 (mc1 := mc) (ms1 := ms) (v := vi k) (h1 := hq D x1) hL_229 (c_L_child Θ D 50000 _ _ x _ e1) rfl rfl ⟨by decide, by decide, by omega, by omega, Nat.le_of_ble_eq_true rfl⟩ ⟨dL_law_1595, rfl⟩ ?_
  refine Ev.istore (i := 5) (ls' := [(0, vr 13 1), (1, vr 7 (0 + 1)), (2, vr 8 (0 + 1)), (3, vr 31 (0 + 1)), (4, vi i), (5, vi k)]) ⟨dL_law_1598, rfl⟩ (Nat.le_of_ble_eq_true rfl) rfl ?_
  refine Ev.aload_n (q := 2) ⟨dL_law_1600, rfl⟩ rfl rfl ?_
  refine Ev.aload_n (q := 0) ⟨dL_law_1601, rfl⟩ rfl rfl ?_
  refine Ev.iload (q := 4) ⟨dL_law_1602, rfl⟩ rfl ?_
  refine Ev.iconst ⟨dL_law_1604, rfl⟩ (inRd rfl) ?_
  refine Ev.iadd ⟨dL_law_1605, rfl⟩ (inRo (by omega) (by omega)) ?_
  refine Ev.sload (by omega) (by omega) ⟨dL_law_1606, rfl⟩ ?_
  refine Ev.aload_n (q := 0) ⟨dL_law_1607, rfl⟩ rfl rfl ?_
  refine Ev.iload (q := 4) ⟨dL_law_1608, rfl⟩ rfl ?_
  refine Ev.iconst ⟨dL_law_1610, rfl⟩ (inRd rfl) ?_
  refine Ev.iadd ⟨dL_law_1611, rfl⟩ (inRo (by omega) (by omega)) ?_
  refine Ev.sload (by omega) (by omega) ⟨dL_law_1612, rfl⟩ ?_
  refine Ev.callV1 (mc1 := mc) (ms1 := ms) (v := vi b) (h1 := hq D x2) vL_231 (c_X8_child Θ D 50000 0 _ _ x1 _ e2) rfl rfl (by decide) rfl ⟨by decide, by decide, by omega, by omega, Nat.le_of_ble_eq_true rfl⟩ ⟨dL_law_1613, rfl⟩ ?_
  refine Ev.istore (i := 6) (ls' := [(0, vr 13 1), (1, vr 7 (0 + 1)), (2, vr 8 (0 + 1)), (3, vr 31 (0 + 1)), (4, vi i), (5, vi k), (6, vi b)]) ⟨dL_law_1616, rfl⟩ (Nat.le_of_ble_eq_true rfl) rfl ?_
  refine Ev.aload_n (q := 2) ⟨dL_law_1618, rfl⟩ rfl rfl ?_
  refine Ev.callV1 (mc1 := mc) (ms1 := ms) (v := vi (x2.1 8 0 0)) (h1 := hq D x2) vL_146 (c_X8_thrown Θ D 50000 0 x2 _ f_thrown) rfl rfl (by decide) rfl ⟨by decide, by decide, by omega, by omega, Nat.le_of_ble_eq_true rfl⟩ ⟨dL_law_1619, rfl⟩ ?_
  refine Ev.iload (q := 5) ⟨dL_law_1622, rfl⟩ rfl ?_
  refine Ev.icmp_eq jL_law_1624 (fun _ => ?_) (fun hc => absurd e3 hc)
  refine Ev.iload (q := 5) ⟨dL_law_1629, rfl⟩ rfl ?_
  have fin : Ev Θ (mL_law nm hh) 14 504 mc ms 1646 [(0, vr 13 1), (1, vr 7 (0 + 1)), (2, vr 8 (0 + 1)), (3, vr 31 (0 + 1)), (4, vi i), (5, vi k), (6, vi b)] [] (hq D x2) lQ := by
    refine Ev.goto jL_law_1646 ?_
    refine Ev.keep [0, 1, 2, 3, 4] rfl ?_
    exact kk x2 e5
  refine Ev.if_ne jL_law_1631 (fun _ => fin) (fun hc => ?_)
  refine Ev.aload_n (q := 3) ⟨dL_law_1634, rfl⟩ rfl rfl ?_
  refine Ev.iconst ⟨dL_law_1635, rfl⟩ (inRd rfl) ?_
  refine Ev.laload (by decide) (by decide) (show (0 : Int) < ((1 : Nat) : Int) by decide) ⟨dL_law_1636, rfl⟩ ?_
  refine Ev.iload (q := 6) ⟨dL_law_1637, rfl⟩ rfl ?_
  refine Ev.i2l ⟨dL_law_1639, rfl⟩ ?_
  refine Ev.lcmp ⟨dL_law_1640, rfl⟩ ?_
  refine Ev.if_eq jL_law_1641 (fun _ => fin) (fun hc => absurd ?_ hc)
  show lcm (x2.2 31 0 0) (BitVec.ofInt 64 b) = 0
  rw [e4 (by assumption)]; exact lcm_self _

set_option maxHeartbeats 4000000 in
set_option maxRecDepth 20000 in
theorem la_find {nm : String} {hh : List (Nat × Nat × Nat × Nat)} {Θ : GC} {D : Nat → Nat → Prop} {x : Mm} {i : Int} {mc ms : Nat} (h : Inv x) (hN : gN Θ ≤ 3072) (h0 : 0 ≤ i) (h6 : i + 6 ≤ (gN Θ : Int)) (kk : ∀ x2, Inv x2 → Ev Θ (mL_law nm hh) 14 504 mc ms 2743 [(0, vr 13 1), (1, vr 7 (0 + 1)), (2, vr 8 (0 + 1)), (3, vr 31 (0 + 1)), (4, vi i)] [] (hq D x2) lQ) : Ev Θ (mL_law nm hh) 14 504 (mc + 6) (ms + 36) 1649 [(0, vr 13 1), (1, vr 7 (0 + 1)), (2, vr 8 (0 + 1)), (3, vr 31 (0 + 1)), (4, vi i)] [] (hq D x) lQ := by
  have hq1 : ∃ k x1 b x2, F_L_find 50000 (scr Θ (i + 1)) (scr Θ (i + 2)) x = some (k, x1) ∧ F_X8_find 50000 0 (scr Θ (i + 1)) (scr Θ (i + 2)) x1 = some (b, x2) ∧ x2.1 8 0 0 = k ∧ (k = 0 → x2.2 31 0 0 = BitVec.ofInt 64 b) ∧ Inv x2 := rnI (F7 := F_X7_find 50000 0 (scr Θ (i + 1)) (scr Θ (i + 2))) (F8 := F_X8_find 50000 0 (scr Θ (i + 1)) (scr Θ (i + 2))) (p_find (by decide) h (scr Θ (i + 1)) (scr Θ (i + 2))) (fun L w => n_X8_find L 50000 0 (scr Θ (i + 1)) (scr Θ (i + 2)) w)
  obtain ⟨k, x1, b, x2, e1, e2, e3, e4, e5⟩ := hq1
  refine Ev.aload_n (q := 1) ⟨dL_law_1649, rfl⟩ rfl rfl ?_
  refine Ev.aload_n (q := 0) ⟨dL_law_1650, rfl⟩ rfl rfl ?_
  refine Ev.iload (q := 4) ⟨dL_law_1651, rfl⟩ rfl ?_
  refine Ev.iconst ⟨dL_law_1653, rfl⟩ (inRd rfl) ?_
  refine Ev.iadd ⟨dL_law_1654, rfl⟩ (inRo (by omega) (by omega)) ?_
  refine Ev.sload (by omega) (by omega) ⟨dL_law_1655, rfl⟩ ?_
  refine Ev.aload_n (q := 0) ⟨dL_law_1656, rfl⟩ rfl rfl ?_
  refine Ev.iload (q := 4) ⟨dL_law_1657, rfl⟩ rfl ?_
  refine Ev.iconst ⟨dL_law_1659, rfl⟩ (inRd rfl) ?_
  refine Ev.iadd ⟨dL_law_1660, rfl⟩ (inRo (by omega) (by omega)) ?_
  refine Ev.sload (by omega) (by omega) ⟨dL_law_1661, rfl⟩ ?_
  refine Ev.aload_n (q := 3) ⟨dL_law_1662, rfl⟩ rfl rfl ?_
  refine Ev.callH1 (mc1 := mc) (ms1 := ms) (v := vi k) (h1 := hq D x1) hL_232 (c_L_find Θ D 50000 _ _ x _ e1) rfl rfl ⟨by decide, by decide, by omega, by omega, Nat.le_of_ble_eq_true rfl⟩ ⟨dL_law_1663, rfl⟩ ?_
  refine Ev.istore (i := 5) (ls' := [(0, vr 13 1), (1, vr 7 (0 + 1)), (2, vr 8 (0 + 1)), (3, vr 31 (0 + 1)), (4, vi i), (5, vi k)]) ⟨dL_law_1666, rfl⟩ (Nat.le_of_ble_eq_true rfl) rfl ?_
  refine Ev.aload_n (q := 2) ⟨dL_law_1668, rfl⟩ rfl rfl ?_
  refine Ev.aload_n (q := 0) ⟨dL_law_1669, rfl⟩ rfl rfl ?_
  refine Ev.iload (q := 4) ⟨dL_law_1670, rfl⟩ rfl ?_
  refine Ev.iconst ⟨dL_law_1672, rfl⟩ (inRd rfl) ?_
  refine Ev.iadd ⟨dL_law_1673, rfl⟩ (inRo (by omega) (by omega)) ?_
  refine Ev.sload (by omega) (by omega) ⟨dL_law_1674, rfl⟩ ?_
  refine Ev.aload_n (q := 0) ⟨dL_law_1675, rfl⟩ rfl rfl ?_
  refine Ev.iload (q := 4) ⟨dL_law_1676, rfl⟩ rfl ?_
  refine Ev.iconst ⟨dL_law_1678, rfl⟩ (inRd rfl) ?_
  refine Ev.iadd ⟨dL_law_1679, rfl⟩ (inRo (by omega) (by omega)) ?_
  refine Ev.sload (by omega) (by omega) ⟨dL_law_1680, rfl⟩ ?_
  refine Ev.callV1 (mc1 := mc) (ms1 := ms) (v := vi b) (h1 := hq D x2) vL_234 (c_X8_find Θ D 50000 0 _ _ x1 _ e2) rfl rfl (by decide) rfl ⟨by decide, by decide, by omega, by omega, Nat.le_of_ble_eq_true rfl⟩ ⟨dL_law_1681, rfl⟩ ?_
  refine Ev.istore (i := 6) (ls' := [(0, vr 13 1), (1, vr 7 (0 + 1)), (2, vr 8 (0 + 1)), (3, vr 31 (0 + 1)), (4, vi i), (5, vi k), (6, vi b)]) ⟨dL_law_1684, rfl⟩ (Nat.le_of_ble_eq_true rfl) rfl ?_
  refine Ev.aload_n (q := 2) ⟨dL_law_1686, rfl⟩ rfl rfl ?_
  refine Ev.callV1 (mc1 := mc) (ms1 := ms) (v := vi (x2.1 8 0 0)) (h1 := hq D x2) vL_146 (c_X8_thrown Θ D 50000 0 x2 _ f_thrown) rfl rfl (by decide) rfl ⟨by decide, by decide, by omega, by omega, Nat.le_of_ble_eq_true rfl⟩ ⟨dL_law_1687, rfl⟩ ?_
  refine Ev.iload (q := 5) ⟨dL_law_1690, rfl⟩ rfl ?_
  refine Ev.icmp_eq jL_law_1692 (fun _ => ?_) (fun hc => absurd e3 hc)
  refine Ev.iload (q := 5) ⟨dL_law_1697, rfl⟩ rfl ?_
  have fin : Ev Θ (mL_law nm hh) 14 504 mc ms 1714 [(0, vr 13 1), (1, vr 7 (0 + 1)), (2, vr 8 (0 + 1)), (3, vr 31 (0 + 1)), (4, vi i), (5, vi k), (6, vi b)] [] (hq D x2) lQ := by
    refine Ev.goto jL_law_1714 ?_
    refine Ev.keep [0, 1, 2, 3, 4] rfl ?_
    exact kk x2 e5
  refine Ev.if_ne jL_law_1699 (fun _ => fin) (fun hc => ?_)
  refine Ev.aload_n (q := 3) ⟨dL_law_1702, rfl⟩ rfl rfl ?_
  refine Ev.iconst ⟨dL_law_1703, rfl⟩ (inRd rfl) ?_
  refine Ev.laload (by decide) (by decide) (show (0 : Int) < ((1 : Nat) : Int) by decide) ⟨dL_law_1704, rfl⟩ ?_
  refine Ev.iload (q := 6) ⟨dL_law_1705, rfl⟩ rfl ?_
  refine Ev.i2l ⟨dL_law_1707, rfl⟩ ?_
  refine Ev.lcmp ⟨dL_law_1708, rfl⟩ ?_
  refine Ev.if_eq jL_law_1709 (fun _ => fin) (fun hc => absurd ?_ hc)
  show lcm (x2.2 31 0 0) (BitVec.ofInt 64 b) = 0
  rw [e4 (by assumption)]; exact lcm_self _

set_option maxHeartbeats 4000000 in
set_option maxRecDepth 20000 in
theorem la_walk {nm : String} {hh : List (Nat × Nat × Nat × Nat)} {Θ : GC} {D : Nat → Nat → Prop} {x : Mm} {i : Int} {mc ms : Nat} (h : Inv x) (hN : gN Θ ≤ 3072) (h0 : 0 ≤ i) (h6 : i + 6 ≤ (gN Θ : Int)) (kk : ∀ x2, Inv x2 → Ev Θ (mL_law nm hh) 14 504 mc ms 2743 [(0, vr 13 1), (1, vr 7 (0 + 1)), (2, vr 8 (0 + 1)), (3, vr 31 (0 + 1)), (4, vi i)] [] (hq D x2) lQ) : Ev Θ (mL_law nm hh) 14 504 (mc + 6) (ms + 36) 1717 [(0, vr 13 1), (1, vr 7 (0 + 1)), (2, vr 8 (0 + 1)), (3, vr 31 (0 + 1)), (4, vi i)] [] (hq D x) lQ := by
  have hq1 : ∃ k x1 b x2, F_L_walk 50000 (scr Θ (i + 1)) (scr Θ (i + 2)) x = some (k, x1) ∧ F_X8_walk 50000 0 (scr Θ (i + 1)) (scr Θ (i + 2)) x1 = some (b, x2) ∧ x2.1 8 0 0 = k ∧ (k = 0 → x2.2 31 0 0 = BitVec.ofInt 64 b) ∧ Inv x2 := rnI (F7 := F_X7_walk 50000 0 (scr Θ (i + 1)) (scr Θ (i + 2))) (F8 := F_X8_walk 50000 0 (scr Θ (i + 1)) (scr Θ (i + 2))) (p_walk (by decide) h (scr Θ (i + 1)) (scr Θ (i + 2))) (fun L w => n_X8_walk L 50000 0 (scr Θ (i + 1)) (scr Θ (i + 2)) w)
  obtain ⟨k, x1, b, x2, e1, e2, e3, e4, e5⟩ := hq1
  refine Ev.aload_n (q := 1) ⟨dL_law_1717, rfl⟩ rfl rfl ?_
  refine Ev.aload_n (q := 0) ⟨dL_law_1718, rfl⟩ rfl rfl ?_
  refine Ev.iload (q := 4) ⟨dL_law_1719, rfl⟩ rfl ?_
  refine Ev.iconst ⟨dL_law_1721, rfl⟩ (inRd rfl) ?_
  refine Ev.iadd ⟨dL_law_1722, rfl⟩ (inRo (by omega) (by omega)) ?_
  refine Ev.sload (by omega) (by omega) ⟨dL_law_1723, rfl⟩ ?_
  refine Ev.aload_n (q := 0) ⟨dL_law_1724, rfl⟩ rfl rfl ?_
  refine Ev.iload (q := 4) ⟨dL_law_1725, rfl⟩ rfl ?_
  refine Ev.iconst ⟨dL_law_1727, rfl⟩ (inRd rfl) ?_
  refine Ev.iadd ⟨dL_law_1728, rfl⟩ (inRo (by omega) (by omega)) ?_
  refine Ev.sload (by omega) (by omega) ⟨dL_law_1729, rfl⟩ ?_
  refine Ev.aload_n (q := 3) ⟨dL_law_1730, rfl⟩ rfl rfl ?_
  refine Ev.callH1 (mc1 := mc) (ms1 := ms) (v := vi k) (h1 := hq D x1) hL_235 (c_L_walk Θ D 50000 _ _ x _ e1) rfl rfl ⟨by decide, by decide, by omega, by omega, Nat.le_of_ble_eq_true rfl⟩ ⟨dL_law_1731, rfl⟩ ?_
  refine Ev.istore (i := 5) (ls' := [(0, vr 13 1), (1, vr 7 (0 + 1)), (2, vr 8 (0 + 1)), (3, vr 31 (0 + 1)), (4, vi i), (5, vi k)]) ⟨dL_law_1734, rfl⟩ (Nat.le_of_ble_eq_true rfl) rfl ?_
  refine Ev.aload_n (q := 2) ⟨dL_law_1736, rfl⟩ rfl rfl ?_
  refine Ev.aload_n (q := 0) ⟨dL_law_1737, rfl⟩ rfl rfl ?_
  refine Ev.iload (q := 4) ⟨dL_law_1738, rfl⟩ rfl ?_
  refine Ev.iconst ⟨dL_law_1740, rfl⟩ (inRd rfl) ?_
  refine Ev.iadd ⟨dL_law_1741, rfl⟩ (inRo (by omega) (by omega)) ?_
  refine Ev.sload (by omega) (by omega) ⟨dL_law_1742, rfl⟩ ?_
  refine Ev.aload_n (q := 0) ⟨dL_law_1743, rfl⟩ rfl rfl ?_
  refine Ev.iload (q := 4) ⟨dL_law_1744, rfl⟩ rfl ?_
  refine Ev.iconst ⟨dL_law_1746, rfl⟩ (inRd rfl) ?_
  refine Ev.iadd ⟨dL_law_1747, rfl⟩ (inRo (by omega) (by omega)) ?_
  refine Ev.sload (by omega) (by omega) ⟨dL_law_1748, rfl⟩ ?_
  refine Ev.callV1 (mc1 := mc) (ms1 := ms) (v := vi b) (h1 := hq D x2) vL_237 (c_X8_walk Θ D 50000 0 _ _ x1 _ e2) rfl rfl (by decide) rfl ⟨by decide, by decide, by omega, by omega, Nat.le_of_ble_eq_true rfl⟩ ⟨dL_law_1749, rfl⟩ ?_
  refine Ev.istore (i := 6) (ls' := [(0, vr 13 1), (1, vr 7 (0 + 1)), (2, vr 8 (0 + 1)), (3, vr 31 (0 + 1)), (4, vi i), (5, vi k), (6, vi b)]) ⟨dL_law_1752, rfl⟩ (Nat.le_of_ble_eq_true rfl) rfl ?_
  refine Ev.aload_n (q := 2) ⟨dL_law_1754, rfl⟩ rfl rfl ?_
  refine Ev.callV1 (mc1 := mc) (ms1 := ms) (v := vi (x2.1 8 0 0)) (h1 := hq D x2) vL_146 (c_X8_thrown Θ D 50000 0 x2 _ f_thrown) rfl rfl (by decide) rfl ⟨by decide, by decide, by omega, by omega, Nat.le_of_ble_eq_true rfl⟩ ⟨dL_law_1755, rfl⟩ ?_
  refine Ev.iload (q := 5) ⟨dL_law_1758, rfl⟩ rfl ?_
  refine Ev.icmp_eq jL_law_1760 (fun _ => ?_) (fun hc => absurd e3 hc)
  refine Ev.iload (q := 5) ⟨dL_law_1765, rfl⟩ rfl ?_
  have fin : Ev Θ (mL_law nm hh) 14 504 mc ms 1782 [(0, vr 13 1), (1, vr 7 (0 + 1)), (2, vr 8 (0 + 1)), (3, vr 31 (0 + 1)), (4, vi i), (5, vi k), (6, vi b)] [] (hq D x2) lQ := by
    refine Ev.goto jL_law_1782 ?_
    refine Ev.keep [0, 1, 2, 3, 4] rfl ?_
    exact kk x2 e5
  refine Ev.if_ne jL_law_1767 (fun _ => fin) (fun hc => ?_)
  refine Ev.aload_n (q := 3) ⟨dL_law_1770, rfl⟩ rfl rfl ?_
  refine Ev.iconst ⟨dL_law_1771, rfl⟩ (inRd rfl) ?_
  refine Ev.laload (by decide) (by decide) (show (0 : Int) < ((1 : Nat) : Int) by decide) ⟨dL_law_1772, rfl⟩ ?_
  refine Ev.iload (q := 6) ⟨dL_law_1773, rfl⟩ rfl ?_
  refine Ev.i2l ⟨dL_law_1775, rfl⟩ ?_
  refine Ev.lcmp ⟨dL_law_1776, rfl⟩ ?_
  refine Ev.if_eq jL_law_1777 (fun _ => fin) (fun hc => absurd ?_ hc)
  show lcm (x2.2 31 0 0) (BitVec.ofInt 64 b) = 0
  rw [e4 (by assumption)]; exact lcm_self _

set_option maxHeartbeats 4000000 in
set_option maxRecDepth 20000 in
theorem la_size {nm : String} {hh : List (Nat × Nat × Nat × Nat)} {Θ : GC} {D : Nat → Nat → Prop} {x : Mm} {i : Int} {mc ms : Nat} (h : Inv x) (hN : gN Θ ≤ 3072) (h0 : 0 ≤ i) (h6 : i + 6 ≤ (gN Θ : Int)) (kk : ∀ x2, Inv x2 → Ev Θ (mL_law nm hh) 14 504 mc ms 2743 [(0, vr 13 1), (1, vr 7 (0 + 1)), (2, vr 8 (0 + 1)), (3, vr 31 (0 + 1)), (4, vi i)] [] (hq D x2) lQ) : Ev Θ (mL_law nm hh) 14 504 (mc + 6) (ms + 36) 1785 [(0, vr 13 1), (1, vr 7 (0 + 1)), (2, vr 8 (0 + 1)), (3, vr 31 (0 + 1)), (4, vi i)] [] (hq D x) lQ := by
  have hq1 : ∃ k x1 b x2, F_L_size 50000 (scr Θ (i + 1)) x = some (k, x1) ∧ F_X8_size 50000 0 (scr Θ (i + 1)) x1 = some (b, x2) ∧ x2.1 8 0 0 = k ∧ (k = 0 → x2.2 31 0 0 = BitVec.ofInt 64 b) ∧ Inv x2 := rnI (F7 := F_X7_size 50000 0 (scr Θ (i + 1))) (F8 := F_X8_size 50000 0 (scr Θ (i + 1))) (p_size (by decide) h (scr Θ (i + 1))) (fun L w => n_X8_size L 50000 0 (scr Θ (i + 1)) w)
  obtain ⟨k, x1, b, x2, e1, e2, e3, e4, e5⟩ := hq1
  refine Ev.aload_n (q := 1) ⟨dL_law_1785, rfl⟩ rfl rfl ?_
  refine Ev.aload_n (q := 0) ⟨dL_law_1786, rfl⟩ rfl rfl ?_
  refine Ev.iload (q := 4) ⟨dL_law_1787, rfl⟩ rfl ?_
  refine Ev.iconst ⟨dL_law_1789, rfl⟩ (inRd rfl) ?_
  refine Ev.iadd ⟨dL_law_1790, rfl⟩ (inRo (by omega) (by omega)) ?_
  refine Ev.sload (by omega) (by omega) ⟨dL_law_1791, rfl⟩ ?_
  refine Ev.aload_n (q := 3) ⟨dL_law_1792, rfl⟩ rfl rfl ?_
  refine Ev.callH1 (mc1 := mc) (ms1 := ms) (v := vi k) (h1 := hq D x1) hL_238 (c_L_size Θ D 50000 _ x _ e1) rfl rfl ⟨by decide, by decide, by omega, by omega, Nat.le_of_ble_eq_true rfl⟩ ⟨dL_law_1793, rfl⟩ ?_
  refine Ev.istore (i := 5) (ls' := [(0, vr 13 1), (1, vr 7 (0 + 1)), (2, vr 8 (0 + 1)), (3, vr 31 (0 + 1)), (4, vi i), (5, vi k)]) ⟨dL_law_1796, rfl⟩ (Nat.le_of_ble_eq_true rfl) rfl ?_
  refine Ev.aload_n (q := 2) ⟨dL_law_1798, rfl⟩ rfl rfl ?_
  refine Ev.aload_n (q := 0) ⟨dL_law_1799, rfl⟩ rfl rfl ?_
  refine Ev.iload (q := 4) ⟨dL_law_1800, rfl⟩ rfl ?_
  refine Ev.iconst ⟨dL_law_1802, rfl⟩ (inRd rfl) ?_
  refine Ev.iadd ⟨dL_law_1803, rfl⟩ (inRo (by omega) (by omega)) ?_
  refine Ev.sload (by omega) (by omega) ⟨dL_law_1804, rfl⟩ ?_
  refine Ev.callV1 (mc1 := mc) (ms1 := ms) (v := vi b) (h1 := hq D x2) vL_240 (c_X8_size Θ D 50000 0 _ x1 _ e2) rfl rfl (by decide) rfl ⟨by decide, by decide, by omega, by omega, Nat.le_of_ble_eq_true rfl⟩ ⟨dL_law_1805, rfl⟩ ?_
  refine Ev.istore (i := 6) (ls' := [(0, vr 13 1), (1, vr 7 (0 + 1)), (2, vr 8 (0 + 1)), (3, vr 31 (0 + 1)), (4, vi i), (5, vi k), (6, vi b)]) ⟨dL_law_1808, rfl⟩ (Nat.le_of_ble_eq_true rfl) rfl ?_
  refine Ev.aload_n (q := 2) ⟨dL_law_1810, rfl⟩ rfl rfl ?_
  refine Ev.callV1 (mc1 := mc) (ms1 := ms) (v := vi (x2.1 8 0 0)) (h1 := hq D x2) vL_146 (c_X8_thrown Θ D 50000 0 x2 _ f_thrown) rfl rfl (by decide) rfl ⟨by decide, by decide, by omega, by omega, Nat.le_of_ble_eq_true rfl⟩ ⟨dL_law_1811, rfl⟩ ?_
  refine Ev.iload (q := 5) ⟨dL_law_1814, rfl⟩ rfl ?_
  refine Ev.icmp_eq jL_law_1816 (fun _ => ?_) (fun hc => absurd e3 hc)
  refine Ev.iload (q := 5) ⟨dL_law_1821, rfl⟩ rfl ?_
  have fin : Ev Θ (mL_law nm hh) 14 504 mc ms 1838 [(0, vr 13 1), (1, vr 7 (0 + 1)), (2, vr 8 (0 + 1)), (3, vr 31 (0 + 1)), (4, vi i), (5, vi k), (6, vi b)] [] (hq D x2) lQ := by
    refine Ev.goto jL_law_1838 ?_
    refine Ev.keep [0, 1, 2, 3, 4] rfl ?_
    exact kk x2 e5
  refine Ev.if_ne jL_law_1823 (fun _ => fin) (fun hc => ?_)
  refine Ev.aload_n (q := 3) ⟨dL_law_1826, rfl⟩ rfl rfl ?_
  refine Ev.iconst ⟨dL_law_1827, rfl⟩ (inRd rfl) ?_
  refine Ev.laload (by decide) (by decide) (show (0 : Int) < ((1 : Nat) : Int) by decide) ⟨dL_law_1828, rfl⟩ ?_
  refine Ev.iload (q := 6) ⟨dL_law_1829, rfl⟩ rfl ?_
  refine Ev.i2l ⟨dL_law_1831, rfl⟩ ?_
  refine Ev.lcmp ⟨dL_law_1832, rfl⟩ ?_
  refine Ev.if_eq jL_law_1833 (fun _ => fin) (fun hc => absurd ?_ hc)
  show lcm (x2.2 31 0 0) (BitVec.ofInt 64 b) = 0
  rw [e4 (by assumption)]; exact lcm_self _

set_option maxHeartbeats 4000000 in
set_option maxRecDepth 20000 in
theorem la_total {nm : String} {hh : List (Nat × Nat × Nat × Nat)} {Θ : GC} {D : Nat → Nat → Prop} {x : Mm} {i : Int} {mc ms : Nat} (h : Inv x) (hN : gN Θ ≤ 3072) (h0 : 0 ≤ i) (h6 : i + 6 ≤ (gN Θ : Int)) (kk : ∀ x2, Inv x2 → Ev Θ (mL_law nm hh) 14 504 mc ms 2743 [(0, vr 13 1), (1, vr 7 (0 + 1)), (2, vr 8 (0 + 1)), (3, vr 31 (0 + 1)), (4, vi i)] [] (hq D x2) lQ) : Ev Θ (mL_law nm hh) 14 504 (mc + 6) (ms + 36) 1841 [(0, vr 13 1), (1, vr 7 (0 + 1)), (2, vr 8 (0 + 1)), (3, vr 31 (0 + 1)), (4, vi i)] [] (hq D x) lQ := by
  have hq1 : ∃ k x1 b x2, F_L_total 50000 (scr Θ (i + 1)) (scr Θ (i + 2)) x = some (k, x1) ∧ F_X8_total 50000 0 (scr Θ (i + 1)) (scr Θ (i + 2)) x1 = some (b, x2) ∧ x2.1 8 0 0 = k ∧ (k = 0 → x2.2 31 0 0 = b) ∧ Inv x2 := rnL h (F7 := F_X7_total 50000 0 (scr Θ (i + 1)) (scr Θ (i + 2))) (F8 := F_X8_total 50000 0 (scr Θ (i + 1)) (scr Θ (i + 2))) (p_total (by decide) h (scr Θ (i + 1)) (scr Θ (i + 2))) (fun L w => n_X8_total L 50000 0 (scr Θ (i + 1)) (scr Θ (i + 2)) w)
  obtain ⟨k, x1, b, x2, e1, e2, e3, e4, e5⟩ := hq1
  refine Ev.aload_n (q := 1) ⟨dL_law_1841, rfl⟩ rfl rfl ?_
  refine Ev.aload_n (q := 0) ⟨dL_law_1842, rfl⟩ rfl rfl ?_
  refine Ev.iload (q := 4) ⟨dL_law_1843, rfl⟩ rfl ?_
  refine Ev.iconst ⟨dL_law_1845, rfl⟩ (inRd rfl) ?_
  refine Ev.iadd ⟨dL_law_1846, rfl⟩ (inRo (by omega) (by omega)) ?_
  refine Ev.sload (by omega) (by omega) ⟨dL_law_1847, rfl⟩ ?_
  refine Ev.aload_n (q := 0) ⟨dL_law_1848, rfl⟩ rfl rfl ?_
  refine Ev.iload (q := 4) ⟨dL_law_1849, rfl⟩ rfl ?_
  refine Ev.iconst ⟨dL_law_1851, rfl⟩ (inRd rfl) ?_
  refine Ev.iadd ⟨dL_law_1852, rfl⟩ (inRo (by omega) (by omega)) ?_
  refine Ev.sload (by omega) (by omega) ⟨dL_law_1853, rfl⟩ ?_
  refine Ev.aload_n (q := 3) ⟨dL_law_1854, rfl⟩ rfl rfl ?_
  refine Ev.callH1 (mc1 := mc) (ms1 := ms) (v := vi k) (h1 := hq D x1) hL_241 (c_L_total Θ D 50000 _ _ x _ e1) rfl rfl ⟨by decide, by decide, by omega, by omega, Nat.le_of_ble_eq_true rfl⟩ ⟨dL_law_1855, rfl⟩ ?_
  refine Ev.istore (i := 5) (ls' := [(0, vr 13 1), (1, vr 7 (0 + 1)), (2, vr 8 (0 + 1)), (3, vr 31 (0 + 1)), (4, vi i), (5, vi k)]) ⟨dL_law_1858, rfl⟩ (Nat.le_of_ble_eq_true rfl) rfl ?_
  refine Ev.aload_n (q := 2) ⟨dL_law_1860, rfl⟩ rfl rfl ?_
  refine Ev.aload_n (q := 0) ⟨dL_law_1861, rfl⟩ rfl rfl ?_
  refine Ev.iload (q := 4) ⟨dL_law_1862, rfl⟩ rfl ?_
  refine Ev.iconst ⟨dL_law_1864, rfl⟩ (inRd rfl) ?_
  refine Ev.iadd ⟨dL_law_1865, rfl⟩ (inRo (by omega) (by omega)) ?_
  refine Ev.sload (by omega) (by omega) ⟨dL_law_1866, rfl⟩ ?_
  refine Ev.aload_n (q := 0) ⟨dL_law_1867, rfl⟩ rfl rfl ?_
  refine Ev.iload (q := 4) ⟨dL_law_1868, rfl⟩ rfl ?_
  refine Ev.iconst ⟨dL_law_1870, rfl⟩ (inRd rfl) ?_
  refine Ev.iadd ⟨dL_law_1871, rfl⟩ (inRo (by omega) (by omega)) ?_
  refine Ev.sload (by omega) (by omega) ⟨dL_law_1872, rfl⟩ ?_
  refine Ev.callV1 (mc1 := mc) (ms1 := ms) (v := vl b) (h1 := hq D x2) vL_243 (c_X8_total Θ D 50000 0 _ _ x1 _ e2) rfl rfl (by decide) rfl ⟨by decide, by decide, by omega, by omega, Nat.le_of_ble_eq_true rfl⟩ ⟨dL_law_1873, rfl⟩ ?_
  refine Ev.lstore (i := 6) (ls' := [(0, vr 13 1), (1, vr 7 (0 + 1)), (2, vr 8 (0 + 1)), (3, vr 31 (0 + 1)), (4, vi i), (5, vi k), (6, vl b)]) ⟨dL_law_1876, rfl⟩ (Nat.le_of_ble_eq_true rfl) rfl ?_
  refine Ev.aload_n (q := 2) ⟨dL_law_1878, rfl⟩ rfl rfl ?_
  refine Ev.callV1 (mc1 := mc) (ms1 := ms) (v := vi (x2.1 8 0 0)) (h1 := hq D x2) vL_146 (c_X8_thrown Θ D 50000 0 x2 _ f_thrown) rfl rfl (by decide) rfl ⟨by decide, by decide, by omega, by omega, Nat.le_of_ble_eq_true rfl⟩ ⟨dL_law_1879, rfl⟩ ?_
  refine Ev.iload (q := 5) ⟨dL_law_1882, rfl⟩ rfl ?_
  refine Ev.icmp_eq jL_law_1884 (fun _ => ?_) (fun hc => absurd e3 hc)
  refine Ev.iload (q := 5) ⟨dL_law_1889, rfl⟩ rfl ?_
  have fin : Ev Θ (mL_law nm hh) 14 504 mc ms 1905 [(0, vr 13 1), (1, vr 7 (0 + 1)), (2, vr 8 (0 + 1)), (3, vr 31 (0 + 1)), (4, vi i), (5, vi k), (6, vl b)] [] (hq D x2) lQ := by
    refine Ev.goto jL_law_1905 ?_
    refine Ev.keep [0, 1, 2, 3, 4] rfl ?_
    exact kk x2 e5
  refine Ev.if_ne jL_law_1891 (fun _ => fin) (fun hc => ?_)
  refine Ev.aload_n (q := 3) ⟨dL_law_1894, rfl⟩ rfl rfl ?_
  refine Ev.iconst ⟨dL_law_1895, rfl⟩ (inRd rfl) ?_
  refine Ev.laload (by decide) (by decide) (show (0 : Int) < ((1 : Nat) : Int) by decide) ⟨dL_law_1896, rfl⟩ ?_
  refine Ev.lload (q := 6) ⟨dL_law_1897, rfl⟩ rfl ?_
  refine Ev.lcmp ⟨dL_law_1899, rfl⟩ ?_
  refine Ev.if_eq jL_law_1900 (fun _ => fin) (fun hc => absurd ?_ hc)
  show lcm (x2.2 31 0 0) (b) = 0
  rw [e4 (by assumption)]; exact lcm_self _

set_option maxHeartbeats 4000000 in
set_option maxRecDepth 20000 in
theorem la_greatest {nm : String} {hh : List (Nat × Nat × Nat × Nat)} {Θ : GC} {D : Nat → Nat → Prop} {x : Mm} {i : Int} {mc ms : Nat} (h : Inv x) (hN : gN Θ ≤ 3072) (h0 : 0 ≤ i) (h6 : i + 6 ≤ (gN Θ : Int)) (kk : ∀ x2, Inv x2 → Ev Θ (mL_law nm hh) 14 504 mc ms 2743 [(0, vr 13 1), (1, vr 7 (0 + 1)), (2, vr 8 (0 + 1)), (3, vr 31 (0 + 1)), (4, vi i)] [] (hq D x2) lQ) : Ev Θ (mL_law nm hh) 14 504 (mc + 6) (ms + 36) 1908 [(0, vr 13 1), (1, vr 7 (0 + 1)), (2, vr 8 (0 + 1)), (3, vr 31 (0 + 1)), (4, vi i)] [] (hq D x) lQ := by
  have hq1 : ∃ k x1 b x2, F_L_greatest 50000 (scr Θ (i + 1)) (scr Θ (i + 2)) x = some (k, x1) ∧ F_X8_greatest 50000 0 (scr Θ (i + 1)) (scr Θ (i + 2)) x1 = some (b, x2) ∧ x2.1 8 0 0 = k ∧ (k = 0 → x2.2 31 0 0 = BitVec.ofInt 64 b) ∧ Inv x2 := rnI (F7 := F_X7_greatest 50000 0 (scr Θ (i + 1)) (scr Θ (i + 2))) (F8 := F_X8_greatest 50000 0 (scr Θ (i + 1)) (scr Θ (i + 2))) (p_greatest (by decide) h (scr Θ (i + 1)) (scr Θ (i + 2))) (fun L w => n_X8_greatest L 50000 0 (scr Θ (i + 1)) (scr Θ (i + 2)) w)
  obtain ⟨k, x1, b, x2, e1, e2, e3, e4, e5⟩ := hq1
  refine Ev.aload_n (q := 1) ⟨dL_law_1908, rfl⟩ rfl rfl ?_
  refine Ev.aload_n (q := 0) ⟨dL_law_1909, rfl⟩ rfl rfl ?_
  refine Ev.iload (q := 4) ⟨dL_law_1910, rfl⟩ rfl ?_
  refine Ev.iconst ⟨dL_law_1912, rfl⟩ (inRd rfl) ?_
  refine Ev.iadd ⟨dL_law_1913, rfl⟩ (inRo (by omega) (by omega)) ?_
  refine Ev.sload (by omega) (by omega) ⟨dL_law_1914, rfl⟩ ?_
  refine Ev.aload_n (q := 0) ⟨dL_law_1915, rfl⟩ rfl rfl ?_
  refine Ev.iload (q := 4) ⟨dL_law_1916, rfl⟩ rfl ?_
  refine Ev.iconst ⟨dL_law_1918, rfl⟩ (inRd rfl) ?_
  refine Ev.iadd ⟨dL_law_1919, rfl⟩ (inRo (by omega) (by omega)) ?_
  refine Ev.sload (by omega) (by omega) ⟨dL_law_1920, rfl⟩ ?_
  refine Ev.aload_n (q := 3) ⟨dL_law_1921, rfl⟩ rfl rfl ?_
  refine Ev.callH1 (mc1 := mc) (ms1 := ms) (v := vi k) (h1 := hq D x1) hL_244 (c_L_greatest Θ D 50000 _ _ x _ e1) rfl rfl ⟨by decide, by decide, by omega, by omega, Nat.le_of_ble_eq_true rfl⟩ ⟨dL_law_1922, rfl⟩ ?_
  refine Ev.istore (i := 5) (ls' := [(0, vr 13 1), (1, vr 7 (0 + 1)), (2, vr 8 (0 + 1)), (3, vr 31 (0 + 1)), (4, vi i), (5, vi k)]) ⟨dL_law_1925, rfl⟩ (Nat.le_of_ble_eq_true rfl) rfl ?_
  refine Ev.aload_n (q := 2) ⟨dL_law_1927, rfl⟩ rfl rfl ?_
  refine Ev.aload_n (q := 0) ⟨dL_law_1928, rfl⟩ rfl rfl ?_
  refine Ev.iload (q := 4) ⟨dL_law_1929, rfl⟩ rfl ?_
  refine Ev.iconst ⟨dL_law_1931, rfl⟩ (inRd rfl) ?_
  refine Ev.iadd ⟨dL_law_1932, rfl⟩ (inRo (by omega) (by omega)) ?_
  refine Ev.sload (by omega) (by omega) ⟨dL_law_1933, rfl⟩ ?_
  refine Ev.aload_n (q := 0) ⟨dL_law_1934, rfl⟩ rfl rfl ?_
  refine Ev.iload (q := 4) ⟨dL_law_1935, rfl⟩ rfl ?_
  refine Ev.iconst ⟨dL_law_1937, rfl⟩ (inRd rfl) ?_
  refine Ev.iadd ⟨dL_law_1938, rfl⟩ (inRo (by omega) (by omega)) ?_
  refine Ev.sload (by omega) (by omega) ⟨dL_law_1939, rfl⟩ ?_
  refine Ev.callV1 (mc1 := mc) (ms1 := ms) (v := vi b) (h1 := hq D x2) vL_246 (c_X8_greatest Θ D 50000 0 _ _ x1 _ e2) rfl rfl (by decide) rfl ⟨by decide, by decide, by omega, by omega, Nat.le_of_ble_eq_true rfl⟩ ⟨dL_law_1940, rfl⟩ ?_
  refine Ev.istore (i := 6) (ls' := [(0, vr 13 1), (1, vr 7 (0 + 1)), (2, vr 8 (0 + 1)), (3, vr 31 (0 + 1)), (4, vi i), (5, vi k), (6, vi b)]) ⟨dL_law_1943, rfl⟩ (Nat.le_of_ble_eq_true rfl) rfl ?_
  refine Ev.aload_n (q := 2) ⟨dL_law_1945, rfl⟩ rfl rfl ?_
  refine Ev.callV1 (mc1 := mc) (ms1 := ms) (v := vi (x2.1 8 0 0)) (h1 := hq D x2) vL_146 (c_X8_thrown Θ D 50000 0 x2 _ f_thrown) rfl rfl (by decide) rfl ⟨by decide, by decide, by omega, by omega, Nat.le_of_ble_eq_true rfl⟩ ⟨dL_law_1946, rfl⟩ ?_
  refine Ev.iload (q := 5) ⟨dL_law_1949, rfl⟩ rfl ?_
  refine Ev.icmp_eq jL_law_1951 (fun _ => ?_) (fun hc => absurd e3 hc)
  refine Ev.iload (q := 5) ⟨dL_law_1956, rfl⟩ rfl ?_
  have fin : Ev Θ (mL_law nm hh) 14 504 mc ms 1973 [(0, vr 13 1), (1, vr 7 (0 + 1)), (2, vr 8 (0 + 1)), (3, vr 31 (0 + 1)), (4, vi i), (5, vi k), (6, vi b)] [] (hq D x2) lQ := by
    refine Ev.goto jL_law_1973 ?_
    refine Ev.keep [0, 1, 2, 3, 4] rfl ?_
    exact kk x2 e5
  refine Ev.if_ne jL_law_1958 (fun _ => fin) (fun hc => ?_)
  refine Ev.aload_n (q := 3) ⟨dL_law_1961, rfl⟩ rfl rfl ?_
  refine Ev.iconst ⟨dL_law_1962, rfl⟩ (inRd rfl) ?_
  refine Ev.laload (by decide) (by decide) (show (0 : Int) < ((1 : Nat) : Int) by decide) ⟨dL_law_1963, rfl⟩ ?_
  refine Ev.iload (q := 6) ⟨dL_law_1964, rfl⟩ rfl ?_
  refine Ev.i2l ⟨dL_law_1966, rfl⟩ ?_
  refine Ev.lcmp ⟨dL_law_1967, rfl⟩ ?_
  refine Ev.if_eq jL_law_1968 (fun _ => fin) (fun hc => absurd ?_ hc)
  show lcm (x2.2 31 0 0) (BitVec.ofInt 64 b) = 0
  rw [e4 (by assumption)]; exact lcm_self _

set_option maxHeartbeats 4000000 in
set_option maxRecDepth 20000 in
theorem la_leased {nm : String} {hh : List (Nat × Nat × Nat × Nat)} {Θ : GC} {D : Nat → Nat → Prop} {x : Mm} {i : Int} {mc ms : Nat} (h : Inv x) (hN : gN Θ ≤ 3072) (h0 : 0 ≤ i) (h6 : i + 6 ≤ (gN Θ : Int)) (kk : ∀ x2, Inv x2 → Ev Θ (mL_law nm hh) 14 504 mc ms 2743 [(0, vr 13 1), (1, vr 7 (0 + 1)), (2, vr 8 (0 + 1)), (3, vr 31 (0 + 1)), (4, vi i)] [] (hq D x2) lQ) : Ev Θ (mL_law nm hh) 14 504 (mc + 6) (ms + 36) 1976 [(0, vr 13 1), (1, vr 7 (0 + 1)), (2, vr 8 (0 + 1)), (3, vr 31 (0 + 1)), (4, vi i)] [] (hq D x) lQ := by
  have hq1 : ∃ k x1 b x2, F_L_leased 50000 (scr Θ (i + 1)) (scr Θ (i + 2)) x = some (k, x1) ∧ F_X8_leased 50000 0 (scr Θ (i + 1)) (scr Θ (i + 2)) x1 = some (b, x2) ∧ x2.1 8 0 0 = k ∧ (k = 0 → x2.2 31 0 0 = BitVec.ofInt 64 b) ∧ Inv x2 := rnI (F7 := F_X7_leased 50000 0 (scr Θ (i + 1)) (scr Θ (i + 2))) (F8 := F_X8_leased 50000 0 (scr Θ (i + 1)) (scr Θ (i + 2))) (p_leased h (scr Θ (i + 1)) (scr Θ (i + 2))) (fun L w => n_X8_leased L 50000 0 (scr Θ (i + 1)) (scr Θ (i + 2)) w)
  obtain ⟨k, x1, b, x2, e1, e2, e3, e4, e5⟩ := hq1
  refine Ev.aload_n (q := 1) ⟨dL_law_1976, rfl⟩ rfl rfl ?_
  refine Ev.aload_n (q := 0) ⟨dL_law_1977, rfl⟩ rfl rfl ?_
  refine Ev.iload (q := 4) ⟨dL_law_1978, rfl⟩ rfl ?_
  refine Ev.iconst ⟨dL_law_1980, rfl⟩ (inRd rfl) ?_
  refine Ev.iadd ⟨dL_law_1981, rfl⟩ (inRo (by omega) (by omega)) ?_
  refine Ev.sload (by omega) (by omega) ⟨dL_law_1982, rfl⟩ ?_
  refine Ev.aload_n (q := 0) ⟨dL_law_1983, rfl⟩ rfl rfl ?_
  refine Ev.iload (q := 4) ⟨dL_law_1984, rfl⟩ rfl ?_
  refine Ev.iconst ⟨dL_law_1986, rfl⟩ (inRd rfl) ?_
  refine Ev.iadd ⟨dL_law_1987, rfl⟩ (inRo (by omega) (by omega)) ?_
  refine Ev.sload (by omega) (by omega) ⟨dL_law_1988, rfl⟩ ?_
  refine Ev.aload_n (q := 3) ⟨dL_law_1989, rfl⟩ rfl rfl ?_
  refine Ev.callH1 (mc1 := mc) (ms1 := ms) (v := vi k) (h1 := hq D x1) hL_247 (c_L_leased Θ D 50000 _ _ x _ e1) rfl rfl ⟨by decide, by decide, by omega, by omega, Nat.le_of_ble_eq_true rfl⟩ ⟨dL_law_1990, rfl⟩ ?_
  refine Ev.istore (i := 5) (ls' := [(0, vr 13 1), (1, vr 7 (0 + 1)), (2, vr 8 (0 + 1)), (3, vr 31 (0 + 1)), (4, vi i), (5, vi k)]) ⟨dL_law_1993, rfl⟩ (Nat.le_of_ble_eq_true rfl) rfl ?_
  refine Ev.aload_n (q := 2) ⟨dL_law_1995, rfl⟩ rfl rfl ?_
  refine Ev.aload_n (q := 0) ⟨dL_law_1996, rfl⟩ rfl rfl ?_
  refine Ev.iload (q := 4) ⟨dL_law_1997, rfl⟩ rfl ?_
  refine Ev.iconst ⟨dL_law_1999, rfl⟩ (inRd rfl) ?_
  refine Ev.iadd ⟨dL_law_2000, rfl⟩ (inRo (by omega) (by omega)) ?_
  refine Ev.sload (by omega) (by omega) ⟨dL_law_2001, rfl⟩ ?_
  refine Ev.aload_n (q := 0) ⟨dL_law_2002, rfl⟩ rfl rfl ?_
  refine Ev.iload (q := 4) ⟨dL_law_2003, rfl⟩ rfl ?_
  refine Ev.iconst ⟨dL_law_2005, rfl⟩ (inRd rfl) ?_
  refine Ev.iadd ⟨dL_law_2006, rfl⟩ (inRo (by omega) (by omega)) ?_
  refine Ev.sload (by omega) (by omega) ⟨dL_law_2007, rfl⟩ ?_
  refine Ev.callV1 (mc1 := mc) (ms1 := ms) (v := vi b) (h1 := hq D x2) vL_249 (c_X8_leased Θ D 50000 0 _ _ x1 _ e2) rfl rfl (by decide) rfl ⟨by decide, by decide, by omega, by omega, Nat.le_of_ble_eq_true rfl⟩ ⟨dL_law_2008, rfl⟩ ?_
  refine Ev.istore (i := 6) (ls' := [(0, vr 13 1), (1, vr 7 (0 + 1)), (2, vr 8 (0 + 1)), (3, vr 31 (0 + 1)), (4, vi i), (5, vi k), (6, vi b)]) ⟨dL_law_2011, rfl⟩ (Nat.le_of_ble_eq_true rfl) rfl ?_
  refine Ev.aload_n (q := 2) ⟨dL_law_2013, rfl⟩ rfl rfl ?_
  refine Ev.callV1 (mc1 := mc) (ms1 := ms) (v := vi (x2.1 8 0 0)) (h1 := hq D x2) vL_146 (c_X8_thrown Θ D 50000 0 x2 _ f_thrown) rfl rfl (by decide) rfl ⟨by decide, by decide, by omega, by omega, Nat.le_of_ble_eq_true rfl⟩ ⟨dL_law_2014, rfl⟩ ?_
  refine Ev.iload (q := 5) ⟨dL_law_2017, rfl⟩ rfl ?_
  refine Ev.icmp_eq jL_law_2019 (fun _ => ?_) (fun hc => absurd e3 hc)
  refine Ev.iload (q := 5) ⟨dL_law_2024, rfl⟩ rfl ?_
  have fin : Ev Θ (mL_law nm hh) 14 504 mc ms 2041 [(0, vr 13 1), (1, vr 7 (0 + 1)), (2, vr 8 (0 + 1)), (3, vr 31 (0 + 1)), (4, vi i), (5, vi k), (6, vi b)] [] (hq D x2) lQ := by
    refine Ev.goto jL_law_2041 ?_
    refine Ev.keep [0, 1, 2, 3, 4] rfl ?_
    exact kk x2 e5
  refine Ev.if_ne jL_law_2026 (fun _ => fin) (fun hc => ?_)
  refine Ev.aload_n (q := 3) ⟨dL_law_2029, rfl⟩ rfl rfl ?_
  refine Ev.iconst ⟨dL_law_2030, rfl⟩ (inRd rfl) ?_
  refine Ev.laload (by decide) (by decide) (show (0 : Int) < ((1 : Nat) : Int) by decide) ⟨dL_law_2031, rfl⟩ ?_
  refine Ev.iload (q := 6) ⟨dL_law_2032, rfl⟩ rfl ?_
  refine Ev.i2l ⟨dL_law_2034, rfl⟩ ?_
  refine Ev.lcmp ⟨dL_law_2035, rfl⟩ ?_
  refine Ev.if_eq jL_law_2036 (fun _ => fin) (fun hc => absurd ?_ hc)
  show lcm (x2.2 31 0 0) (BitVec.ofInt 64 b) = 0
  rw [e4 (by assumption)]; exact lcm_self _

set_option maxHeartbeats 4000000 in
set_option maxRecDepth 20000 in
theorem la_blockers {nm : String} {hh : List (Nat × Nat × Nat × Nat)} {Θ : GC} {D : Nat → Nat → Prop} {x : Mm} {i : Int} {mc ms : Nat} (h : Inv x) (hN : gN Θ ≤ 3072) (h0 : 0 ≤ i) (h6 : i + 6 ≤ (gN Θ : Int)) (kk : ∀ x2, Inv x2 → Ev Θ (mL_law nm hh) 14 504 mc ms 2743 [(0, vr 13 1), (1, vr 7 (0 + 1)), (2, vr 8 (0 + 1)), (3, vr 31 (0 + 1)), (4, vi i)] [] (hq D x2) lQ) : Ev Θ (mL_law nm hh) 14 504 (mc + 6) (ms + 36) 2044 [(0, vr 13 1), (1, vr 7 (0 + 1)), (2, vr 8 (0 + 1)), (3, vr 31 (0 + 1)), (4, vi i)] [] (hq D x) lQ := by
  have hq1 : ∃ k x1 b x2, F_L_blockers 50000 (scr Θ (i + 1)) (scr Θ (i + 2)) (bnz (scr Θ (i + 3))) x = some (k, x1) ∧ F_X8_blockers 50000 0 (scr Θ (i + 1)) (scr Θ (i + 2)) (bnz (scr Θ (i + 3))) x1 = some (b, x2) ∧ x2.1 8 0 0 = k ∧ (k = 0 → x2.2 31 0 0 = BitVec.ofInt 64 b) ∧ Inv x2 := rnI (F7 := F_X7_blockers 50000 0 (scr Θ (i + 1)) (scr Θ (i + 2)) (bnz (scr Θ (i + 3)))) (F8 := F_X8_blockers 50000 0 (scr Θ (i + 1)) (scr Θ (i + 2)) (bnz (scr Θ (i + 3)))) (p_blockers (by decide) h (scr Θ (i + 1)) (scr Θ (i + 2)) (bnz (scr Θ (i + 3)))) (fun L w => n_X8_blockers L 50000 0 (scr Θ (i + 1)) (scr Θ (i + 2)) (bnz (scr Θ (i + 3))) w)
  obtain ⟨k, x1, b, x2, e1, e2, e3, e4, e5⟩ := hq1
  refine Ev.aload_n (q := 1) ⟨dL_law_2044, rfl⟩ rfl rfl ?_
  refine Ev.aload_n (q := 0) ⟨dL_law_2045, rfl⟩ rfl rfl ?_
  refine Ev.iload (q := 4) ⟨dL_law_2046, rfl⟩ rfl ?_
  refine Ev.iconst ⟨dL_law_2048, rfl⟩ (inRd rfl) ?_
  refine Ev.iadd ⟨dL_law_2049, rfl⟩ (inRo (by omega) (by omega)) ?_
  refine Ev.sload (by omega) (by omega) ⟨dL_law_2050, rfl⟩ ?_
  refine Ev.aload_n (q := 0) ⟨dL_law_2051, rfl⟩ rfl rfl ?_
  refine Ev.iload (q := 4) ⟨dL_law_2052, rfl⟩ rfl ?_
  refine Ev.iconst ⟨dL_law_2054, rfl⟩ (inRd rfl) ?_
  refine Ev.iadd ⟨dL_law_2055, rfl⟩ (inRo (by omega) (by omega)) ?_
  refine Ev.sload (by omega) (by omega) ⟨dL_law_2056, rfl⟩ ?_
  refine Ev.aload_n (q := 0) ⟨dL_law_2057, rfl⟩ rfl rfl ?_
  refine Ev.iload (q := 4) ⟨dL_law_2058, rfl⟩ rfl ?_
  refine Ev.iconst ⟨dL_law_2060, rfl⟩ (inRd rfl) ?_
  refine Ev.iadd ⟨dL_law_2061, rfl⟩ (inRo (by omega) (by omega)) ?_
  refine Ev.sload (by omega) (by omega) ⟨dL_law_2062, rfl⟩ ?_
  refine Ev.bz jL_law_2063 ⟨dL_law_2066, rfl⟩ jL_law_2067 ⟨dL_law_2070, rfl⟩ ?_
  refine Ev.aload_n (q := 3) ⟨dL_law_2071, rfl⟩ rfl rfl ?_
  refine Ev.callH1 (mc1 := mc) (ms1 := ms) (v := vi k) (h1 := hq D x1) hL_250 (c_L_blockers Θ D 50000 _ _ _ x _ e1) rfl rfl ⟨by decide, by decide, by omega, by omega, Nat.le_of_ble_eq_true rfl⟩ ⟨dL_law_2072, rfl⟩ ?_
  refine Ev.istore (i := 5) (ls' := [(0, vr 13 1), (1, vr 7 (0 + 1)), (2, vr 8 (0 + 1)), (3, vr 31 (0 + 1)), (4, vi i), (5, vi k)]) ⟨dL_law_2075, rfl⟩ (Nat.le_of_ble_eq_true rfl) rfl ?_
  refine Ev.aload_n (q := 2) ⟨dL_law_2077, rfl⟩ rfl rfl ?_
  refine Ev.aload_n (q := 0) ⟨dL_law_2078, rfl⟩ rfl rfl ?_
  refine Ev.iload (q := 4) ⟨dL_law_2079, rfl⟩ rfl ?_
  refine Ev.iconst ⟨dL_law_2081, rfl⟩ (inRd rfl) ?_
  refine Ev.iadd ⟨dL_law_2082, rfl⟩ (inRo (by omega) (by omega)) ?_
  refine Ev.sload (by omega) (by omega) ⟨dL_law_2083, rfl⟩ ?_
  refine Ev.aload_n (q := 0) ⟨dL_law_2084, rfl⟩ rfl rfl ?_
  refine Ev.iload (q := 4) ⟨dL_law_2085, rfl⟩ rfl ?_
  refine Ev.iconst ⟨dL_law_2087, rfl⟩ (inRd rfl) ?_
  refine Ev.iadd ⟨dL_law_2088, rfl⟩ (inRo (by omega) (by omega)) ?_
  refine Ev.sload (by omega) (by omega) ⟨dL_law_2089, rfl⟩ ?_
  refine Ev.aload_n (q := 0) ⟨dL_law_2090, rfl⟩ rfl rfl ?_
  refine Ev.iload (q := 4) ⟨dL_law_2091, rfl⟩ rfl ?_
  refine Ev.iconst ⟨dL_law_2093, rfl⟩ (inRd rfl) ?_
  refine Ev.iadd ⟨dL_law_2094, rfl⟩ (inRo (by omega) (by omega)) ?_
  refine Ev.sload (by omega) (by omega) ⟨dL_law_2095, rfl⟩ ?_
  refine Ev.bz jL_law_2096 ⟨dL_law_2099, rfl⟩ jL_law_2100 ⟨dL_law_2103, rfl⟩ ?_
  refine Ev.callV1 (mc1 := mc) (ms1 := ms) (v := vi b) (h1 := hq D x2) vL_253 (c_X8_blockers Θ D 50000 0 _ _ _ x1 _ e2) rfl rfl (by decide) rfl ⟨by decide, by decide, by omega, by omega, Nat.le_of_ble_eq_true rfl⟩ ⟨dL_law_2104, rfl⟩ ?_
  refine Ev.istore (i := 6) (ls' := [(0, vr 13 1), (1, vr 7 (0 + 1)), (2, vr 8 (0 + 1)), (3, vr 31 (0 + 1)), (4, vi i), (5, vi k), (6, vi b)]) ⟨dL_law_2107, rfl⟩ (Nat.le_of_ble_eq_true rfl) rfl ?_
  refine Ev.aload_n (q := 2) ⟨dL_law_2109, rfl⟩ rfl rfl ?_
  refine Ev.callV1 (mc1 := mc) (ms1 := ms) (v := vi (x2.1 8 0 0)) (h1 := hq D x2) vL_146 (c_X8_thrown Θ D 50000 0 x2 _ f_thrown) rfl rfl (by decide) rfl ⟨by decide, by decide, by omega, by omega, Nat.le_of_ble_eq_true rfl⟩ ⟨dL_law_2110, rfl⟩ ?_
  refine Ev.iload (q := 5) ⟨dL_law_2113, rfl⟩ rfl ?_
  refine Ev.icmp_eq jL_law_2115 (fun _ => ?_) (fun hc => absurd e3 hc)
  refine Ev.iload (q := 5) ⟨dL_law_2120, rfl⟩ rfl ?_
  have fin : Ev Θ (mL_law nm hh) 14 504 mc ms 2137 [(0, vr 13 1), (1, vr 7 (0 + 1)), (2, vr 8 (0 + 1)), (3, vr 31 (0 + 1)), (4, vi i), (5, vi k), (6, vi b)] [] (hq D x2) lQ := by
    refine Ev.goto jL_law_2137 ?_
    refine Ev.keep [0, 1, 2, 3, 4] rfl ?_
    exact kk x2 e5
  refine Ev.if_ne jL_law_2122 (fun _ => fin) (fun hc => ?_)
  refine Ev.aload_n (q := 3) ⟨dL_law_2125, rfl⟩ rfl rfl ?_
  refine Ev.iconst ⟨dL_law_2126, rfl⟩ (inRd rfl) ?_
  refine Ev.laload (by decide) (by decide) (show (0 : Int) < ((1 : Nat) : Int) by decide) ⟨dL_law_2127, rfl⟩ ?_
  refine Ev.iload (q := 6) ⟨dL_law_2128, rfl⟩ rfl ?_
  refine Ev.i2l ⟨dL_law_2130, rfl⟩ ?_
  refine Ev.lcmp ⟨dL_law_2131, rfl⟩ ?_
  refine Ev.if_eq jL_law_2132 (fun _ => fin) (fun hc => absurd ?_ hc)
  show lcm (x2.2 31 0 0) (BitVec.ofInt 64 b) = 0
  rw [e4 (by assumption)]; exact lcm_self _

set_option maxHeartbeats 4000000 in
set_option maxRecDepth 20000 in
theorem la_nextEnd {nm : String} {hh : List (Nat × Nat × Nat × Nat)} {Θ : GC} {D : Nat → Nat → Prop} {x : Mm} {i : Int} {mc ms : Nat} (h : Inv x) (hN : gN Θ ≤ 3072) (h0 : 0 ≤ i) (h6 : i + 6 ≤ (gN Θ : Int)) (kk : ∀ x2, Inv x2 → Ev Θ (mL_law nm hh) 14 504 mc ms 2743 [(0, vr 13 1), (1, vr 7 (0 + 1)), (2, vr 8 (0 + 1)), (3, vr 31 (0 + 1)), (4, vi i)] [] (hq D x2) lQ) : Ev Θ (mL_law nm hh) 14 504 (mc + 6) (ms + 36) 2140 [(0, vr 13 1), (1, vr 7 (0 + 1)), (2, vr 8 (0 + 1)), (3, vr 31 (0 + 1)), (4, vi i)] [] (hq D x) lQ := by
  have hq1 : ∃ k x1 b x2, F_L_nextEnd 50000  x = some (k, x1) ∧ F_X8_nextEnd 50000 0  x1 = some (b, x2) ∧ x2.1 8 0 0 = k ∧ (k = 0 → x2.2 31 0 0 = BitVec.ofInt 64 b) ∧ Inv x2 := rnI (F7 := F_X7_nextEnd 50000 0) (F8 := F_X8_nextEnd 50000 0) (p_nextEnd (by decide) h ) (fun L w => n_X8_nextEnd L 50000 0 w)
  obtain ⟨k, x1, b, x2, e1, e2, e3, e4, e5⟩ := hq1
  refine Ev.aload_n (q := 1) ⟨dL_law_2140, rfl⟩ rfl rfl ?_
  refine Ev.aload_n (q := 3) ⟨dL_law_2141, rfl⟩ rfl rfl ?_
  refine Ev.callH1 (mc1 := mc) (ms1 := ms) (v := vi k) (h1 := hq D x1) hL_254 (c_L_nextEnd Θ D 50000  x _ e1) rfl rfl ⟨by decide, by decide, by omega, by omega, Nat.le_of_ble_eq_true rfl⟩ ⟨dL_law_2142, rfl⟩ ?_
  refine Ev.istore (i := 5) (ls' := [(0, vr 13 1), (1, vr 7 (0 + 1)), (2, vr 8 (0 + 1)), (3, vr 31 (0 + 1)), (4, vi i), (5, vi k)]) ⟨dL_law_2145, rfl⟩ (Nat.le_of_ble_eq_true rfl) rfl ?_
  refine Ev.aload_n (q := 2) ⟨dL_law_2147, rfl⟩ rfl rfl ?_
  refine Ev.callV1 (mc1 := mc) (ms1 := ms) (v := vi b) (h1 := hq D x2) vL_256 (c_X8_nextEnd Θ D 50000 0  x1 _ e2) rfl rfl (by decide) rfl ⟨by decide, by decide, by omega, by omega, Nat.le_of_ble_eq_true rfl⟩ ⟨dL_law_2148, rfl⟩ ?_
  refine Ev.istore (i := 6) (ls' := [(0, vr 13 1), (1, vr 7 (0 + 1)), (2, vr 8 (0 + 1)), (3, vr 31 (0 + 1)), (4, vi i), (5, vi k), (6, vi b)]) ⟨dL_law_2151, rfl⟩ (Nat.le_of_ble_eq_true rfl) rfl ?_
  refine Ev.aload_n (q := 2) ⟨dL_law_2153, rfl⟩ rfl rfl ?_
  refine Ev.callV1 (mc1 := mc) (ms1 := ms) (v := vi (x2.1 8 0 0)) (h1 := hq D x2) vL_146 (c_X8_thrown Θ D 50000 0 x2 _ f_thrown) rfl rfl (by decide) rfl ⟨by decide, by decide, by omega, by omega, Nat.le_of_ble_eq_true rfl⟩ ⟨dL_law_2154, rfl⟩ ?_
  refine Ev.iload (q := 5) ⟨dL_law_2157, rfl⟩ rfl ?_
  refine Ev.icmp_eq jL_law_2159 (fun _ => ?_) (fun hc => absurd e3 hc)
  refine Ev.iload (q := 5) ⟨dL_law_2164, rfl⟩ rfl ?_
  have fin : Ev Θ (mL_law nm hh) 14 504 mc ms 2181 [(0, vr 13 1), (1, vr 7 (0 + 1)), (2, vr 8 (0 + 1)), (3, vr 31 (0 + 1)), (4, vi i), (5, vi k), (6, vi b)] [] (hq D x2) lQ := by
    refine Ev.goto jL_law_2181 ?_
    refine Ev.keep [0, 1, 2, 3, 4] rfl ?_
    exact kk x2 e5
  refine Ev.if_ne jL_law_2166 (fun _ => fin) (fun hc => ?_)
  refine Ev.aload_n (q := 3) ⟨dL_law_2169, rfl⟩ rfl rfl ?_
  refine Ev.iconst ⟨dL_law_2170, rfl⟩ (inRd rfl) ?_
  refine Ev.laload (by decide) (by decide) (show (0 : Int) < ((1 : Nat) : Int) by decide) ⟨dL_law_2171, rfl⟩ ?_
  refine Ev.iload (q := 6) ⟨dL_law_2172, rfl⟩ rfl ?_
  refine Ev.i2l ⟨dL_law_2174, rfl⟩ ?_
  refine Ev.lcmp ⟨dL_law_2175, rfl⟩ ?_
  refine Ev.if_eq jL_law_2176 (fun _ => fin) (fun hc => absurd ?_ hc)
  show lcm (x2.2 31 0 0) (BitVec.ofInt 64 b) = 0
  rw [e4 (by assumption)]; exact lcm_self _

set_option maxHeartbeats 4000000 in
set_option maxRecDepth 20000 in
theorem la_isInCopy {nm : String} {hh : List (Nat × Nat × Nat × Nat)} {Θ : GC} {D : Nat → Nat → Prop} {x : Mm} {i : Int} {mc ms : Nat} (h : Inv x) (hN : gN Θ ≤ 3072) (h0 : 0 ≤ i) (h6 : i + 6 ≤ (gN Θ : Int)) (kk : ∀ x2, Inv x2 → Ev Θ (mL_law nm hh) 14 504 mc ms 2743 [(0, vr 13 1), (1, vr 7 (0 + 1)), (2, vr 8 (0 + 1)), (3, vr 31 (0 + 1)), (4, vi i)] [] (hq D x2) lQ) : Ev Θ (mL_law nm hh) 14 504 (mc + 6) (ms + 36) 2184 [(0, vr 13 1), (1, vr 7 (0 + 1)), (2, vr 8 (0 + 1)), (3, vr 31 (0 + 1)), (4, vi i)] [] (hq D x) lQ := by
  have hq1 : ∃ k x1 b x2, F_L_isInCopy 50000 (scr Θ (i + 1)) (scr Θ (i + 2)) x = some (k, x1) ∧ F_X8_isInCopy 50000 0 (scr Θ (i + 1)) (scr Θ (i + 2)) x1 = some (b, x2) ∧ x2.1 8 0 0 = k ∧ (k = 0 → x2.2 31 0 0 = BitVec.ofInt 64 (if b = 0 then 0 else 1)) ∧ Inv x2 := rnZ (F7 := F_X7_isInCopy 50000 0 (scr Θ (i + 1)) (scr Θ (i + 2))) (F8 := F_X8_isInCopy 50000 0 (scr Θ (i + 1)) (scr Θ (i + 2))) (p_isInCopy h (scr Θ (i + 1)) (scr Θ (i + 2))) (fun L w => n_X8_isInCopy L 50000 0 (scr Θ (i + 1)) (scr Θ (i + 2)) w)
  obtain ⟨k, x1, b, x2, e1, e2, e3, e4, e5⟩ := hq1
  refine Ev.aload_n (q := 1) ⟨dL_law_2184, rfl⟩ rfl rfl ?_
  refine Ev.aload_n (q := 0) ⟨dL_law_2185, rfl⟩ rfl rfl ?_
  refine Ev.iload (q := 4) ⟨dL_law_2186, rfl⟩ rfl ?_
  refine Ev.iconst ⟨dL_law_2188, rfl⟩ (inRd rfl) ?_
  refine Ev.iadd ⟨dL_law_2189, rfl⟩ (inRo (by omega) (by omega)) ?_
  refine Ev.sload (by omega) (by omega) ⟨dL_law_2190, rfl⟩ ?_
  refine Ev.aload_n (q := 0) ⟨dL_law_2191, rfl⟩ rfl rfl ?_
  refine Ev.iload (q := 4) ⟨dL_law_2192, rfl⟩ rfl ?_
  refine Ev.iconst ⟨dL_law_2194, rfl⟩ (inRd rfl) ?_
  refine Ev.iadd ⟨dL_law_2195, rfl⟩ (inRo (by omega) (by omega)) ?_
  refine Ev.sload (by omega) (by omega) ⟨dL_law_2196, rfl⟩ ?_
  refine Ev.aload_n (q := 3) ⟨dL_law_2197, rfl⟩ rfl rfl ?_
  refine Ev.callH1 (mc1 := mc) (ms1 := ms) (v := vi k) (h1 := hq D x1) hL_257 (c_L_isInCopy Θ D 50000 _ _ x _ e1) rfl rfl ⟨by decide, by decide, by omega, by omega, Nat.le_of_ble_eq_true rfl⟩ ⟨dL_law_2198, rfl⟩ ?_
  refine Ev.istore (i := 5) (ls' := [(0, vr 13 1), (1, vr 7 (0 + 1)), (2, vr 8 (0 + 1)), (3, vr 31 (0 + 1)), (4, vi i), (5, vi k)]) ⟨dL_law_2201, rfl⟩ (Nat.le_of_ble_eq_true rfl) rfl ?_
  refine Ev.aload_n (q := 2) ⟨dL_law_2203, rfl⟩ rfl rfl ?_
  refine Ev.aload_n (q := 0) ⟨dL_law_2204, rfl⟩ rfl rfl ?_
  refine Ev.iload (q := 4) ⟨dL_law_2205, rfl⟩ rfl ?_
  refine Ev.iconst ⟨dL_law_2207, rfl⟩ (inRd rfl) ?_
  refine Ev.iadd ⟨dL_law_2208, rfl⟩ (inRo (by omega) (by omega)) ?_
  refine Ev.sload (by omega) (by omega) ⟨dL_law_2209, rfl⟩ ?_
  refine Ev.aload_n (q := 0) ⟨dL_law_2210, rfl⟩ rfl rfl ?_
  refine Ev.iload (q := 4) ⟨dL_law_2211, rfl⟩ rfl ?_
  refine Ev.iconst ⟨dL_law_2213, rfl⟩ (inRd rfl) ?_
  refine Ev.iadd ⟨dL_law_2214, rfl⟩ (inRo (by omega) (by omega)) ?_
  refine Ev.sload (by omega) (by omega) ⟨dL_law_2215, rfl⟩ ?_
  refine Ev.callV1 (mc1 := mc) (ms1 := ms) (v := vi b) (h1 := hq D x2) vL_259 (c_X8_isInCopy Θ D 50000 0 _ _ x1 _ e2) rfl rfl (by decide) rfl ⟨by decide, by decide, by omega, by omega, Nat.le_of_ble_eq_true rfl⟩ ⟨dL_law_2216, rfl⟩ ?_
  refine Ev.istore (i := 6) (ls' := [(0, vr 13 1), (1, vr 7 (0 + 1)), (2, vr 8 (0 + 1)), (3, vr 31 (0 + 1)), (4, vi i), (5, vi k), (6, vi b)]) ⟨dL_law_2219, rfl⟩ (Nat.le_of_ble_eq_true rfl) rfl ?_
  refine Ev.aload_n (q := 2) ⟨dL_law_2221, rfl⟩ rfl rfl ?_
  refine Ev.callV1 (mc1 := mc) (ms1 := ms) (v := vi (x2.1 8 0 0)) (h1 := hq D x2) vL_146 (c_X8_thrown Θ D 50000 0 x2 _ f_thrown) rfl rfl (by decide) rfl ⟨by decide, by decide, by omega, by omega, Nat.le_of_ble_eq_true rfl⟩ ⟨dL_law_2222, rfl⟩ ?_
  refine Ev.iload (q := 5) ⟨dL_law_2225, rfl⟩ rfl ?_
  refine Ev.icmp_eq jL_law_2227 (fun _ => ?_) (fun hc => absurd e3 hc)
  refine Ev.iload (q := 5) ⟨dL_law_2232, rfl⟩ rfl ?_
  have fin : Ev Θ (mL_law nm hh) 14 504 mc ms 2256 [(0, vr 13 1), (1, vr 7 (0 + 1)), (2, vr 8 (0 + 1)), (3, vr 31 (0 + 1)), (4, vi i), (5, vi k), (6, vi b)] [] (hq D x2) lQ := by
    refine Ev.goto jL_law_2256 ?_
    refine Ev.keep [0, 1, 2, 3, 4] rfl ?_
    exact kk x2 e5
  refine Ev.if_ne jL_law_2234 (fun _ => fin) (fun hc => ?_)
  refine Ev.aload_n (q := 3) ⟨dL_law_2237, rfl⟩ rfl rfl ?_
  refine Ev.iconst ⟨dL_law_2238, rfl⟩ (inRd rfl) ?_
  refine Ev.laload (by decide) (by decide) (show (0 : Int) < ((1 : Nat) : Int) by decide) ⟨dL_law_2239, rfl⟩ ?_
  refine Ev.iload (q := 6) ⟨dL_law_2240, rfl⟩ rfl ?_
  refine Ev.bzl jL_law_2242 ⟨dL_law_2245, rfl⟩ jL_law_2246 ⟨dL_law_2249, rfl⟩ ?_
  refine Ev.lcmp ⟨dL_law_2250, rfl⟩ ?_
  refine Ev.if_eq jL_law_2251 (fun _ => fin) (fun hc => absurd ?_ hc)
  show lcm (x2.2 31 0 0) (BitVec.ofInt 64 (if b = 0 then 0 else 1)) = 0
  rw [e4 (by assumption)]; exact lcm_self _

set_option maxHeartbeats 4000000 in
set_option maxRecDepth 20000 in
theorem la_copyField {nm : String} {hh : List (Nat × Nat × Nat × Nat)} {Θ : GC} {D : Nat → Nat → Prop} {x : Mm} {i : Int} {mc ms : Nat} (h : Inv x) (hN : gN Θ ≤ 3072) (h0 : 0 ≤ i) (h6 : i + 6 ≤ (gN Θ : Int)) (kk : ∀ x2, Inv x2 → Ev Θ (mL_law nm hh) 14 504 mc ms 2743 [(0, vr 13 1), (1, vr 7 (0 + 1)), (2, vr 8 (0 + 1)), (3, vr 31 (0 + 1)), (4, vi i)] [] (hq D x2) lQ) : Ev Θ (mL_law nm hh) 14 504 (mc + 6) (ms + 36) 2259 [(0, vr 13 1), (1, vr 7 (0 + 1)), (2, vr 8 (0 + 1)), (3, vr 31 (0 + 1)), (4, vi i)] [] (hq D x) lQ := by
  have hq1 : ∃ k x1 b x2, F_L_copyField 50000 (scr Θ (i + 1)) (scr Θ (i + 2)) (scr Θ (i + 3)) x = some (k, x1) ∧ F_X8_copyField 50000 0 (scr Θ (i + 1)) (scr Θ (i + 2)) (scr Θ (i + 3)) x1 = some (b, x2) ∧ x2.1 8 0 0 = k ∧ (k = 0 → x2.2 31 0 0 = BitVec.ofInt 64 b) ∧ Inv x2 := rnI (F7 := F_X7_copyField 50000 0 (scr Θ (i + 1)) (scr Θ (i + 2)) (scr Θ (i + 3))) (F8 := F_X8_copyField 50000 0 (scr Θ (i + 1)) (scr Θ (i + 2)) (scr Θ (i + 3))) (p_copyField h (scr Θ (i + 1)) (scr Θ (i + 2)) (scr Θ (i + 3))) (fun L w => n_X8_copyField L 50000 0 (scr Θ (i + 1)) (scr Θ (i + 2)) (scr Θ (i + 3)) w)
  obtain ⟨k, x1, b, x2, e1, e2, e3, e4, e5⟩ := hq1
  refine Ev.aload_n (q := 1) ⟨dL_law_2259, rfl⟩ rfl rfl ?_
  refine Ev.aload_n (q := 0) ⟨dL_law_2260, rfl⟩ rfl rfl ?_
  refine Ev.iload (q := 4) ⟨dL_law_2261, rfl⟩ rfl ?_
  refine Ev.iconst ⟨dL_law_2263, rfl⟩ (inRd rfl) ?_
  refine Ev.iadd ⟨dL_law_2264, rfl⟩ (inRo (by omega) (by omega)) ?_
  refine Ev.sload (by omega) (by omega) ⟨dL_law_2265, rfl⟩ ?_
  refine Ev.aload_n (q := 0) ⟨dL_law_2266, rfl⟩ rfl rfl ?_
  refine Ev.iload (q := 4) ⟨dL_law_2267, rfl⟩ rfl ?_
  refine Ev.iconst ⟨dL_law_2269, rfl⟩ (inRd rfl) ?_
  refine Ev.iadd ⟨dL_law_2270, rfl⟩ (inRo (by omega) (by omega)) ?_
  refine Ev.sload (by omega) (by omega) ⟨dL_law_2271, rfl⟩ ?_
  refine Ev.aload_n (q := 0) ⟨dL_law_2272, rfl⟩ rfl rfl ?_
  refine Ev.iload (q := 4) ⟨dL_law_2273, rfl⟩ rfl ?_
  refine Ev.iconst ⟨dL_law_2275, rfl⟩ (inRd rfl) ?_
  refine Ev.iadd ⟨dL_law_2276, rfl⟩ (inRo (by omega) (by omega)) ?_
  refine Ev.sload (by omega) (by omega) ⟨dL_law_2277, rfl⟩ ?_
  refine Ev.aload_n (q := 3) ⟨dL_law_2278, rfl⟩ rfl rfl ?_
  refine Ev.callH1 (mc1 := mc) (ms1 := ms) (v := vi k) (h1 := hq D x1) hL_260 (c_L_copyField Θ D 50000 _ _ _ x _ e1) rfl rfl ⟨by decide, by decide, by omega, by omega, Nat.le_of_ble_eq_true rfl⟩ ⟨dL_law_2279, rfl⟩ ?_
  refine Ev.istore (i := 5) (ls' := [(0, vr 13 1), (1, vr 7 (0 + 1)), (2, vr 8 (0 + 1)), (3, vr 31 (0 + 1)), (4, vi i), (5, vi k)]) ⟨dL_law_2282, rfl⟩ (Nat.le_of_ble_eq_true rfl) rfl ?_
  refine Ev.aload_n (q := 2) ⟨dL_law_2284, rfl⟩ rfl rfl ?_
  refine Ev.aload_n (q := 0) ⟨dL_law_2285, rfl⟩ rfl rfl ?_
  refine Ev.iload (q := 4) ⟨dL_law_2286, rfl⟩ rfl ?_
  refine Ev.iconst ⟨dL_law_2288, rfl⟩ (inRd rfl) ?_
  refine Ev.iadd ⟨dL_law_2289, rfl⟩ (inRo (by omega) (by omega)) ?_
  refine Ev.sload (by omega) (by omega) ⟨dL_law_2290, rfl⟩ ?_
  refine Ev.aload_n (q := 0) ⟨dL_law_2291, rfl⟩ rfl rfl ?_
  refine Ev.iload (q := 4) ⟨dL_law_2292, rfl⟩ rfl ?_
  refine Ev.iconst ⟨dL_law_2294, rfl⟩ (inRd rfl) ?_
  refine Ev.iadd ⟨dL_law_2295, rfl⟩ (inRo (by omega) (by omega)) ?_
  refine Ev.sload (by omega) (by omega) ⟨dL_law_2296, rfl⟩ ?_
  refine Ev.aload_n (q := 0) ⟨dL_law_2297, rfl⟩ rfl rfl ?_
  refine Ev.iload (q := 4) ⟨dL_law_2298, rfl⟩ rfl ?_
  refine Ev.iconst ⟨dL_law_2300, rfl⟩ (inRd rfl) ?_
  refine Ev.iadd ⟨dL_law_2301, rfl⟩ (inRo (by omega) (by omega)) ?_
  refine Ev.sload (by omega) (by omega) ⟨dL_law_2302, rfl⟩ ?_
  refine Ev.callV1 (mc1 := mc) (ms1 := ms) (v := vi b) (h1 := hq D x2) vL_263 (c_X8_copyField Θ D 50000 0 _ _ _ x1 _ e2) rfl rfl (by decide) rfl ⟨by decide, by decide, by omega, by omega, Nat.le_of_ble_eq_true rfl⟩ ⟨dL_law_2303, rfl⟩ ?_
  refine Ev.istore (i := 6) (ls' := [(0, vr 13 1), (1, vr 7 (0 + 1)), (2, vr 8 (0 + 1)), (3, vr 31 (0 + 1)), (4, vi i), (5, vi k), (6, vi b)]) ⟨dL_law_2306, rfl⟩ (Nat.le_of_ble_eq_true rfl) rfl ?_
  refine Ev.aload_n (q := 2) ⟨dL_law_2308, rfl⟩ rfl rfl ?_
  refine Ev.callV1 (mc1 := mc) (ms1 := ms) (v := vi (x2.1 8 0 0)) (h1 := hq D x2) vL_146 (c_X8_thrown Θ D 50000 0 x2 _ f_thrown) rfl rfl (by decide) rfl ⟨by decide, by decide, by omega, by omega, Nat.le_of_ble_eq_true rfl⟩ ⟨dL_law_2309, rfl⟩ ?_
  refine Ev.iload (q := 5) ⟨dL_law_2312, rfl⟩ rfl ?_
  refine Ev.icmp_eq jL_law_2314 (fun _ => ?_) (fun hc => absurd e3 hc)
  refine Ev.iload (q := 5) ⟨dL_law_2319, rfl⟩ rfl ?_
  have fin : Ev Θ (mL_law nm hh) 14 504 mc ms 2336 [(0, vr 13 1), (1, vr 7 (0 + 1)), (2, vr 8 (0 + 1)), (3, vr 31 (0 + 1)), (4, vi i), (5, vi k), (6, vi b)] [] (hq D x2) lQ := by
    refine Ev.goto jL_law_2336 ?_
    refine Ev.keep [0, 1, 2, 3, 4] rfl ?_
    exact kk x2 e5
  refine Ev.if_ne jL_law_2321 (fun _ => fin) (fun hc => ?_)
  refine Ev.aload_n (q := 3) ⟨dL_law_2324, rfl⟩ rfl rfl ?_
  refine Ev.iconst ⟨dL_law_2325, rfl⟩ (inRd rfl) ?_
  refine Ev.laload (by decide) (by decide) (show (0 : Int) < ((1 : Nat) : Int) by decide) ⟨dL_law_2326, rfl⟩ ?_
  refine Ev.iload (q := 6) ⟨dL_law_2327, rfl⟩ rfl ?_
  refine Ev.i2l ⟨dL_law_2329, rfl⟩ ?_
  refine Ev.lcmp ⟨dL_law_2330, rfl⟩ ?_
  refine Ev.if_eq jL_law_2331 (fun _ => fin) (fun hc => absurd ?_ hc)
  show lcm (x2.2 31 0 0) (BitVec.ofInt 64 b) = 0
  rw [e4 (by assumption)]; exact lcm_self _

set_option maxHeartbeats 4000000 in
set_option maxRecDepth 20000 in
theorem la_changedCount {nm : String} {hh : List (Nat × Nat × Nat × Nat)} {Θ : GC} {D : Nat → Nat → Prop} {x : Mm} {i : Int} {mc ms : Nat} (h : Inv x) (hN : gN Θ ≤ 3072) (h0 : 0 ≤ i) (h6 : i + 6 ≤ (gN Θ : Int)) (kk : ∀ x2, Inv x2 → Ev Θ (mL_law nm hh) 14 504 mc ms 2743 [(0, vr 13 1), (1, vr 7 (0 + 1)), (2, vr 8 (0 + 1)), (3, vr 31 (0 + 1)), (4, vi i)] [] (hq D x2) lQ) : Ev Θ (mL_law nm hh) 14 504 (mc + 6) (ms + 36) 2339 [(0, vr 13 1), (1, vr 7 (0 + 1)), (2, vr 8 (0 + 1)), (3, vr 31 (0 + 1)), (4, vi i)] [] (hq D x) lQ := by
  have hq1 : ∃ k x1 b x2, F_L_changedCount 50000 (scr Θ (i + 1)) x = some (k, x1) ∧ F_X8_changedCount 50000 0 (scr Θ (i + 1)) x1 = some (b, x2) ∧ x2.1 8 0 0 = k ∧ (k = 0 → x2.2 31 0 0 = BitVec.ofInt 64 b) ∧ Inv x2 := rnI (F7 := F_X7_changedCount 50000 0 (scr Θ (i + 1))) (F8 := F_X8_changedCount 50000 0 (scr Θ (i + 1))) (p_changedCount (by decide) h (scr Θ (i + 1))) (fun L w => n_X8_changedCount L 50000 0 (scr Θ (i + 1)) w)
  obtain ⟨k, x1, b, x2, e1, e2, e3, e4, e5⟩ := hq1
  refine Ev.aload_n (q := 1) ⟨dL_law_2339, rfl⟩ rfl rfl ?_
  refine Ev.aload_n (q := 0) ⟨dL_law_2340, rfl⟩ rfl rfl ?_
  refine Ev.iload (q := 4) ⟨dL_law_2341, rfl⟩ rfl ?_
  refine Ev.iconst ⟨dL_law_2343, rfl⟩ (inRd rfl) ?_
  refine Ev.iadd ⟨dL_law_2344, rfl⟩ (inRo (by omega) (by omega)) ?_
  refine Ev.sload (by omega) (by omega) ⟨dL_law_2345, rfl⟩ ?_
  refine Ev.aload_n (q := 3) ⟨dL_law_2346, rfl⟩ rfl rfl ?_
  refine Ev.callH1 (mc1 := mc) (ms1 := ms) (v := vi k) (h1 := hq D x1) hL_264 (c_L_changedCount Θ D 50000 _ x _ e1) rfl rfl ⟨by decide, by decide, by omega, by omega, Nat.le_of_ble_eq_true rfl⟩ ⟨dL_law_2347, rfl⟩ ?_
  refine Ev.istore (i := 5) (ls' := [(0, vr 13 1), (1, vr 7 (0 + 1)), (2, vr 8 (0 + 1)), (3, vr 31 (0 + 1)), (4, vi i), (5, vi k)]) ⟨dL_law_2350, rfl⟩ (Nat.le_of_ble_eq_true rfl) rfl ?_
  refine Ev.aload_n (q := 2) ⟨dL_law_2352, rfl⟩ rfl rfl ?_
  refine Ev.aload_n (q := 0) ⟨dL_law_2353, rfl⟩ rfl rfl ?_
  refine Ev.iload (q := 4) ⟨dL_law_2354, rfl⟩ rfl ?_
  refine Ev.iconst ⟨dL_law_2356, rfl⟩ (inRd rfl) ?_
  refine Ev.iadd ⟨dL_law_2357, rfl⟩ (inRo (by omega) (by omega)) ?_
  refine Ev.sload (by omega) (by omega) ⟨dL_law_2358, rfl⟩ ?_
  refine Ev.callV1 (mc1 := mc) (ms1 := ms) (v := vi b) (h1 := hq D x2) vL_266 (c_X8_changedCount Θ D 50000 0 _ x1 _ e2) rfl rfl (by decide) rfl ⟨by decide, by decide, by omega, by omega, Nat.le_of_ble_eq_true rfl⟩ ⟨dL_law_2359, rfl⟩ ?_
  refine Ev.istore (i := 6) (ls' := [(0, vr 13 1), (1, vr 7 (0 + 1)), (2, vr 8 (0 + 1)), (3, vr 31 (0 + 1)), (4, vi i), (5, vi k), (6, vi b)]) ⟨dL_law_2362, rfl⟩ (Nat.le_of_ble_eq_true rfl) rfl ?_
  refine Ev.aload_n (q := 2) ⟨dL_law_2364, rfl⟩ rfl rfl ?_
  refine Ev.callV1 (mc1 := mc) (ms1 := ms) (v := vi (x2.1 8 0 0)) (h1 := hq D x2) vL_146 (c_X8_thrown Θ D 50000 0 x2 _ f_thrown) rfl rfl (by decide) rfl ⟨by decide, by decide, by omega, by omega, Nat.le_of_ble_eq_true rfl⟩ ⟨dL_law_2365, rfl⟩ ?_
  refine Ev.iload (q := 5) ⟨dL_law_2368, rfl⟩ rfl ?_
  refine Ev.icmp_eq jL_law_2370 (fun _ => ?_) (fun hc => absurd e3 hc)
  refine Ev.iload (q := 5) ⟨dL_law_2375, rfl⟩ rfl ?_
  have fin : Ev Θ (mL_law nm hh) 14 504 mc ms 2392 [(0, vr 13 1), (1, vr 7 (0 + 1)), (2, vr 8 (0 + 1)), (3, vr 31 (0 + 1)), (4, vi i), (5, vi k), (6, vi b)] [] (hq D x2) lQ := by
    refine Ev.goto jL_law_2392 ?_
    refine Ev.keep [0, 1, 2, 3, 4] rfl ?_
    exact kk x2 e5
  refine Ev.if_ne jL_law_2377 (fun _ => fin) (fun hc => ?_)
  refine Ev.aload_n (q := 3) ⟨dL_law_2380, rfl⟩ rfl rfl ?_
  refine Ev.iconst ⟨dL_law_2381, rfl⟩ (inRd rfl) ?_
  refine Ev.laload (by decide) (by decide) (show (0 : Int) < ((1 : Nat) : Int) by decide) ⟨dL_law_2382, rfl⟩ ?_
  refine Ev.iload (q := 6) ⟨dL_law_2383, rfl⟩ rfl ?_
  refine Ev.i2l ⟨dL_law_2385, rfl⟩ ?_
  refine Ev.lcmp ⟨dL_law_2386, rfl⟩ ?_
  refine Ev.if_eq jL_law_2387 (fun _ => fin) (fun hc => absurd ?_ hc)
  show lcm (x2.2 31 0 0) (BitVec.ofInt 64 b) = 0
  rw [e4 (by assumption)]; exact lcm_self _

set_option maxHeartbeats 4000000 in
set_option maxRecDepth 20000 in
theorem la_preview {nm : String} {hh : List (Nat × Nat × Nat × Nat)} {Θ : GC} {D : Nat → Nat → Prop} {x : Mm} {i : Int} {mc ms : Nat} (h : Inv x) (hN : gN Θ ≤ 3072) (h0 : 0 ≤ i) (h6 : i + 6 ≤ (gN Θ : Int)) (kk : ∀ x2, Inv x2 → Ev Θ (mL_law nm hh) 14 504 mc ms 2743 [(0, vr 13 1), (1, vr 7 (0 + 1)), (2, vr 8 (0 + 1)), (3, vr 31 (0 + 1)), (4, vi i)] [] (hq D x2) lQ) : Ev Θ (mL_law nm hh) 14 504 (mc + 6) (ms + 36) 2395 [(0, vr 13 1), (1, vr 7 (0 + 1)), (2, vr 8 (0 + 1)), (3, vr 31 (0 + 1)), (4, vi i)] [] (hq D x) lQ := by
  have hq1 : ∃ k x1 b x2, F_L_preview 50000 (scr Θ (i + 1)) x = some (k, x1) ∧ F_X8_preview 50000 0 (scr Θ (i + 1)) x1 = some (b, x2) ∧ x2.1 8 0 0 = k ∧ (k = 0 → x2.2 31 0 0 = BitVec.ofInt 64 b) ∧ Inv x2 := rnI (F7 := F_X7_preview 50000 0 (scr Θ (i + 1))) (F8 := F_X8_preview 50000 0 (scr Θ (i + 1))) (p_preview (by decide) h (scr Θ (i + 1))) (fun L w => n_X8_preview L 50000 0 (scr Θ (i + 1)) w)
  obtain ⟨k, x1, b, x2, e1, e2, e3, e4, e5⟩ := hq1
  refine Ev.aload_n (q := 1) ⟨dL_law_2395, rfl⟩ rfl rfl ?_
  refine Ev.aload_n (q := 0) ⟨dL_law_2396, rfl⟩ rfl rfl ?_
  refine Ev.iload (q := 4) ⟨dL_law_2397, rfl⟩ rfl ?_
  refine Ev.iconst ⟨dL_law_2399, rfl⟩ (inRd rfl) ?_
  refine Ev.iadd ⟨dL_law_2400, rfl⟩ (inRo (by omega) (by omega)) ?_
  refine Ev.sload (by omega) (by omega) ⟨dL_law_2401, rfl⟩ ?_
  refine Ev.aload_n (q := 3) ⟨dL_law_2402, rfl⟩ rfl rfl ?_
  refine Ev.callH1 (mc1 := mc) (ms1 := ms) (v := vi k) (h1 := hq D x1) hL_267 (c_L_preview Θ D 50000 _ x _ e1) rfl rfl ⟨by decide, by decide, by omega, by omega, Nat.le_of_ble_eq_true rfl⟩ ⟨dL_law_2403, rfl⟩ ?_
  refine Ev.istore (i := 5) (ls' := [(0, vr 13 1), (1, vr 7 (0 + 1)), (2, vr 8 (0 + 1)), (3, vr 31 (0 + 1)), (4, vi i), (5, vi k)]) ⟨dL_law_2406, rfl⟩ (Nat.le_of_ble_eq_true rfl) rfl ?_
  refine Ev.aload_n (q := 2) ⟨dL_law_2408, rfl⟩ rfl rfl ?_
  refine Ev.aload_n (q := 0) ⟨dL_law_2409, rfl⟩ rfl rfl ?_
  refine Ev.iload (q := 4) ⟨dL_law_2410, rfl⟩ rfl ?_
  refine Ev.iconst ⟨dL_law_2412, rfl⟩ (inRd rfl) ?_
  refine Ev.iadd ⟨dL_law_2413, rfl⟩ (inRo (by omega) (by omega)) ?_
  refine Ev.sload (by omega) (by omega) ⟨dL_law_2414, rfl⟩ ?_
  refine Ev.callV1 (mc1 := mc) (ms1 := ms) (v := vi b) (h1 := hq D x2) vL_269 (c_X8_preview Θ D 50000 0 _ x1 _ e2) rfl rfl (by decide) rfl ⟨by decide, by decide, by omega, by omega, Nat.le_of_ble_eq_true rfl⟩ ⟨dL_law_2415, rfl⟩ ?_
  refine Ev.istore (i := 6) (ls' := [(0, vr 13 1), (1, vr 7 (0 + 1)), (2, vr 8 (0 + 1)), (3, vr 31 (0 + 1)), (4, vi i), (5, vi k), (6, vi b)]) ⟨dL_law_2418, rfl⟩ (Nat.le_of_ble_eq_true rfl) rfl ?_
  refine Ev.aload_n (q := 2) ⟨dL_law_2420, rfl⟩ rfl rfl ?_
  refine Ev.callV1 (mc1 := mc) (ms1 := ms) (v := vi (x2.1 8 0 0)) (h1 := hq D x2) vL_146 (c_X8_thrown Θ D 50000 0 x2 _ f_thrown) rfl rfl (by decide) rfl ⟨by decide, by decide, by omega, by omega, Nat.le_of_ble_eq_true rfl⟩ ⟨dL_law_2421, rfl⟩ ?_
  refine Ev.iload (q := 5) ⟨dL_law_2424, rfl⟩ rfl ?_
  refine Ev.icmp_eq jL_law_2426 (fun _ => ?_) (fun hc => absurd e3 hc)
  refine Ev.iload (q := 5) ⟨dL_law_2431, rfl⟩ rfl ?_
  have fin : Ev Θ (mL_law nm hh) 14 504 mc ms 2448 [(0, vr 13 1), (1, vr 7 (0 + 1)), (2, vr 8 (0 + 1)), (3, vr 31 (0 + 1)), (4, vi i), (5, vi k), (6, vi b)] [] (hq D x2) lQ := by
    refine Ev.goto jL_law_2448 ?_
    refine Ev.keep [0, 1, 2, 3, 4] rfl ?_
    exact kk x2 e5
  refine Ev.if_ne jL_law_2433 (fun _ => fin) (fun hc => ?_)
  refine Ev.aload_n (q := 3) ⟨dL_law_2436, rfl⟩ rfl rfl ?_
  refine Ev.iconst ⟨dL_law_2437, rfl⟩ (inRd rfl) ?_
  refine Ev.laload (by decide) (by decide) (show (0 : Int) < ((1 : Nat) : Int) by decide) ⟨dL_law_2438, rfl⟩ ?_
  refine Ev.iload (q := 6) ⟨dL_law_2439, rfl⟩ rfl ?_
  refine Ev.i2l ⟨dL_law_2441, rfl⟩ ?_
  refine Ev.lcmp ⟨dL_law_2442, rfl⟩ ?_
  refine Ev.if_eq jL_law_2443 (fun _ => fin) (fun hc => absurd ?_ hc)
  show lcm (x2.2 31 0 0) (BitVec.ofInt 64 b) = 0
  rw [e4 (by assumption)]; exact lcm_self _

set_option maxHeartbeats 4000000 in
set_option maxRecDepth 20000 in
theorem la_wouldBe {nm : String} {hh : List (Nat × Nat × Nat × Nat)} {Θ : GC} {D : Nat → Nat → Prop} {x : Mm} {i : Int} {mc ms : Nat} (h : Inv x) (hN : gN Θ ≤ 3072) (h0 : 0 ≤ i) (h6 : i + 6 ≤ (gN Θ : Int)) (kk : ∀ x2, Inv x2 → Ev Θ (mL_law nm hh) 14 504 mc ms 2743 [(0, vr 13 1), (1, vr 7 (0 + 1)), (2, vr 8 (0 + 1)), (3, vr 31 (0 + 1)), (4, vi i)] [] (hq D x2) lQ) : Ev Θ (mL_law nm hh) 14 504 (mc + 6) (ms + 36) 2451 [(0, vr 13 1), (1, vr 7 (0 + 1)), (2, vr 8 (0 + 1)), (3, vr 31 (0 + 1)), (4, vi i)] [] (hq D x) lQ := by
  have hq1 : ∃ k x1 b x2, F_L_wouldBe 50000 (scr Θ (i + 1)) (scr Θ (i + 2)) (scr Θ (i + 3)) x = some (k, x1) ∧ F_X8_wouldBe 50000 0 (scr Θ (i + 1)) (scr Θ (i + 2)) (scr Θ (i + 3)) x1 = some (b, x2) ∧ x2.1 8 0 0 = k ∧ (k = 0 → x2.2 31 0 0 = BitVec.ofInt 64 b) ∧ Inv x2 := rnI (F7 := F_X7_wouldBe 50000 0 (scr Θ (i + 1)) (scr Θ (i + 2)) (scr Θ (i + 3))) (F8 := F_X8_wouldBe 50000 0 (scr Θ (i + 1)) (scr Θ (i + 2)) (scr Θ (i + 3))) (p_wouldBe (by decide) h (scr Θ (i + 1)) (scr Θ (i + 2)) (scr Θ (i + 3))) (fun L w => n_X8_wouldBe L 50000 0 (scr Θ (i + 1)) (scr Θ (i + 2)) (scr Θ (i + 3)) w)
  obtain ⟨k, x1, b, x2, e1, e2, e3, e4, e5⟩ := hq1
  refine Ev.aload_n (q := 1) ⟨dL_law_2451, rfl⟩ rfl rfl ?_
  refine Ev.aload_n (q := 0) ⟨dL_law_2452, rfl⟩ rfl rfl ?_
  refine Ev.iload (q := 4) ⟨dL_law_2453, rfl⟩ rfl ?_
  refine Ev.iconst ⟨dL_law_2455, rfl⟩ (inRd rfl) ?_
  refine Ev.iadd ⟨dL_law_2456, rfl⟩ (inRo (by omega) (by omega)) ?_
  refine Ev.sload (by omega) (by omega) ⟨dL_law_2457, rfl⟩ ?_
  refine Ev.aload_n (q := 0) ⟨dL_law_2458, rfl⟩ rfl rfl ?_
  refine Ev.iload (q := 4) ⟨dL_law_2459, rfl⟩ rfl ?_
  refine Ev.iconst ⟨dL_law_2461, rfl⟩ (inRd rfl) ?_
  refine Ev.iadd ⟨dL_law_2462, rfl⟩ (inRo (by omega) (by omega)) ?_
  refine Ev.sload (by omega) (by omega) ⟨dL_law_2463, rfl⟩ ?_
  refine Ev.aload_n (q := 0) ⟨dL_law_2464, rfl⟩ rfl rfl ?_
  refine Ev.iload (q := 4) ⟨dL_law_2465, rfl⟩ rfl ?_
  refine Ev.iconst ⟨dL_law_2467, rfl⟩ (inRd rfl) ?_
  refine Ev.iadd ⟨dL_law_2468, rfl⟩ (inRo (by omega) (by omega)) ?_
  refine Ev.sload (by omega) (by omega) ⟨dL_law_2469, rfl⟩ ?_
  refine Ev.aload_n (q := 3) ⟨dL_law_2470, rfl⟩ rfl rfl ?_
  refine Ev.callH1 (mc1 := mc) (ms1 := ms) (v := vi k) (h1 := hq D x1) hL_270 (c_L_wouldBe Θ D 50000 _ _ _ x _ e1) rfl rfl ⟨by decide, by decide, by omega, by omega, Nat.le_of_ble_eq_true rfl⟩ ⟨dL_law_2471, rfl⟩ ?_
  refine Ev.istore (i := 5) (ls' := [(0, vr 13 1), (1, vr 7 (0 + 1)), (2, vr 8 (0 + 1)), (3, vr 31 (0 + 1)), (4, vi i), (5, vi k)]) ⟨dL_law_2474, rfl⟩ (Nat.le_of_ble_eq_true rfl) rfl ?_
  refine Ev.aload_n (q := 2) ⟨dL_law_2476, rfl⟩ rfl rfl ?_
  refine Ev.aload_n (q := 0) ⟨dL_law_2477, rfl⟩ rfl rfl ?_
  refine Ev.iload (q := 4) ⟨dL_law_2478, rfl⟩ rfl ?_
  refine Ev.iconst ⟨dL_law_2480, rfl⟩ (inRd rfl) ?_
  refine Ev.iadd ⟨dL_law_2481, rfl⟩ (inRo (by omega) (by omega)) ?_
  refine Ev.sload (by omega) (by omega) ⟨dL_law_2482, rfl⟩ ?_
  refine Ev.aload_n (q := 0) ⟨dL_law_2483, rfl⟩ rfl rfl ?_
  refine Ev.iload (q := 4) ⟨dL_law_2484, rfl⟩ rfl ?_
  refine Ev.iconst ⟨dL_law_2486, rfl⟩ (inRd rfl) ?_
  refine Ev.iadd ⟨dL_law_2487, rfl⟩ (inRo (by omega) (by omega)) ?_
  refine Ev.sload (by omega) (by omega) ⟨dL_law_2488, rfl⟩ ?_
  refine Ev.aload_n (q := 0) ⟨dL_law_2489, rfl⟩ rfl rfl ?_
  refine Ev.iload (q := 4) ⟨dL_law_2490, rfl⟩ rfl ?_
  refine Ev.iconst ⟨dL_law_2492, rfl⟩ (inRd rfl) ?_
  refine Ev.iadd ⟨dL_law_2493, rfl⟩ (inRo (by omega) (by omega)) ?_
  refine Ev.sload (by omega) (by omega) ⟨dL_law_2494, rfl⟩ ?_
  refine Ev.callV1 (mc1 := mc) (ms1 := ms) (v := vi b) (h1 := hq D x2) vL_272 (c_X8_wouldBe Θ D 50000 0 _ _ _ x1 _ e2) rfl rfl (by decide) rfl ⟨by decide, by decide, by omega, by omega, Nat.le_of_ble_eq_true rfl⟩ ⟨dL_law_2495, rfl⟩ ?_
  refine Ev.istore (i := 6) (ls' := [(0, vr 13 1), (1, vr 7 (0 + 1)), (2, vr 8 (0 + 1)), (3, vr 31 (0 + 1)), (4, vi i), (5, vi k), (6, vi b)]) ⟨dL_law_2498, rfl⟩ (Nat.le_of_ble_eq_true rfl) rfl ?_
  refine Ev.aload_n (q := 2) ⟨dL_law_2500, rfl⟩ rfl rfl ?_
  refine Ev.callV1 (mc1 := mc) (ms1 := ms) (v := vi (x2.1 8 0 0)) (h1 := hq D x2) vL_146 (c_X8_thrown Θ D 50000 0 x2 _ f_thrown) rfl rfl (by decide) rfl ⟨by decide, by decide, by omega, by omega, Nat.le_of_ble_eq_true rfl⟩ ⟨dL_law_2501, rfl⟩ ?_
  refine Ev.iload (q := 5) ⟨dL_law_2504, rfl⟩ rfl ?_
  refine Ev.icmp_eq jL_law_2506 (fun _ => ?_) (fun hc => absurd e3 hc)
  refine Ev.iload (q := 5) ⟨dL_law_2511, rfl⟩ rfl ?_
  have fin : Ev Θ (mL_law nm hh) 14 504 mc ms 2528 [(0, vr 13 1), (1, vr 7 (0 + 1)), (2, vr 8 (0 + 1)), (3, vr 31 (0 + 1)), (4, vi i), (5, vi k), (6, vi b)] [] (hq D x2) lQ := by
    refine Ev.goto jL_law_2528 ?_
    refine Ev.keep [0, 1, 2, 3, 4] rfl ?_
    exact kk x2 e5
  refine Ev.if_ne jL_law_2513 (fun _ => fin) (fun hc => ?_)
  refine Ev.aload_n (q := 3) ⟨dL_law_2516, rfl⟩ rfl rfl ?_
  refine Ev.iconst ⟨dL_law_2517, rfl⟩ (inRd rfl) ?_
  refine Ev.laload (by decide) (by decide) (show (0 : Int) < ((1 : Nat) : Int) by decide) ⟨dL_law_2518, rfl⟩ ?_
  refine Ev.iload (q := 6) ⟨dL_law_2519, rfl⟩ rfl ?_
  refine Ev.i2l ⟨dL_law_2521, rfl⟩ ?_
  refine Ev.lcmp ⟨dL_law_2522, rfl⟩ ?_
  refine Ev.if_eq jL_law_2523 (fun _ => fin) (fun hc => absurd ?_ hc)
  show lcm (x2.2 31 0 0) (BitVec.ofInt 64 b) = 0
  rw [e4 (by assumption)]; exact lcm_self _

set_option maxHeartbeats 4000000 in
set_option maxRecDepth 20000 in
theorem la_isFree {nm : String} {hh : List (Nat × Nat × Nat × Nat)} {Θ : GC} {D : Nat → Nat → Prop} {x : Mm} {i : Int} {mc ms : Nat} (h : Inv x) (hN : gN Θ ≤ 3072) (h0 : 0 ≤ i) (h6 : i + 6 ≤ (gN Θ : Int)) (kk : ∀ x2, Inv x2 → Ev Θ (mL_law nm hh) 14 504 mc ms 2743 [(0, vr 13 1), (1, vr 7 (0 + 1)), (2, vr 8 (0 + 1)), (3, vr 31 (0 + 1)), (4, vi i)] [] (hq D x2) lQ) : Ev Θ (mL_law nm hh) 14 504 (mc + 6) (ms + 36) 2531 [(0, vr 13 1), (1, vr 7 (0 + 1)), (2, vr 8 (0 + 1)), (3, vr 31 (0 + 1)), (4, vi i)] [] (hq D x) lQ := by
  have hq1 : ∃ k x1 b x2, F_L_isFree 50000 (scr Θ (i + 1)) (scr Θ (i + 2)) x = some (k, x1) ∧ F_X8_isFree 50000 0 (scr Θ (i + 1)) (scr Θ (i + 2)) x1 = some (b, x2) ∧ x2.1 8 0 0 = k ∧ (k = 0 → x2.2 31 0 0 = BitVec.ofInt 64 (if b = 0 then 0 else 1)) ∧ Inv x2 := rnZ (F7 := F_X7_isFree 50000 0 (scr Θ (i + 1)) (scr Θ (i + 2))) (F8 := F_X8_isFree 50000 0 (scr Θ (i + 1)) (scr Θ (i + 2))) (p_isFree (by decide) h (scr Θ (i + 1)) (scr Θ (i + 2))) (fun L w => n_X8_isFree L 50000 0 (scr Θ (i + 1)) (scr Θ (i + 2)) w)
  obtain ⟨k, x1, b, x2, e1, e2, e3, e4, e5⟩ := hq1
  refine Ev.aload_n (q := 1) ⟨dL_law_2531, rfl⟩ rfl rfl ?_
  refine Ev.aload_n (q := 0) ⟨dL_law_2532, rfl⟩ rfl rfl ?_
  refine Ev.iload (q := 4) ⟨dL_law_2533, rfl⟩ rfl ?_
  refine Ev.iconst ⟨dL_law_2535, rfl⟩ (inRd rfl) ?_
  refine Ev.iadd ⟨dL_law_2536, rfl⟩ (inRo (by omega) (by omega)) ?_
  refine Ev.sload (by omega) (by omega) ⟨dL_law_2537, rfl⟩ ?_
  refine Ev.aload_n (q := 0) ⟨dL_law_2538, rfl⟩ rfl rfl ?_
  refine Ev.iload (q := 4) ⟨dL_law_2539, rfl⟩ rfl ?_
  refine Ev.iconst ⟨dL_law_2541, rfl⟩ (inRd rfl) ?_
  refine Ev.iadd ⟨dL_law_2542, rfl⟩ (inRo (by omega) (by omega)) ?_
  refine Ev.sload (by omega) (by omega) ⟨dL_law_2543, rfl⟩ ?_
  refine Ev.aload_n (q := 3) ⟨dL_law_2544, rfl⟩ rfl rfl ?_
  refine Ev.callH1 (mc1 := mc) (ms1 := ms) (v := vi k) (h1 := hq D x1) hL_273 (c_L_isFree Θ D 50000 _ _ x _ e1) rfl rfl ⟨by decide, by decide, by omega, by omega, Nat.le_of_ble_eq_true rfl⟩ ⟨dL_law_2545, rfl⟩ ?_
  refine Ev.istore (i := 5) (ls' := [(0, vr 13 1), (1, vr 7 (0 + 1)), (2, vr 8 (0 + 1)), (3, vr 31 (0 + 1)), (4, vi i), (5, vi k)]) ⟨dL_law_2548, rfl⟩ (Nat.le_of_ble_eq_true rfl) rfl ?_
  refine Ev.aload_n (q := 2) ⟨dL_law_2550, rfl⟩ rfl rfl ?_
  refine Ev.aload_n (q := 0) ⟨dL_law_2551, rfl⟩ rfl rfl ?_
  refine Ev.iload (q := 4) ⟨dL_law_2552, rfl⟩ rfl ?_
  refine Ev.iconst ⟨dL_law_2554, rfl⟩ (inRd rfl) ?_
  refine Ev.iadd ⟨dL_law_2555, rfl⟩ (inRo (by omega) (by omega)) ?_
  refine Ev.sload (by omega) (by omega) ⟨dL_law_2556, rfl⟩ ?_
  refine Ev.aload_n (q := 0) ⟨dL_law_2557, rfl⟩ rfl rfl ?_
  refine Ev.iload (q := 4) ⟨dL_law_2558, rfl⟩ rfl ?_
  refine Ev.iconst ⟨dL_law_2560, rfl⟩ (inRd rfl) ?_
  refine Ev.iadd ⟨dL_law_2561, rfl⟩ (inRo (by omega) (by omega)) ?_
  refine Ev.sload (by omega) (by omega) ⟨dL_law_2562, rfl⟩ ?_
  refine Ev.callV1 (mc1 := mc) (ms1 := ms) (v := vi b) (h1 := hq D x2) vL_275 (c_X8_isFree Θ D 50000 0 _ _ x1 _ e2) rfl rfl (by decide) rfl ⟨by decide, by decide, by omega, by omega, Nat.le_of_ble_eq_true rfl⟩ ⟨dL_law_2563, rfl⟩ ?_
  refine Ev.istore (i := 6) (ls' := [(0, vr 13 1), (1, vr 7 (0 + 1)), (2, vr 8 (0 + 1)), (3, vr 31 (0 + 1)), (4, vi i), (5, vi k), (6, vi b)]) ⟨dL_law_2566, rfl⟩ (Nat.le_of_ble_eq_true rfl) rfl ?_
  refine Ev.aload_n (q := 2) ⟨dL_law_2568, rfl⟩ rfl rfl ?_
  refine Ev.callV1 (mc1 := mc) (ms1 := ms) (v := vi (x2.1 8 0 0)) (h1 := hq D x2) vL_146 (c_X8_thrown Θ D 50000 0 x2 _ f_thrown) rfl rfl (by decide) rfl ⟨by decide, by decide, by omega, by omega, Nat.le_of_ble_eq_true rfl⟩ ⟨dL_law_2569, rfl⟩ ?_
  refine Ev.iload (q := 5) ⟨dL_law_2572, rfl⟩ rfl ?_
  refine Ev.icmp_eq jL_law_2574 (fun _ => ?_) (fun hc => absurd e3 hc)
  refine Ev.iload (q := 5) ⟨dL_law_2579, rfl⟩ rfl ?_
  have fin : Ev Θ (mL_law nm hh) 14 504 mc ms 2603 [(0, vr 13 1), (1, vr 7 (0 + 1)), (2, vr 8 (0 + 1)), (3, vr 31 (0 + 1)), (4, vi i), (5, vi k), (6, vi b)] [] (hq D x2) lQ := by
    refine Ev.goto jL_law_2603 ?_
    refine Ev.keep [0, 1, 2, 3, 4] rfl ?_
    exact kk x2 e5
  refine Ev.if_ne jL_law_2581 (fun _ => fin) (fun hc => ?_)
  refine Ev.aload_n (q := 3) ⟨dL_law_2584, rfl⟩ rfl rfl ?_
  refine Ev.iconst ⟨dL_law_2585, rfl⟩ (inRd rfl) ?_
  refine Ev.laload (by decide) (by decide) (show (0 : Int) < ((1 : Nat) : Int) by decide) ⟨dL_law_2586, rfl⟩ ?_
  refine Ev.iload (q := 6) ⟨dL_law_2587, rfl⟩ rfl ?_
  refine Ev.bzl jL_law_2589 ⟨dL_law_2592, rfl⟩ jL_law_2593 ⟨dL_law_2596, rfl⟩ ?_
  refine Ev.lcmp ⟨dL_law_2597, rfl⟩ ?_
  refine Ev.if_eq jL_law_2598 (fun _ => fin) (fun hc => absurd ?_ hc)
  show lcm (x2.2 31 0 0) (BitVec.ofInt 64 (if b = 0 then 0 else 1)) = 0
  rw [e4 (by assumption)]; exact lcm_self _

set_option maxHeartbeats 4000000 in
set_option maxRecDepth 20000 in
theorem la_conflictCount {nm : String} {hh : List (Nat × Nat × Nat × Nat)} {Θ : GC} {D : Nat → Nat → Prop} {x : Mm} {i : Int} {mc ms : Nat} (h : Inv x) (hN : gN Θ ≤ 3072) (h0 : 0 ≤ i) (h6 : i + 6 ≤ (gN Θ : Int)) (kk : ∀ x2, Inv x2 → Ev Θ (mL_law nm hh) 14 504 mc ms 2743 [(0, vr 13 1), (1, vr 7 (0 + 1)), (2, vr 8 (0 + 1)), (3, vr 31 (0 + 1)), (4, vi i)] [] (hq D x2) lQ) : Ev Θ (mL_law nm hh) 14 504 (mc + 6) (ms + 36) 2606 [(0, vr 13 1), (1, vr 7 (0 + 1)), (2, vr 8 (0 + 1)), (3, vr 31 (0 + 1)), (4, vi i)] [] (hq D x) lQ := by
  obtain ⟨v, x2, e1, e2, e5⟩ := p_conflictCount (z := 50000) h
  refine Ev.aload_n (q := 1) ⟨dL_law_2606, rfl⟩ rfl rfl ?_
  refine Ev.callV1 (mc1 := mc) (ms1 := ms) (v := vi v) (h1 := hq D x) vL_276 (c_X7_conflictCount Θ D 50000 0  x _ e1) rfl rfl (by decide) rfl ⟨by decide, by decide, by omega, by omega, Nat.le_of_ble_eq_true rfl⟩ ⟨dL_law_2607, rfl⟩ ?_
  refine Ev.aload_n (q := 2) ⟨dL_law_2610, rfl⟩ rfl rfl ?_
  refine Ev.callV1 (mc1 := mc) (ms1 := ms) (v := vi v) (h1 := hq D x2) vL_279 (c_X8_conflictCount Θ D 50000 0  x _ e2) rfl rfl (by decide) rfl ⟨by decide, by decide, by omega, by omega, Nat.le_of_ble_eq_true rfl⟩ ⟨dL_law_2611, rfl⟩ ?_
  refine Ev.icmp_eq jL_law_2614 (fun _ => ?_) (fun hc => absurd rfl hc)
  exact kk x2 e5

set_option maxHeartbeats 4000000 in
set_option maxRecDepth 20000 in
theorem la_conflict {nm : String} {hh : List (Nat × Nat × Nat × Nat)} {Θ : GC} {D : Nat → Nat → Prop} {x : Mm} {i : Int} {mc ms : Nat} (h : Inv x) (hN : gN Θ ≤ 3072) (h0 : 0 ≤ i) (h6 : i + 6 ≤ (gN Θ : Int)) (kk : ∀ x2, Inv x2 → Ev Θ (mL_law nm hh) 14 504 mc ms 2743 [(0, vr 13 1), (1, vr 7 (0 + 1)), (2, vr 8 (0 + 1)), (3, vr 31 (0 + 1)), (4, vi i)] [] (hq D x2) lQ) : Ev Θ (mL_law nm hh) 14 504 (mc + 6) (ms + 36) 2619 [(0, vr 13 1), (1, vr 7 (0 + 1)), (2, vr 8 (0 + 1)), (3, vr 31 (0 + 1)), (4, vi i)] [] (hq D x) lQ := by
  have hq1 : ∃ k x1 b x2, F_L_conflict 50000 (scr Θ (i + 1)) (scr Θ (i + 2)) x = some (k, x1) ∧ F_X8_conflict 50000 0 (scr Θ (i + 1)) (scr Θ (i + 2)) x1 = some (b, x2) ∧ x2.1 8 0 0 = k ∧ (k = 0 → x2.2 31 0 0 = BitVec.ofInt 64 b) ∧ Inv x2 := rnI (F7 := F_X7_conflict 50000 0 (scr Θ (i + 1)) (scr Θ (i + 2))) (F8 := F_X8_conflict 50000 0 (scr Θ (i + 1)) (scr Θ (i + 2))) (p_conflict h (scr Θ (i + 1)) (scr Θ (i + 2))) (fun L w => n_X8_conflict L 50000 0 (scr Θ (i + 1)) (scr Θ (i + 2)) w)
  obtain ⟨k, x1, b, x2, e1, e2, e3, e4, e5⟩ := hq1
  refine Ev.aload_n (q := 1) ⟨dL_law_2619, rfl⟩ rfl rfl ?_
  refine Ev.aload_n (q := 0) ⟨dL_law_2620, rfl⟩ rfl rfl ?_
  refine Ev.iload (q := 4) ⟨dL_law_2621, rfl⟩ rfl ?_
  refine Ev.iconst ⟨dL_law_2623, rfl⟩ (inRd rfl) ?_
  refine Ev.iadd ⟨dL_law_2624, rfl⟩ (inRo (by omega) (by omega)) ?_
  refine Ev.sload (by omega) (by omega) ⟨dL_law_2625, rfl⟩ ?_
  refine Ev.aload_n (q := 0) ⟨dL_law_2626, rfl⟩ rfl rfl ?_
  refine Ev.iload (q := 4) ⟨dL_law_2627, rfl⟩ rfl ?_
  refine Ev.iconst ⟨dL_law_2629, rfl⟩ (inRd rfl) ?_
  refine Ev.iadd ⟨dL_law_2630, rfl⟩ (inRo (by omega) (by omega)) ?_
  refine Ev.sload (by omega) (by omega) ⟨dL_law_2631, rfl⟩ ?_
  refine Ev.aload_n (q := 3) ⟨dL_law_2632, rfl⟩ rfl rfl ?_
  refine Ev.callH1 (mc1 := mc) (ms1 := ms) (v := vi k) (h1 := hq D x1) hL_280 (c_L_conflict Θ D 50000 _ _ x _ e1) rfl rfl ⟨by decide, by decide, by omega, by omega, Nat.le_of_ble_eq_true rfl⟩ ⟨dL_law_2633, rfl⟩ ?_
  refine Ev.istore (i := 5) (ls' := [(0, vr 13 1), (1, vr 7 (0 + 1)), (2, vr 8 (0 + 1)), (3, vr 31 (0 + 1)), (4, vi i), (5, vi k)]) ⟨dL_law_2636, rfl⟩ (Nat.le_of_ble_eq_true rfl) rfl ?_
  refine Ev.aload_n (q := 2) ⟨dL_law_2638, rfl⟩ rfl rfl ?_
  refine Ev.aload_n (q := 0) ⟨dL_law_2639, rfl⟩ rfl rfl ?_
  refine Ev.iload (q := 4) ⟨dL_law_2640, rfl⟩ rfl ?_
  refine Ev.iconst ⟨dL_law_2642, rfl⟩ (inRd rfl) ?_
  refine Ev.iadd ⟨dL_law_2643, rfl⟩ (inRo (by omega) (by omega)) ?_
  refine Ev.sload (by omega) (by omega) ⟨dL_law_2644, rfl⟩ ?_
  refine Ev.aload_n (q := 0) ⟨dL_law_2645, rfl⟩ rfl rfl ?_
  refine Ev.iload (q := 4) ⟨dL_law_2646, rfl⟩ rfl ?_
  refine Ev.iconst ⟨dL_law_2648, rfl⟩ (inRd rfl) ?_
  refine Ev.iadd ⟨dL_law_2649, rfl⟩ (inRo (by omega) (by omega)) ?_
  refine Ev.sload (by omega) (by omega) ⟨dL_law_2650, rfl⟩ ?_
  refine Ev.callV1 (mc1 := mc) (ms1 := ms) (v := vi b) (h1 := hq D x2) vL_282 (c_X8_conflict Θ D 50000 0 _ _ x1 _ e2) rfl rfl (by decide) rfl ⟨by decide, by decide, by omega, by omega, Nat.le_of_ble_eq_true rfl⟩ ⟨dL_law_2651, rfl⟩ ?_
  refine Ev.istore (i := 6) (ls' := [(0, vr 13 1), (1, vr 7 (0 + 1)), (2, vr 8 (0 + 1)), (3, vr 31 (0 + 1)), (4, vi i), (5, vi k), (6, vi b)]) ⟨dL_law_2654, rfl⟩ (Nat.le_of_ble_eq_true rfl) rfl ?_
  refine Ev.aload_n (q := 2) ⟨dL_law_2656, rfl⟩ rfl rfl ?_
  refine Ev.callV1 (mc1 := mc) (ms1 := ms) (v := vi (x2.1 8 0 0)) (h1 := hq D x2) vL_146 (c_X8_thrown Θ D 50000 0 x2 _ f_thrown) rfl rfl (by decide) rfl ⟨by decide, by decide, by omega, by omega, Nat.le_of_ble_eq_true rfl⟩ ⟨dL_law_2657, rfl⟩ ?_
  refine Ev.iload (q := 5) ⟨dL_law_2660, rfl⟩ rfl ?_
  refine Ev.icmp_eq jL_law_2662 (fun _ => ?_) (fun hc => absurd e3 hc)
  refine Ev.iload (q := 5) ⟨dL_law_2667, rfl⟩ rfl ?_
  have fin : Ev Θ (mL_law nm hh) 14 504 mc ms 2684 [(0, vr 13 1), (1, vr 7 (0 + 1)), (2, vr 8 (0 + 1)), (3, vr 31 (0 + 1)), (4, vi i), (5, vi k), (6, vi b)] [] (hq D x2) lQ := by
    refine Ev.goto jL_law_2684 ?_
    refine Ev.keep [0, 1, 2, 3, 4] rfl ?_
    exact kk x2 e5
  refine Ev.if_ne jL_law_2669 (fun _ => fin) (fun hc => ?_)
  refine Ev.aload_n (q := 3) ⟨dL_law_2672, rfl⟩ rfl rfl ?_
  refine Ev.iconst ⟨dL_law_2673, rfl⟩ (inRd rfl) ?_
  refine Ev.laload (by decide) (by decide) (show (0 : Int) < ((1 : Nat) : Int) by decide) ⟨dL_law_2674, rfl⟩ ?_
  refine Ev.iload (q := 6) ⟨dL_law_2675, rfl⟩ rfl ?_
  refine Ev.i2l ⟨dL_law_2677, rfl⟩ ?_
  refine Ev.lcmp ⟨dL_law_2678, rfl⟩ ?_
  refine Ev.if_eq jL_law_2679 (fun _ => fin) (fun hc => absurd ?_ hc)
  show lcm (x2.2 31 0 0) (BitVec.ofInt 64 b) = 0
  rw [e4 (by assumption)]; exact lcm_self _

set_option maxHeartbeats 4000000 in
set_option maxRecDepth 20000 in
theorem la_conflictsOf {nm : String} {hh : List (Nat × Nat × Nat × Nat)} {Θ : GC} {D : Nat → Nat → Prop} {x : Mm} {i : Int} {mc ms : Nat} (h : Inv x) (hN : gN Θ ≤ 3072) (h0 : 0 ≤ i) (h6 : i + 6 ≤ (gN Θ : Int)) (kk : ∀ x2, Inv x2 → Ev Θ (mL_law nm hh) 14 504 mc ms 2743 [(0, vr 13 1), (1, vr 7 (0 + 1)), (2, vr 8 (0 + 1)), (3, vr 31 (0 + 1)), (4, vi i)] [] (hq D x2) lQ) : Ev Θ (mL_law nm hh) 14 504 (mc + 6) (ms + 36) 2687 [(0, vr 13 1), (1, vr 7 (0 + 1)), (2, vr 8 (0 + 1)), (3, vr 31 (0 + 1)), (4, vi i)] [] (hq D x) lQ := by
  have hq1 : ∃ k x1 b x2, F_L_conflictsOf 50000 (scr Θ (i + 1)) x = some (k, x1) ∧ F_X8_conflictsOf 50000 0 (scr Θ (i + 1)) x1 = some (b, x2) ∧ x2.1 8 0 0 = k ∧ (k = 0 → x2.2 31 0 0 = BitVec.ofInt 64 b) ∧ Inv x2 := rnI (F7 := F_X7_conflictsOf 50000 0 (scr Θ (i + 1))) (F8 := F_X8_conflictsOf 50000 0 (scr Θ (i + 1))) (p_conflictsOf (by decide) h (scr Θ (i + 1))) (fun L w => n_X8_conflictsOf L 50000 0 (scr Θ (i + 1)) w)
  obtain ⟨k, x1, b, x2, e1, e2, e3, e4, e5⟩ := hq1
  refine Ev.aload_n (q := 1) ⟨dL_law_2687, rfl⟩ rfl rfl ?_
  refine Ev.aload_n (q := 0) ⟨dL_law_2688, rfl⟩ rfl rfl ?_
  refine Ev.iload (q := 4) ⟨dL_law_2689, rfl⟩ rfl ?_
  refine Ev.iconst ⟨dL_law_2691, rfl⟩ (inRd rfl) ?_
  refine Ev.iadd ⟨dL_law_2692, rfl⟩ (inRo (by omega) (by omega)) ?_
  refine Ev.sload (by omega) (by omega) ⟨dL_law_2693, rfl⟩ ?_
  refine Ev.aload_n (q := 3) ⟨dL_law_2694, rfl⟩ rfl rfl ?_
  refine Ev.callH1 (mc1 := mc) (ms1 := ms) (v := vi k) (h1 := hq D x1) hL_283 (c_L_conflictsOf Θ D 50000 _ x _ e1) rfl rfl ⟨by decide, by decide, by omega, by omega, Nat.le_of_ble_eq_true rfl⟩ ⟨dL_law_2695, rfl⟩ ?_
  refine Ev.istore (i := 5) (ls' := [(0, vr 13 1), (1, vr 7 (0 + 1)), (2, vr 8 (0 + 1)), (3, vr 31 (0 + 1)), (4, vi i), (5, vi k)]) ⟨dL_law_2698, rfl⟩ (Nat.le_of_ble_eq_true rfl) rfl ?_
  refine Ev.aload_n (q := 2) ⟨dL_law_2700, rfl⟩ rfl rfl ?_
  refine Ev.aload_n (q := 0) ⟨dL_law_2701, rfl⟩ rfl rfl ?_
  refine Ev.iload (q := 4) ⟨dL_law_2702, rfl⟩ rfl ?_
  refine Ev.iconst ⟨dL_law_2704, rfl⟩ (inRd rfl) ?_
  refine Ev.iadd ⟨dL_law_2705, rfl⟩ (inRo (by omega) (by omega)) ?_
  refine Ev.sload (by omega) (by omega) ⟨dL_law_2706, rfl⟩ ?_
  refine Ev.callV1 (mc1 := mc) (ms1 := ms) (v := vi b) (h1 := hq D x2) vL_285 (c_X8_conflictsOf Θ D 50000 0 _ x1 _ e2) rfl rfl (by decide) rfl ⟨by decide, by decide, by omega, by omega, Nat.le_of_ble_eq_true rfl⟩ ⟨dL_law_2707, rfl⟩ ?_
  refine Ev.istore (i := 6) (ls' := [(0, vr 13 1), (1, vr 7 (0 + 1)), (2, vr 8 (0 + 1)), (3, vr 31 (0 + 1)), (4, vi i), (5, vi k), (6, vi b)]) ⟨dL_law_2710, rfl⟩ (Nat.le_of_ble_eq_true rfl) rfl ?_
  refine Ev.aload_n (q := 2) ⟨dL_law_2712, rfl⟩ rfl rfl ?_
  refine Ev.callV1 (mc1 := mc) (ms1 := ms) (v := vi (x2.1 8 0 0)) (h1 := hq D x2) vL_146 (c_X8_thrown Θ D 50000 0 x2 _ f_thrown) rfl rfl (by decide) rfl ⟨by decide, by decide, by omega, by omega, Nat.le_of_ble_eq_true rfl⟩ ⟨dL_law_2713, rfl⟩ ?_
  refine Ev.iload (q := 5) ⟨dL_law_2716, rfl⟩ rfl ?_
  refine Ev.icmp_eq jL_law_2718 (fun _ => ?_) (fun hc => absurd e3 hc)
  refine Ev.iload (q := 5) ⟨dL_law_2723, rfl⟩ rfl ?_
  have fin : Ev Θ (mL_law nm hh) 14 504 mc ms 2740 [(0, vr 13 1), (1, vr 7 (0 + 1)), (2, vr 8 (0 + 1)), (3, vr 31 (0 + 1)), (4, vi i), (5, vi k), (6, vi b)] [] (hq D x2) lQ := by
    refine Ev.goto jL_law_2740 ?_
    refine Ev.keep [0, 1, 2, 3, 4] rfl ?_
    exact kk x2 e5
  refine Ev.if_ne jL_law_2725 (fun _ => fin) (fun hc => ?_)
  refine Ev.aload_n (q := 3) ⟨dL_law_2728, rfl⟩ rfl rfl ?_
  refine Ev.iconst ⟨dL_law_2729, rfl⟩ (inRd rfl) ?_
  refine Ev.laload (by decide) (by decide) (show (0 : Int) < ((1 : Nat) : Int) by decide) ⟨dL_law_2730, rfl⟩ ?_
  refine Ev.iload (q := 6) ⟨dL_law_2731, rfl⟩ rfl ?_
  refine Ev.i2l ⟨dL_law_2733, rfl⟩ ?_
  refine Ev.lcmp ⟨dL_law_2734, rfl⟩ ?_
  refine Ev.if_eq jL_law_2735 (fun _ => fin) (fun hc => absurd ?_ hc)
  show lcm (x2.2 31 0 0) (BitVec.ofInt 64 b) = 0
  rw [e4 (by assumption)]; exact lcm_self _
