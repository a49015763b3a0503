/-! What holds at the law's entry. -/
def PS (A : Nat → Prop) (s : State) (k : Nat) (q : Nat × Nat) : Prop := vk_R (SLW.getD k ("", 0, "", 0)).1 (SLW.getD k ("", 0, "", 0)).2.1 (SLW.getD k ("", 0, "", 0)).2.2.1 q.1 s ∧ va_O "java/lang/String" q.1 A s s.heap ∧ va_OF "java/lang/String" "coder" "B" (.int 0) q.1 A s s.heap ∧ va_OF "java/lang/String" "value" "[B" (.ref q.2) q.1 A s s.heap ∧ va_T .byte q.2 (wby k).length (fun j => .int (Int32.ofInt ((wby k).getD j 0))) A s s.heap
theorem st_one {A : Nat → Prop} {s : State} {args : Array Value} (o : String) (i : Nat) (tx : String) (byt : List Int) (hN : byt.length < 2 ^ 31) (w : (Cond.stringRef o i tx).before args s = true) (hex : (Cond.exactly (.string o i) "java/lang/String").before args s = true) (hco : (Cond.eq (.field (.string o i) "java/lang/String" "coder" "B") (.int 0)).before args s = true)
    (har : (Cond.arrayOf (.field (.string o i) "java/lang/String" "value" "[B") .byte).before args s = true) (hle : (Cond.eq (.length (.field (.string o i) "java/lang/String" "value" "[B")) (.int (Int32.ofNat byt.length))).before args s = true)
    (hel : ∀ j : Nat, j < byt.length → (Cond.eq (.elem (.field (.string o i) "java/lang/String" "value" "[B") (.int (Int32.ofNat j))) (.int (Int32.ofInt (byt.getD j 0)))).before args s = true) (hA : ∀ a : Nat, a < s.heap.size → ¬ A a) :
    ∃ q : Nat × Nat, vk_R o i tx q.1 s ∧ va_O "java/lang/String" q.1 A s s.heap ∧ va_OF "java/lang/String" "coder" "B" (.int 0) q.1 A s s.heap ∧ va_OF "java/lang/String" "value" "[B" (.ref q.2) q.1 A s s.heap ∧ va_T .byte q.2 byt.length (fun j => .int (Int32.ofInt (byt.getD j 0))) A s s.heap := by
  obtain ⟨a, c, cA, kA, q1, q2, q3, q4, q5, q6, -⟩ := Cond.exactly_spec (args := args) (first := s) (o := none) (s := s) (idx := []) (t := .string o i) (cls := "java/lang/String") hex
  obtain ⟨t, ht, hT⟩ := va_Tof (f := fun j => .int (Int32.ofInt (byt.getD j 0))) (A := A) hN har (va_eqt hle) (fun j hj => va_eqt (hel j hj)) hA
  exact ⟨(a, t), vk_R.of w q1, ⟨cA, q3, q5, by rw [q6]; exact q2, hA a (Array.getElem?_eq_some_iff.mp q3).1⟩, vk_OFof q1 (va_eqt hco) hA, vk_OFof q1 ht hA, hT⟩
theorem st_ref {s : State} {args : Array Value} {o x : String} {i : Nat} (w : (Cond.stringRef o i x).before args s = true) : ∃ a, vk_R o i x a s := by
  cases hc : s.vm.findClass o with
  | none => simp [Cond.before, Cond.holds, Cond.value, hc] at w
  | some cc =>
    obtain ⟨k1, cf, j, a, hk, hcf, hp, -, hr, hev⟩ := Cond.stringRef_spec hc w
    exact ⟨a, vk_R.of w hev⟩

theorem st_0 {A : Nat → Prop} {s : State} {args : Array Value} (hs : ∀ c ∈ (flatC (Jvm.Cond.and given_1 narrow_1)), c.before args s = true) (hts : ∀ w ∈ lw_tbl, w.before args s = true) (hA : ∀ a : Nat, a < s.heap.size → ¬ A a) : ∃ q : Nat × Nat, PS A s 0 q := by
  refine st_one (args := args) "LeasedTree$SetupText" 49 "field" (wby 0) (by decide) (hts _ (List.mem_of_getElem? (i := 387) (by decide +kernel))) (hs _ (List.mem_of_getElem? (i := 87) (by decide +kernel))) (hs _ (List.mem_of_getElem? (i := 88) (by decide +kernel))) (hs _ (List.mem_of_getElem? (i := 89) (by decide +kernel))) (hs _ (List.mem_of_getElem? (i := 90) (by decide +kernel))) (fun j hj => ?_) hA
  have hj : j < 5 := hj
  rcases j with _ | _ | _ | _ | _ | j
  · exact hs _ (List.mem_of_getElem? (i := 91) (by decide +kernel))
  · exact hs _ (List.mem_of_getElem? (i := 92) (by decide +kernel))
  · exact hs _ (List.mem_of_getElem? (i := 93) (by decide +kernel))
  · exact hs _ (List.mem_of_getElem? (i := 94) (by decide +kernel))
  · exact hs _ (List.mem_of_getElem? (i := 95) (by decide +kernel))
  · omega

theorem st_1 {A : Nat → Prop} {s : State} {args : Array Value} (hs : ∀ c ∈ (flatC (Jvm.Cond.and given_1 narrow_1)), c.before args s = true) (hts : ∀ w ∈ lw_tbl, w.before args s = true) (hA : ∀ a : Nat, a < s.heap.size → ¬ A a) : ∃ q : Nat × Nat, PS A s 1 q := by
  refine st_one (args := args) "LeasedTree$SetupText" 135 "sum" (wby 1) (by decide) (hts _ (List.mem_of_getElem? (i := 448) (by decide +kernel))) (hs _ (List.mem_of_getElem? (i := 96) (by decide +kernel))) (hs _ (List.mem_of_getElem? (i := 97) (by decide +kernel))) (hs _ (List.mem_of_getElem? (i := 98) (by decide +kernel))) (hs _ (List.mem_of_getElem? (i := 99) (by decide +kernel))) (fun j hj => ?_) hA
  have hj : j < 3 := hj
  rcases j with _ | _ | _ | j
  · exact hs _ (List.mem_of_getElem? (i := 100) (by decide +kernel))
  · exact hs _ (List.mem_of_getElem? (i := 101) (by decide +kernel))
  · exact hs _ (List.mem_of_getElem? (i := 102) (by decide +kernel))
  · omega

theorem st_2 {A : Nat → Prop} {s : State} {args : Array Value} (hs : ∀ c ∈ (flatC (Jvm.Cond.and given_1 narrow_1)), c.before args s = true) (hts : ∀ w ∈ lw_tbl, w.before args s = true) (hA : ∀ a : Nat, a < s.heap.size → ¬ A a) : ∃ q : Nat × Nat, PS A s 2 q := by
  refine st_one (args := args) "LeasedTree$SetupText" 137 "max" (wby 2) (by decide) (hts _ (List.mem_of_getElem? (i := 449) (by decide +kernel))) (hs _ (List.mem_of_getElem? (i := 103) (by decide +kernel))) (hs _ (List.mem_of_getElem? (i := 104) (by decide +kernel))) (hs _ (List.mem_of_getElem? (i := 105) (by decide +kernel))) (hs _ (List.mem_of_getElem? (i := 106) (by decide +kernel))) (fun j hj => ?_) hA
  have hj : j < 3 := hj
  rcases j with _ | _ | _ | j
  · exact hs _ (List.mem_of_getElem? (i := 107) (by decide +kernel))
  · exact hs _ (List.mem_of_getElem? (i := 108) (by decide +kernel))
  · exact hs _ (List.mem_of_getElem? (i := 109) (by decide +kernel))
  · omega

theorem st_3 {A : Nat → Prop} {s : State} {args : Array Value} (hs : ∀ c ∈ (flatC (Jvm.Cond.and given_1 narrow_1)), c.before args s = true) (hts : ∀ w ∈ lw_tbl, w.before args s = true) (hA : ∀ a : Nat, a < s.heap.size → ¬ A a) : ∃ q : Nat × Nat, PS A s 3 q := by
  refine st_one (args := args) "LeasedTree$SetupText" 139 "min" (wby 3) (by decide) (hts _ (List.mem_of_getElem? (i := 450) (by decide +kernel))) (hs _ (List.mem_of_getElem? (i := 110) (by decide +kernel))) (hs _ (List.mem_of_getElem? (i := 111) (by decide +kernel))) (hs _ (List.mem_of_getElem? (i := 112) (by decide +kernel))) (hs _ (List.mem_of_getElem? (i := 113) (by decide +kernel))) (fun j hj => ?_) hA
  have hj : j < 3 := hj
  rcases j with _ | _ | _ | j
  · exact hs _ (List.mem_of_getElem? (i := 114) (by decide +kernel))
  · exact hs _ (List.mem_of_getElem? (i := 115) (by decide +kernel))
  · exact hs _ (List.mem_of_getElem? (i := 116) (by decide +kernel))
  · omega

theorem st_4 {A : Nat → Prop} {s : State} {args : Array Value} (hs : ∀ c ∈ (flatC (Jvm.Cond.and given_1 narrow_1)), c.before args s = true) (hts : ∀ w ∈ lw_tbl, w.before args s = true) (hA : ∀ a : Nat, a < s.heap.size → ¬ A a) : ∃ q : Nat × Nat, PS A s 4 q := by
  refine st_one (args := args) "LeasedTree$SetupText" 141 "bits" (wby 4) (by decide) (hts _ (List.mem_of_getElem? (i := 451) (by decide +kernel))) (hs _ (List.mem_of_getElem? (i := 117) (by decide +kernel))) (hs _ (List.mem_of_getElem? (i := 118) (by decide +kernel))) (hs _ (List.mem_of_getElem? (i := 119) (by decide +kernel))) (hs _ (List.mem_of_getElem? (i := 120) (by decide +kernel))) (fun j hj => ?_) hA
  have hj : j < 4 := hj
  rcases j with _ | _ | _ | _ | j
  · exact hs _ (List.mem_of_getElem? (i := 121) (by decide +kernel))
  · exact hs _ (List.mem_of_getElem? (i := 122) (by decide +kernel))
  · exact hs _ (List.mem_of_getElem? (i := 123) (by decide +kernel))
  · exact hs _ (List.mem_of_getElem? (i := 124) (by decide +kernel))
  · omega

theorem st_5 {A : Nat → Prop} {s : State} {args : Array Value} (hs : ∀ c ∈ (flatC (Jvm.Cond.and given_1 narrow_1)), c.before args s = true) (hts : ∀ w ∈ lw_tbl, w.before args s = true) (hA : ∀ a : Nat, a < s.heap.size → ¬ A a) : ∃ q : Nat × Nat, PS A s 5 q := by
  refine st_one (args := args) "LeasedTree$SetupText" 143 "first" (wby 5) (by decide) (hts _ (List.mem_of_getElem? (i := 452) (by decide +kernel))) (hs _ (List.mem_of_getElem? (i := 125) (by decide +kernel))) (hs _ (List.mem_of_getElem? (i := 126) (by decide +kernel))) (hs _ (List.mem_of_getElem? (i := 127) (by decide +kernel))) (hs _ (List.mem_of_getElem? (i := 128) (by decide +kernel))) (fun j hj => ?_) hA
  have hj : j < 5 := hj
  rcases j with _ | _ | _ | _ | _ | j
  · exact hs _ (List.mem_of_getElem? (i := 129) (by decide +kernel))
  · exact hs _ (List.mem_of_getElem? (i := 130) (by decide +kernel))
  · exact hs _ (List.mem_of_getElem? (i := 131) (by decide +kernel))
  · exact hs _ (List.mem_of_getElem? (i := 132) (by decide +kernel))
  · exact hs _ (List.mem_of_getElem? (i := 133) (by decide +kernel))
  · omega

theorem st_6 {A : Nat → Prop} {s : State} {args : Array Value} (hs : ∀ c ∈ (flatC (Jvm.Cond.and given_1 narrow_1)), c.before args s = true) (hts : ∀ w ∈ lw_tbl, w.before args s = true) (hA : ∀ a : Nat, a < s.heap.size → ¬ A a) : ∃ q : Nat × Nat, PS A s 6 q := by
  refine st_one (args := args) "LeasedTree$SetupText" 145 "last" (wby 6) (by decide) (hts _ (List.mem_of_getElem? (i := 453) (by decide +kernel))) (hs _ (List.mem_of_getElem? (i := 134) (by decide +kernel))) (hs _ (List.mem_of_getElem? (i := 135) (by decide +kernel))) (hs _ (List.mem_of_getElem? (i := 136) (by decide +kernel))) (hs _ (List.mem_of_getElem? (i := 137) (by decide +kernel))) (fun j hj => ?_) hA
  have hj : j < 4 := hj
  rcases j with _ | _ | _ | _ | j
  · exact hs _ (List.mem_of_getElem? (i := 138) (by decide +kernel))
  · exact hs _ (List.mem_of_getElem? (i := 139) (by decide +kernel))
  · exact hs _ (List.mem_of_getElem? (i := 140) (by decide +kernel))
  · exact hs _ (List.mem_of_getElem? (i := 141) (by decide +kernel))
  · omega

theorem st_7 {A : Nat → Prop} {s : State} {args : Array Value} (hs : ∀ c ∈ (flatC (Jvm.Cond.and given_1 narrow_1)), c.before args s = true) (hts : ∀ w ∈ lw_tbl, w.before args s = true) (hA : ∀ a : Nat, a < s.heap.size → ¬ A a) : ∃ q : Nat × Nat, PS A s 7 q := by
  refine st_one (args := args) "LeasedTree$SetupText" 58 "client" (wby 7) (by decide) (hts _ (List.mem_of_getElem? (i := 454) (by decide +kernel))) (hs _ (List.mem_of_getElem? (i := 142) (by decide +kernel))) (hs _ (List.mem_of_getElem? (i := 143) (by decide +kernel))) (hs _ (List.mem_of_getElem? (i := 144) (by decide +kernel))) (hs _ (List.mem_of_getElem? (i := 145) (by decide +kernel))) (fun j hj => ?_) hA
  have hj : j < 6 := hj
  rcases j with _ | _ | _ | _ | _ | _ | j
  · exact hs _ (List.mem_of_getElem? (i := 146) (by decide +kernel))
  · exact hs _ (List.mem_of_getElem? (i := 147) (by decide +kernel))
  · exact hs _ (List.mem_of_getElem? (i := 148) (by decide +kernel))
  · exact hs _ (List.mem_of_getElem? (i := 149) (by decide +kernel))
  · exact hs _ (List.mem_of_getElem? (i := 150) (by decide +kernel))
  · exact hs _ (List.mem_of_getElem? (i := 151) (by decide +kernel))
  · omega

theorem st_8 {A : Nat → Prop} {s : State} {args : Array Value} (hs : ∀ c ∈ (flatC (Jvm.Cond.and given_1 narrow_1)), c.before args s = true) (hts : ∀ w ∈ lw_tbl, w.before args s = true) (hA : ∀ a : Nat, a < s.heap.size → ¬ A a) : ∃ q : Nat × Nat, PS A s 8 q := by
  refine st_one (args := args) "LeasedTree$SetupText" 63 "dir" (wby 8) (by decide) (hts _ (List.mem_of_getElem? (i := 459) (by decide +kernel))) (hs _ (List.mem_of_getElem? (i := 152) (by decide +kernel))) (hs _ (List.mem_of_getElem? (i := 153) (by decide +kernel))) (hs _ (List.mem_of_getElem? (i := 154) (by decide +kernel))) (hs _ (List.mem_of_getElem? (i := 155) (by decide +kernel))) (fun j hj => ?_) hA
  have hj : j < 3 := hj
  rcases j with _ | _ | _ | j
  · exact hs _ (List.mem_of_getElem? (i := 156) (by decide +kernel))
  · exact hs _ (List.mem_of_getElem? (i := 157) (by decide +kernel))
  · exact hs _ (List.mem_of_getElem? (i := 158) (by decide +kernel))
  · omega

theorem st_9 {A : Nat → Prop} {s : State} {args : Array Value} (hs : ∀ c ∈ (flatC (Jvm.Cond.and given_1 narrow_1)), c.before args s = true) (hts : ∀ w ∈ lw_tbl, w.before args s = true) (hA : ∀ a : Nat, a < s.heap.size → ¬ A a) : ∃ q : Nat × Nat, PS A s 9 q := by
  refine st_one (args := args) "LeasedTree$SetupText" 69 "record" (wby 9) (by decide) (hts _ (List.mem_of_getElem? (i := 477) (by decide +kernel))) (hs _ (List.mem_of_getElem? (i := 159) (by decide +kernel))) (hs _ (List.mem_of_getElem? (i := 160) (by decide +kernel))) (hs _ (List.mem_of_getElem? (i := 161) (by decide +kernel))) (hs _ (List.mem_of_getElem? (i := 162) (by decide +kernel))) (fun j hj => ?_) hA
  have hj : j < 6 := hj
  rcases j with _ | _ | _ | _ | _ | _ | j
  · exact hs _ (List.mem_of_getElem? (i := 163) (by decide +kernel))
  · exact hs _ (List.mem_of_getElem? (i := 164) (by decide +kernel))
  · exact hs _ (List.mem_of_getElem? (i := 165) (by decide +kernel))
  · exact hs _ (List.mem_of_getElem? (i := 166) (by decide +kernel))
  · exact hs _ (List.mem_of_getElem? (i := 167) (by decide +kernel))
  · exact hs _ (List.mem_of_getElem? (i := 168) (by decide +kernel))
  · omega

theorem st_10 {A : Nat → Prop} {s : State} {args : Array Value} (hs : ∀ c ∈ (flatC (Jvm.Cond.and given_1 narrow_1)), c.before args s = true) (hts : ∀ w ∈ lw_tbl, w.before args s = true) (hA : ∀ a : Nat, a < s.heap.size → ¬ A a) : ∃ q : Nat × Nat, PS A s 10 q := by
  refine st_one (args := args) "LeasedTree$SetupText" 71 "value" (wby 10) (by decide) (hts _ (List.mem_of_getElem? (i := 478) (by decide +kernel))) (hs _ (List.mem_of_getElem? (i := 169) (by decide +kernel))) (hs _ (List.mem_of_getElem? (i := 170) (by decide +kernel))) (hs _ (List.mem_of_getElem? (i := 171) (by decide +kernel))) (hs _ (List.mem_of_getElem? (i := 172) (by decide +kernel))) (fun j hj => ?_) hA
  have hj : j < 5 := hj
  rcases j with _ | _ | _ | _ | _ | j
  · exact hs _ (List.mem_of_getElem? (i := 173) (by decide +kernel))
  · exact hs _ (List.mem_of_getElem? (i := 174) (by decide +kernel))
  · exact hs _ (List.mem_of_getElem? (i := 175) (by decide +kernel))
  · exact hs _ (List.mem_of_getElem? (i := 176) (by decide +kernel))
  · exact hs _ (List.mem_of_getElem? (i := 177) (by decide +kernel))
  · omega

theorem st_11 {A : Nat → Prop} {s : State} {args : Array Value} (hs : ∀ c ∈ (flatC (Jvm.Cond.and given_1 narrow_1)), c.before args s = true) (hts : ∀ w ∈ lw_tbl, w.before args s = true) (hA : ∀ a : Nat, a < s.heap.size → ¬ A a) : ∃ q : Nat × Nat, PS A s 11 q := by
  refine st_one (args := args) "LeasedTreeModel" 136 "field" (wby 11) (by decide) (hts _ (List.mem_of_getElem? (i := 1293) (by decide +kernel))) (hs _ (List.mem_of_getElem? (i := 1217) (by decide +kernel))) (hs _ (List.mem_of_getElem? (i := 1218) (by decide +kernel))) (hs _ (List.mem_of_getElem? (i := 1219) (by decide +kernel))) (hs _ (List.mem_of_getElem? (i := 1220) (by decide +kernel))) (fun j hj => ?_) hA
  have hj : j < 5 := hj
  rcases j with _ | _ | _ | _ | _ | j
  · exact hs _ (List.mem_of_getElem? (i := 1221) (by decide +kernel))
  · exact hs _ (List.mem_of_getElem? (i := 1222) (by decide +kernel))
  · exact hs _ (List.mem_of_getElem? (i := 1223) (by decide +kernel))
  · exact hs _ (List.mem_of_getElem? (i := 1224) (by decide +kernel))
  · exact hs _ (List.mem_of_getElem? (i := 1225) (by decide +kernel))
  · omega

theorem st_12 {A : Nat → Prop} {s : State} {args : Array Value} (hs : ∀ c ∈ (flatC (Jvm.Cond.and given_1 narrow_1)), c.before args s = true) (hts : ∀ w ∈ lw_tbl, w.before args s = true) (hA : ∀ a : Nat, a < s.heap.size → ¬ A a) : ∃ q : Nat × Nat, PS A s 12 q := by
  refine st_one (args := args) "LeasedTreeModel" 113 "sum" (wby 12) (by decide) (hts _ (List.mem_of_getElem? (i := 1316) (by decide +kernel))) (hs _ (List.mem_of_getElem? (i := 1227) (by decide +kernel))) (hs _ (List.mem_of_getElem? (i := 1228) (by decide +kernel))) (hs _ (List.mem_of_getElem? (i := 1229) (by decide +kernel))) (hs _ (List.mem_of_getElem? (i := 1230) (by decide +kernel))) (fun j hj => ?_) hA
  have hj : j < 3 := hj
  rcases j with _ | _ | _ | j
  · exact hs _ (List.mem_of_getElem? (i := 1231) (by decide +kernel))
  · exact hs _ (List.mem_of_getElem? (i := 1232) (by decide +kernel))
  · exact hs _ (List.mem_of_getElem? (i := 1233) (by decide +kernel))
  · omega

theorem st_13 {A : Nat → Prop} {s : State} {args : Array Value} (hs : ∀ c ∈ (flatC (Jvm.Cond.and given_1 narrow_1)), c.before args s = true) (hts : ∀ w ∈ lw_tbl, w.before args s = true) (hA : ∀ a : Nat, a < s.heap.size → ¬ A a) : ∃ q : Nat × Nat, PS A s 13 q := by
  refine st_one (args := args) "LeasedTreeModel" 119 "max" (wby 13) (by decide) (hts _ (List.mem_of_getElem? (i := 1317) (by decide +kernel))) (hs _ (List.mem_of_getElem? (i := 1235) (by decide +kernel))) (hs _ (List.mem_of_getElem? (i := 1236) (by decide +kernel))) (hs _ (List.mem_of_getElem? (i := 1237) (by decide +kernel))) (hs _ (List.mem_of_getElem? (i := 1238) (by decide +kernel))) (fun j hj => ?_) hA
  have hj : j < 3 := hj
  rcases j with _ | _ | _ | j
  · exact hs _ (List.mem_of_getElem? (i := 1239) (by decide +kernel))
  · exact hs _ (List.mem_of_getElem? (i := 1240) (by decide +kernel))
  · exact hs _ (List.mem_of_getElem? (i := 1241) (by decide +kernel))
  · omega

theorem st_14 {A : Nat → Prop} {s : State} {args : Array Value} (hs : ∀ c ∈ (flatC (Jvm.Cond.and given_1 narrow_1)), c.before args s = true) (hts : ∀ w ∈ lw_tbl, w.before args s = true) (hA : ∀ a : Nat, a < s.heap.size → ¬ A a) : ∃ q : Nat × Nat, PS A s 14 q := by
  refine st_one (args := args) "LeasedTreeModel" 121 "min" (wby 14) (by decide) (hts _ (List.mem_of_getElem? (i := 1318) (by decide +kernel))) (hs _ (List.mem_of_getElem? (i := 1243) (by decide +kernel))) (hs _ (List.mem_of_getElem? (i := 1244) (by decide +kernel))) (hs _ (List.mem_of_getElem? (i := 1245) (by decide +kernel))) (hs _ (List.mem_of_getElem? (i := 1246) (by decide +kernel))) (fun j hj => ?_) hA
  have hj : j < 3 := hj
  rcases j with _ | _ | _ | j
  · exact hs _ (List.mem_of_getElem? (i := 1247) (by decide +kernel))
  · exact hs _ (List.mem_of_getElem? (i := 1248) (by decide +kernel))
  · exact hs _ (List.mem_of_getElem? (i := 1249) (by decide +kernel))
  · omega

theorem st_15 {A : Nat → Prop} {s : State} {args : Array Value} (hs : ∀ c ∈ (flatC (Jvm.Cond.and given_1 narrow_1)), c.before args s = true) (hts : ∀ w ∈ lw_tbl, w.before args s = true) (hA : ∀ a : Nat, a < s.heap.size → ¬ A a) : ∃ q : Nat × Nat, PS A s 15 q := by
  refine st_one (args := args) "LeasedTreeModel" 122 "bits" (wby 15) (by decide) (hts _ (List.mem_of_getElem? (i := 1319) (by decide +kernel))) (hs _ (List.mem_of_getElem? (i := 1251) (by decide +kernel))) (hs _ (List.mem_of_getElem? (i := 1252) (by decide +kernel))) (hs _ (List.mem_of_getElem? (i := 1253) (by decide +kernel))) (hs _ (List.mem_of_getElem? (i := 1254) (by decide +kernel))) (fun j hj => ?_) hA
  have hj : j < 4 := hj
  rcases j with _ | _ | _ | _ | j
  · exact hs _ (List.mem_of_getElem? (i := 1255) (by decide +kernel))
  · exact hs _ (List.mem_of_getElem? (i := 1256) (by decide +kernel))
  · exact hs _ (List.mem_of_getElem? (i := 1257) (by decide +kernel))
  · exact hs _ (List.mem_of_getElem? (i := 1258) (by decide +kernel))
  · omega

theorem st_16 {A : Nat → Prop} {s : State} {args : Array Value} (hs : ∀ c ∈ (flatC (Jvm.Cond.and given_1 narrow_1)), c.before args s = true) (hts : ∀ w ∈ lw_tbl, w.before args s = true) (hA : ∀ a : Nat, a < s.heap.size → ¬ A a) : ∃ q : Nat × Nat, PS A s 16 q := by
  refine st_one (args := args) "LeasedTreeModel" 124 "first" (wby 16) (by decide) (hts _ (List.mem_of_getElem? (i := 1320) (by decide +kernel))) (hs _ (List.mem_of_getElem? (i := 1260) (by decide +kernel))) (hs _ (List.mem_of_getElem? (i := 1261) (by decide +kernel))) (hs _ (List.mem_of_getElem? (i := 1262) (by decide +kernel))) (hs _ (List.mem_of_getElem? (i := 1263) (by decide +kernel))) (fun j hj => ?_) hA
  have hj : j < 5 := hj
  rcases j with _ | _ | _ | _ | _ | j
  · exact hs _ (List.mem_of_getElem? (i := 1264) (by decide +kernel))
  · exact hs _ (List.mem_of_getElem? (i := 1265) (by decide +kernel))
  · exact hs _ (List.mem_of_getElem? (i := 1266) (by decide +kernel))
  · exact hs _ (List.mem_of_getElem? (i := 1267) (by decide +kernel))
  · exact hs _ (List.mem_of_getElem? (i := 1268) (by decide +kernel))
  · omega

theorem st_17 {A : Nat → Prop} {s : State} {args : Array Value} (hs : ∀ c ∈ (flatC (Jvm.Cond.and given_1 narrow_1)), c.before args s = true) (hts : ∀ w ∈ lw_tbl, w.before args s = true) (hA : ∀ a : Nat, a < s.heap.size → ¬ A a) : ∃ q : Nat × Nat, PS A s 17 q := by
  refine st_one (args := args) "LeasedTreeModel" 126 "last" (wby 17) (by decide) (hts _ (List.mem_of_getElem? (i := 1321) (by decide +kernel))) (hs _ (List.mem_of_getElem? (i := 1270) (by decide +kernel))) (hs _ (List.mem_of_getElem? (i := 1271) (by decide +kernel))) (hs _ (List.mem_of_getElem? (i := 1272) (by decide +kernel))) (hs _ (List.mem_of_getElem? (i := 1273) (by decide +kernel))) (fun j hj => ?_) hA
  have hj : j < 4 := hj
  rcases j with _ | _ | _ | _ | j
  · exact hs _ (List.mem_of_getElem? (i := 1274) (by decide +kernel))
  · exact hs _ (List.mem_of_getElem? (i := 1275) (by decide +kernel))
  · exact hs _ (List.mem_of_getElem? (i := 1276) (by decide +kernel))
  · exact hs _ (List.mem_of_getElem? (i := 1277) (by decide +kernel))
  · omega

theorem st_18 {A : Nat → Prop} {s : State} {args : Array Value} (hs : ∀ c ∈ (flatC (Jvm.Cond.and given_1 narrow_1)), c.before args s = true) (hts : ∀ w ∈ lw_tbl, w.before args s = true) (hA : ∀ a : Nat, a < s.heap.size → ¬ A a) : ∃ q : Nat × Nat, PS A s 18 q := by
  refine st_one (args := args) "LeasedTreeModel" 141 "client" (wby 18) (by decide) (hts _ (List.mem_of_getElem? (i := 1322) (by decide +kernel))) (hs _ (List.mem_of_getElem? (i := 1279) (by decide +kernel))) (hs _ (List.mem_of_getElem? (i := 1280) (by decide +kernel))) (hs _ (List.mem_of_getElem? (i := 1281) (by decide +kernel))) (hs _ (List.mem_of_getElem? (i := 1282) (by decide +kernel))) (fun j hj => ?_) hA
  have hj : j < 6 := hj
  rcases j with _ | _ | _ | _ | _ | _ | j
  · exact hs _ (List.mem_of_getElem? (i := 1283) (by decide +kernel))
  · exact hs _ (List.mem_of_getElem? (i := 1284) (by decide +kernel))
  · exact hs _ (List.mem_of_getElem? (i := 1285) (by decide +kernel))
  · exact hs _ (List.mem_of_getElem? (i := 1286) (by decide +kernel))
  · exact hs _ (List.mem_of_getElem? (i := 1287) (by decide +kernel))
  · exact hs _ (List.mem_of_getElem? (i := 1288) (by decide +kernel))
  · omega

theorem st_19 {A : Nat → Prop} {s : State} {args : Array Value} (hs : ∀ c ∈ (flatC (Jvm.Cond.and given_1 narrow_1)), c.before args s = true) (hts : ∀ w ∈ lw_tbl, w.before args s = true) (hA : ∀ a : Nat, a < s.heap.size → ¬ A a) : ∃ q : Nat × Nat, PS A s 19 q := by
  refine st_one (args := args) "LeasedTreeModel" 143 "dir" (wby 19) (by decide) (hts _ (List.mem_of_getElem? (i := 1323) (by decide +kernel))) (hs _ (List.mem_of_getElem? (i := 1290) (by decide +kernel))) (hs _ (List.mem_of_getElem? (i := 1291) (by decide +kernel))) (hs _ (List.mem_of_getElem? (i := 1292) (by decide +kernel))) (hs _ (List.mem_of_getElem? (i := 1293) (by decide +kernel))) (fun j hj => ?_) hA
  have hj : j < 3 := hj
  rcases j with _ | _ | _ | j
  · exact hs _ (List.mem_of_getElem? (i := 1294) (by decide +kernel))
  · exact hs _ (List.mem_of_getElem? (i := 1295) (by decide +kernel))
  · exact hs _ (List.mem_of_getElem? (i := 1296) (by decide +kernel))
  · omega

theorem st_20 {A : Nat → Prop} {s : State} {args : Array Value} (hs : ∀ c ∈ (flatC (Jvm.Cond.and given_1 narrow_1)), c.before args s = true) (hts : ∀ w ∈ lw_tbl, w.before args s = true) (hA : ∀ a : Nat, a < s.heap.size → ¬ A a) : ∃ q : Nat × Nat, PS A s 20 q := by
  refine st_one (args := args) "LeasedTreeModel" 149 "record" (wby 20) (by decide) (hts _ (List.mem_of_getElem? (i := 1332) (by decide +kernel))) (hs _ (List.mem_of_getElem? (i := 1298) (by decide +kernel))) (hs _ (List.mem_of_getElem? (i := 1299) (by decide +kernel))) (hs _ (List.mem_of_getElem? (i := 1300) (by decide +kernel))) (hs _ (List.mem_of_getElem? (i := 1301) (by decide +kernel))) (fun j hj => ?_) hA
  have hj : j < 6 := hj
  rcases j with _ | _ | _ | _ | _ | _ | j
  · exact hs _ (List.mem_of_getElem? (i := 1302) (by decide +kernel))
  · exact hs _ (List.mem_of_getElem? (i := 1303) (by decide +kernel))
  · exact hs _ (List.mem_of_getElem? (i := 1304) (by decide +kernel))
  · exact hs _ (List.mem_of_getElem? (i := 1305) (by decide +kernel))
  · exact hs _ (List.mem_of_getElem? (i := 1306) (by decide +kernel))
  · exact hs _ (List.mem_of_getElem? (i := 1307) (by decide +kernel))
  · omega

theorem st_21 {A : Nat → Prop} {s : State} {args : Array Value} (hs : ∀ c ∈ (flatC (Jvm.Cond.and given_1 narrow_1)), c.before args s = true) (hts : ∀ w ∈ lw_tbl, w.before args s = true) (hA : ∀ a : Nat, a < s.heap.size → ¬ A a) : ∃ q : Nat × Nat, PS A s 21 q := by
  refine st_one (args := args) "LeasedTreeModel" 151 "value" (wby 21) (by decide) (hts _ (List.mem_of_getElem? (i := 1333) (by decide +kernel))) (hs _ (List.mem_of_getElem? (i := 1309) (by decide +kernel))) (hs _ (List.mem_of_getElem? (i := 1310) (by decide +kernel))) (hs _ (List.mem_of_getElem? (i := 1311) (by decide +kernel))) (hs _ (List.mem_of_getElem? (i := 1312) (by decide +kernel))) (fun j hj => ?_) hA
  have hj : j < 5 := hj
  rcases j with _ | _ | _ | _ | _ | j
  · exact hs _ (List.mem_of_getElem? (i := 1313) (by decide +kernel))
  · exact hs _ (List.mem_of_getElem? (i := 1314) (by decide +kernel))
  · exact hs _ (List.mem_of_getElem? (i := 1315) (by decide +kernel))
  · exact hs _ (List.mem_of_getElem? (i := 1316) (by decide +kernel))
  · exact hs _ (List.mem_of_getElem? (i := 1317) (by decide +kernel))
  · omega

theorem st_nc {s : State} {args : Array Value} (hs : ∀ c ∈ (flatC (Jvm.Cond.and given_1 narrow_1)), c.before args s = true) : ∀ q ∈ NCP, va_Nc q.1 q.2 s := by
  intro q hq
  rcases List.mem_cons.mp hq with rfl | hq
  · exact va_Nc.of (hs (Cond.not (.castable "java/lang/IllegalArgumentException" "java/lang/IllegalStateException")) (List.mem_of_getElem? (i := 20) (by decide +kernel)))
  rcases List.mem_cons.mp hq with rfl | hq
  · exact va_Nc.of (hs (Cond.not (.castable "java/lang/IllegalArgumentException" "java/lang/IndexOutOfBoundsException")) (List.mem_of_getElem? (i := 45) (by decide +kernel)))
  rcases List.mem_cons.mp hq with rfl | hq
  · exact va_Nc.of (hs (Cond.not (.castable "java/lang/IllegalArgumentException" "java/util/NoSuchElementException")) (List.mem_of_getElem? (i := 57) (by decide +kernel)))
  rcases List.mem_cons.mp hq with rfl | hq
  · exact va_Nc.of (hs (Cond.not (.castable "java/lang/IllegalStateException" "java/lang/IllegalArgumentException")) (List.mem_of_getElem? (i := 32) (by decide +kernel)))
  rcases List.mem_cons.mp hq with rfl | hq
  · exact va_Nc.of (hs (Cond.not (.castable "java/lang/IllegalStateException" "java/lang/IndexOutOfBoundsException")) (List.mem_of_getElem? (i := 44) (by decide +kernel)))
  rcases List.mem_cons.mp hq with rfl | hq
  · exact va_Nc.of (hs (Cond.not (.castable "java/lang/IllegalStateException" "java/util/NoSuchElementException")) (List.mem_of_getElem? (i := 56) (by decide +kernel)))
  rcases List.mem_cons.mp hq with rfl | hq
  · exact va_Nc.of (hs (Cond.not (.castable "java/lang/IndexOutOfBoundsException" "java/lang/IllegalArgumentException")) (List.mem_of_getElem? (i := 33) (by decide +kernel)))
  rcases List.mem_cons.mp hq with rfl | hq
  · exact va_Nc.of (hs (Cond.not (.castable "java/lang/IndexOutOfBoundsException" "java/lang/IllegalStateException")) (List.mem_of_getElem? (i := 21) (by decide +kernel)))
  rcases List.mem_cons.mp hq with rfl | hq
  · exact va_Nc.of (hs (Cond.not (.castable "java/lang/IndexOutOfBoundsException" "java/util/NoSuchElementException")) (List.mem_of_getElem? (i := 58) (by decide +kernel)))
  rcases List.mem_cons.mp hq with rfl | hq
  · exact va_Nc.of (hs (Cond.not (.castable "java/util/NoSuchElementException" "java/lang/IllegalArgumentException")) (List.mem_of_getElem? (i := 34) (by decide +kernel)))
  rcases List.mem_cons.mp hq with rfl | hq
  · exact va_Nc.of (hs (Cond.not (.castable "java/util/NoSuchElementException" "java/lang/IllegalStateException")) (List.mem_of_getElem? (i := 22) (by decide +kernel)))
  rcases List.mem_cons.mp hq with rfl | hq
  · exact va_Nc.of (hs (Cond.not (.castable "java/util/NoSuchElementException" "java/lang/IndexOutOfBoundsException")) (List.mem_of_getElem? (i := 46) (by decide +kernel)))
  cases hq

theorem st_strings {A : Nat → Prop} {s : State} {args : Array Value} (hs : ∀ c ∈ (flatC (Jvm.Cond.and given_1 narrow_1)), c.before args s = true) (hts : ∀ w ∈ lw_tbl, w.before args s = true) (hA : ∀ a : Nat, a < s.heap.size → ¬ A a) : ∃ f : Nat → Nat × Nat, ∀ k, k < 22 → PS A s k (f k) := by
  have h0 : ∀ k : Nat, ∃ q : Nat × Nat, k < 22 → PS A s k q := by
    intro k
    match k with
    | 0 =>
      obtain ⟨q, hq⟩ := st_0 hs hts hA
      exact ⟨q, fun _ => hq⟩
    | 1 =>
      obtain ⟨q, hq⟩ := st_1 hs hts hA
      exact ⟨q, fun _ => hq⟩
    | 2 =>
      obtain ⟨q, hq⟩ := st_2 hs hts hA
      exact ⟨q, fun _ => hq⟩
    | 3 =>
      obtain ⟨q, hq⟩ := st_3 hs hts hA
      exact ⟨q, fun _ => hq⟩
    | 4 =>
      obtain ⟨q, hq⟩ := st_4 hs hts hA
      exact ⟨q, fun _ => hq⟩
    | 5 =>
      obtain ⟨q, hq⟩ := st_5 hs hts hA
      exact ⟨q, fun _ => hq⟩
    | 6 =>
      obtain ⟨q, hq⟩ := st_6 hs hts hA
      exact ⟨q, fun _ => hq⟩
    | 7 =>
      obtain ⟨q, hq⟩ := st_7 hs hts hA
      exact ⟨q, fun _ => hq⟩
    | 8 =>
      obtain ⟨q, hq⟩ := st_8 hs hts hA
      exact ⟨q, fun _ => hq⟩
    | 9 =>
      obtain ⟨q, hq⟩ := st_9 hs hts hA
      exact ⟨q, fun _ => hq⟩
    | 10 =>
      obtain ⟨q, hq⟩ := st_10 hs hts hA
      exact ⟨q, fun _ => hq⟩
    | 11 =>
      obtain ⟨q, hq⟩ := st_11 hs hts hA
      exact ⟨q, fun _ => hq⟩
    | 12 =>
      obtain ⟨q, hq⟩ := st_12 hs hts hA
      exact ⟨q, fun _ => hq⟩
    | 13 =>
      obtain ⟨q, hq⟩ := st_13 hs hts hA
      exact ⟨q, fun _ => hq⟩
    | 14 =>
      obtain ⟨q, hq⟩ := st_14 hs hts hA
      exact ⟨q, fun _ => hq⟩
    | 15 =>
      obtain ⟨q, hq⟩ := st_15 hs hts hA
      exact ⟨q, fun _ => hq⟩
    | 16 =>
      obtain ⟨q, hq⟩ := st_16 hs hts hA
      exact ⟨q, fun _ => hq⟩
    | 17 =>
      obtain ⟨q, hq⟩ := st_17 hs hts hA
      exact ⟨q, fun _ => hq⟩
    | 18 =>
      obtain ⟨q, hq⟩ := st_18 hs hts hA
      exact ⟨q, fun _ => hq⟩
    | 19 =>
      obtain ⟨q, hq⟩ := st_19 hs hts hA
      exact ⟨q, fun _ => hq⟩
    | 20 =>
      obtain ⟨q, hq⟩ := st_20 hs hts hA
      exact ⟨q, fun _ => hq⟩
    | 21 =>
      obtain ⟨q, hq⟩ := st_21 hs hts hA
      exact ⟨q, fun _ => hq⟩
    | k + 22 => exact ⟨(0, 0), fun h => absurd h (by omega)⟩
  exact Classical.axiomOfChoice h0
theorem st_slw : ∀ q ∈ SLW, q.2.2.2 < 22 ∧ SLW.getD q.2.2.2 ("", 0, "", 0) = q := by decide +kernel
theorem st_arr {s : State} {args : Array Value} {ty : FieldType} (hno : ∀ C, ty ≠ .object C) (h : (Cond.arrayClass ty).before args s = true) : ∃ cA, ArrOfT s cA ty ∧ va_RA s cA ty := by
  obtain ⟨c, k, comp, h1, h2, h3⟩ := Cond.arrayClass_spec h
  refine ⟨c, fun n z => ⟨fun q hq => (by cases hq), k, h2, comp, h3⟩, ?_⟩
  cases ty <;> first | exact h1 | exact absurd rfl (hno _)
theorem st_arrO {s : State} {args : Array Value} {C : String} (h : (Cond.arrayOver (.object C)).before args s = true) : ∃ cA, ArrOfT s cA (.object C) ∧ va_RA s cA (.object C) := by
  obtain ⟨comp, c, k, h1, h2, h3, h4, h5⟩ := Cond.arrayOver_spec h
  exact ⟨c, fun n z => ⟨fun q hq => (by cases hq), k, h3, comp, h4⟩, k, comp, h3, h4, h1, h5⟩

theorem st_known {s : State} {args : Array Value} (hts : ∀ w ∈ lw_tbl, w.before args s = true) : ∃ D : va_G, ∀ (c : Nat) (q : vw_C), vwCl[c]? = some q → u_Kn s q.1 q.2.1 q.2.2 (D.1 c) (D.2 c) := by
  obtain ⟨c0, iS0, hK0⟩ := u_known (C := RX0) (T := TX0) (N := 2) (n := 2) hts (fun w hw => (List.mem_filter.mp (cok0.2.2.1 w hw)).1) (hts _ (List.mem_filter.mp g5).1)
  obtain ⟨c1, iS1, hK1⟩ := u_known (C := RX1) (T := TX1) (N := 2) (n := 2) hts (fun w hw => (List.mem_filter.mp (cok1.2.2.1 w hw)).1) (hts _ (List.mem_filter.mp g7).1)
  obtain ⟨c2, iS2, hK2⟩ := u_known (C := RX2) (T := TX2) (N := 3) (n := 3) hts (fun w hw => (List.mem_filter.mp (cok2.2.2.1 w hw)).1) (hts _ (List.mem_filter.mp g9).1)
  obtain ⟨c3, iS3, hK3⟩ := u_known (C := RX3) (T := TX3) (N := 7) (n := 7) hts (fun w hw => (List.mem_filter.mp (cok3.2.2.1 w hw)).1) (hts _ (List.mem_filter.mp g11).1)
  obtain ⟨c4, iS4, hK4⟩ := u_known (C := RX4) (T := TX4) (N := 5) (n := 5) hts (fun w hw => (List.mem_filter.mp (cok4.2.2.1 w hw)).1) (hts _ (List.mem_filter.mp g13).1)
  obtain ⟨c5, iS5, hK5⟩ := u_known (C := RX5) (T := TX5) (N := 7) (n := 7) hts (fun w hw => (List.mem_filter.mp (cok5.2.2.1 w hw)).1) (hts _ (List.mem_filter.mp g15).1)
  obtain ⟨c6, iS6, hK6⟩ := u_known (C := RX6) (T := TX6) (N := 8) (n := 8) hts (fun w hw => (List.mem_filter.mp (cok6.2.2.1 w hw)).1) (hts _ (List.mem_filter.mp g17).1)
  obtain ⟨c7, iS7, hK7⟩ := u_known (C := RX7) (T := TX7) (N := 8) (n := 8) hts (fun w hw => (List.mem_filter.mp (cok7.2.2.1 w hw)).1) (hts _ (List.mem_filter.mp g19).1)
  obtain ⟨c8, iS8, hK8⟩ := u_known (C := RX8) (T := TX8) (N := 17) (n := 17) hts (fun w hw => (List.mem_filter.mp (cok8.2.2.1 w hw)).1) (hts _ (List.mem_filter.mp g21).1)
  refine ⟨(fun k => if k = 0 then c0 else if k = 1 then c1 else if k = 2 then c2 else if k = 3 then c3 else if k = 4 then c4 else if k = 5 then c5 else if k = 6 then c6 else if k = 7 then c7 else c8, fun k => if k = 0 then iS0 else if k = 1 then iS1 else if k = 2 then iS2 else if k = 3 then iS3 else if k = 4 then iS4 else if k = 5 then iS5 else if k = 6 then iS6 else if k = 7 then iS7 else iS8), ?_⟩
  intro k q hq
  match k, hq with
  | 0, hq => cases hq; exact hK0
  | 1, hq => cases hq; exact hK1
  | 2, hq => cases hq; exact hK2
  | 3, hq => cases hq; exact hK3
  | 4, hq => cases hq; exact hK4
  | 5, hq => cases hq; exact hK5
  | 6, hq => cases hq; exact hK6
  | 7, hq => cases hq; exact hK7
  | 8, hq => cases hq; exact hK8
  | k + 9, hq => simp [vwCl] at hq

theorem st_flags {l : Launch} (h : l.flags = flags0) : l.stackTraces = false := by
  unfold Launch.stackTraces
  rw [h]
  decide +kernel
/-- the law's entry: what is fixed for the run, and that it holds there -/
theorem st_cx {s : State} {l : Launch} {b L : Nat} {xs : Nat → Int32} (hflags : l.flags = flags0) (hL : L ≤ 3072) (hts : ∀ w ∈ lw_tbl, w.before #[Value.ref b] s = true) (hX : va_X b L xs s s.heap) (hbl : b < s.heap.size) (hgv : (Jvm.Cond.and given_1 narrow_1).before #[Value.ref b] s = true) :
    ∃ Θ : GC, gH Θ = s.heap ∧ gL Θ = l ∧ gB Θ = b ∧ gN Θ = L ∧ Cx Θ s := by
  have hs := flat_of_before _ hgv
  have hA : ∀ a : Nat, a < s.heap.size → ¬ s.heap.size ≤ a := fun a h => Nat.not_le.mpr h
  obtain ⟨Dk, hKn⟩ := st_known hts
  obtain ⟨a0, hA0, hR0⟩ := st_arr (ty := .int) (fun C => by intro h; cases h) (hts _ (List.mem_filter.mp g0).1)
  obtain ⟨a1, hA1, hR1⟩ := st_arr (ty := .long) (fun C => by intro h; cases h) (hts _ (List.mem_filter.mp g1).1)
  have o2 := hts (Cond.arrayOver (.object RX3)) (List.mem_of_getElem? (i := 167) (by decide +kernel))
  have o3 := hts (Cond.arrayOver (.object RX6)) (List.mem_of_getElem? (i := 269) (by decide +kernel))
  obtain ⟨a2, hA2, hR2⟩ := st_arrO o2
  obtain ⟨a3, hA3, hR3⟩ := st_arrO o3
  obtain ⟨f, hf⟩ := st_strings (A := fun q => s.heap.size ≤ q) hs hts hA
  have zC : va_Z "java/lang/String" "COMPACT_STRINGS" "Z" (.int 1) (fun q => s.heap.size ≤ q) s s.heap := va_Zof (hts _ (List.mem_of_getElem? (i := 401) (by decide +kernel))) (hts _ (List.mem_of_getElem? (i := 92) (by decide +kernel))) (va_eqi (hs _ (List.mem_of_getElem? (i := 4) (by decide +kernel)))) hA
  have zF : ∃ r : Option Nat, va_Z "jdk/internal/util/Preconditions" "SIOOBE_FORMATTER" "Ljava/util/function/BiFunction;" (va_rf r) (fun q => s.heap.size ≤ q) s s.heap := by
    rcases va_Zqof (A := fun q => s.heap.size ≤ q) (hts (Cond.laysStatic "jdk/internal/util/Preconditions" "SIOOBE_FORMATTER" "Ljava/util/function/BiFunction;") (List.mem_of_getElem? (i := 417) (by decide +kernel))) (hts _ (List.mem_of_getElem? (i := 94) (by decide +kernel))) (hs _ (List.mem_of_getElem? (i := 5) (by decide +kernel))) hA with h | ⟨t, h⟩
    · exact ⟨none, h⟩
    · exact ⟨some t, h⟩
  obtain ⟨r, hr⟩ := zF
  refine ⟨(Dk, fun k => if k = 0 then a0 else if k = 1 then a1 else if k = 2 then a2 else a3, s.heap, fun k => (f k).1, fun k => (f k).2, l, b, L, xs, r), rfl, rfl, rfl, rfl, ?_⟩
  refine ⟨⟨hKn, fun k q hq => ?_⟩, fun w hw => word_at (State.WarmedH.refl s) (good_of_word (List.mem_filter.mp hw).2) (hts w (List.mem_filter.mp hw).1), st_flags hflags, fun a i x o hm => va_Nw.of rfl (hts _ hm), va_AO.of o2, va_AO.of o3, hX, hbl, hL, ?_, ?_, fun E hm => va_Nw.of rfl (hts _ hm), st_nc hs, fun o i x hm => st_ref (hts _ hm), fun q hq => ?_, fun k hk => (hf k hk).2, zC, hr, fun x hm => va_Nw.of rfl (hts _ hm)⟩
  · match k, hq with
    | 0, hq => cases hq; exact ⟨hA0, hR0⟩
    | 1, hq => cases hq; exact ⟨hA1, hR1⟩
    | 2, hq => cases hq; exact ⟨hA2, hR2⟩
    | 3, hq => cases hq; exact ⟨hA3, hR3⟩
    | k + 4, hq => cases hq
  · exact vx_Zqof (hts (Cond.laysStatic Bundle.tN "UNASSIGNED_STACK" Bundle.steD) (List.mem_of_getElem? (i := 578) (by decide +kernel))) (hts (Cond.initialized Bundle.tN) (List.mem_of_getElem? (i := 87) (by decide +kernel))) (hs (Cond.isRef (.static Bundle.tN "UNASSIGNED_STACK" Bundle.steD)) (List.mem_of_getElem? (i := 9) (by decide +kernel))) hA
  · exact vx_Zqof (hts (Cond.laysStatic Bundle.tN "SUPPRESSED_SENTINEL" Bundle.listD) (List.mem_of_getElem? (i := 580) (by decide +kernel))) (hts (Cond.initialized Bundle.tN) (List.mem_of_getElem? (i := 87) (by decide +kernel))) (hs (Cond.isRef (.static Bundle.tN "SUPPRESSED_SENTINEL" Bundle.listD)) (List.mem_of_getElem? (i := 10) (by decide +kernel))) hA
  · obtain ⟨h1, h2⟩ := st_slw q hq
    have h3 := (hf _ h1).1
    rw [h2] at h3
    exact h3
