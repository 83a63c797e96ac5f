/-! ===== what the Statement gives of the start, as a launch's tuple ===== -/
theorem ac_of {args : Array Value} {s : State} {t : FieldType} (h : (Cond.arrayClass t).before args s = true) : ∃ c : ClassId, ArrOfT s c t ∧ s.vm.findClass ("[" ++ t.toString) = some c := by
  obtain ⟨c, k, comp, h1, h2, h3⟩ := Cond.arrayClass_spec h
  exact ⟨c, fun N z => ⟨(fun q hq => (by cases hq)), k, h2, comp, h3⟩, h1⟩
theorem cl_known {s : State} {args : Array Value} (hw : ∀ w ∈ lwG, w.before args s = true) : ∃ (dC : Nat → ClassId) (dI : Nat → Nat → Nat), ∀ (k : Nat) (q : vw_C), cl13[k]? = some q → u_Kn s q.1 q.2.1 q.2.2 (dC k) (dI k) := by
  have h0 : ∀ k : Nat, ∃ r : ClassId × (Nat → Nat), ∀ q : vw_C, cl13[k]? = some q → u_Kn s q.1 q.2.1 q.2.2 r.1 r.2 := by
    intro k
    have one : ∀ {C : String} {T : u_T} {N : Nat}, cl13[k]? = some (C, T, N) → (∀ w ∈ u_ws C T N, w ∈ lwG) → Cond.instantiable C N ∈ lwG → ∃ r : ClassId × (Nat → Nat), ∀ q : vw_C, cl13[k]? = some q → u_Kn s q.1 q.2.1 q.2.2 r.1 r.2 := by
      intro C T N hk hl hi
      obtain ⟨c, f, h⟩ := u_known (C := C) (T := T) (N := N) (n := N) hw hl (hw _ hi)
      exact ⟨(c, f), fun q hq => by cases hk.symm.trans hq; exact h⟩
    match k with
    | 0 => exact one rfl lay_0 gw_258
    | 1 => exact one rfl lay_1 gw_373
    | 2 => exact one rfl lay_2 gw_340
    | 3 => exact one rfl lay_3 gw_278
    | 4 => exact one rfl lay_4 gw_204
    | 5 => exact one rfl lay_5 gw_296
    | 6 => exact one rfl lay_6 gw_516
    | 7 => exact one rfl lay_7 gw_172
    | 8 => exact one rfl lay_8 gw_139
    | 9 => exact one rfl lay_9 gw_455
    | 10 => exact one rfl lay_10 gw_420
    | 11 => exact one rfl lay_11 gl_131
    | 12 => exact one rfl lay_12 gl_1202
    | k + 13 => exact ⟨(0, fun _ => 0), fun q hq => by simp at hq⟩
  obtain ⟨f, hf⟩ := Classical.axiomOfChoice h0
  exact ⟨fun k => (f k).1, fun k => (f k).2, fun k q hq => hf k q hq⟩
abbrev tmX : Term := .static "GluedPaper" "STEP_X" "[I"
abbrev tmY : Term := .static "GluedPaper" "STEP_Y" "[I"
abbrev tmS : Term := .string "GluedPaper$Tape" 74
abbrev tmV : Term := .field tmS "java/lang/String" "value" "[B"
theorem entry_of {s : State} {b L : Nat} {xs : Nat → Int32} (l : Launch) (hts : ∀ w ∈ lw_tbl, w.before #[Value.ref b] s = true) (hgv : (Jvm.Cond.and given_1 narrow_1).before #[Value.ref b] s = true) (hX : va_X b L xs s s.heap) (hbl : b < s.heap.size) :
    ∃ g : GV, gl g = l ∧ gb g 0 = b ∧ gN g = s.heap.size ∧ gL g = L ∧ gx g = xs ∧ Kt g s ∧ Zs g s s.heap ∧ nsW s ∧ va_AO RX3 s := by
  have hw : ∀ w ∈ lwG, w.before #[Value.ref b] s = true := fun w h => hts w (List.mem_filter.mp h).1
  have ht : ∀ {w : Cond} (i : Nat), lw_tbl[i]? = some w → w.before #[Value.ref b] s = true := fun i h => hts _ (List.mem_of_getElem? h)
  have hs := flat_of_before _ hgv
  have hA : ∀ a : Nat, a < s.heap.size → ¬ (fun q : Nat => s.heap.size ≤ q) a := fun a h q => by have q : s.heap.size ≤ a := q; omega
  obtain ⟨dC, dI, hcl⟩ := cl_known hw
  obtain ⟨cI, hI1, hI2⟩ := ac_of (ht (w := .arrayClass .int) 169 (by decide +kernel))
  obtain ⟨cJ, hJ1, hJ2⟩ := ac_of (ht (w := .arrayClass .long) 170 (by decide +kernel))
  obtain ⟨cB, hB1, hB2⟩ := ac_of (ht (w := .arrayClass .byte) 857 (by decide +kernel))
  obtain ⟨cC, hC1, hC2⟩ := ac_of (ht (w := .arrayClass .char) 168 (by decide +kernel))
  obtain ⟨cZ, hZ1, hZ2⟩ := ac_of (ht (w := .arrayClass .boolean) 514 (by decide +kernel))
  have ho5 : (Cond.arrayOver (.array .int)).before #[Value.ref b] s = true := ht 264 (by decide +kernel)
  have ho6 : (Cond.arrayOver (.object RX3)).before #[Value.ref b] s = true := ht 302 (by decide +kernel)
  obtain ⟨c0, cR, kR, r1, -, r3, r4, r5⟩ := arrayOverA_spec ho5
  obtain ⟨c1, cQ, kQ', q1, -, q3, q4, q5⟩ := Cond.arrayOver_spec ho6
  have e0 : c0 = cI := Option.some.inj (r1.symm.trans hI2)
  subst e0
  obtain ⟨tX, tx1, tx2⟩ := va_Tof (tm := tmX) (ty := .int) (N := 4) (f := fun j => .int (stepX j)) (A := fun q : Nat => s.heap.size ≤ q) (by decide) (hs _ (by decide +kernel)) (va_eqt (z := 4) (hs _ (by decide +kernel))) (fun j hj => by
    match j, hj with
    | 0, _ => exact va_eqt (z := 0) (hs _ (by decide +kernel))
    | 1, _ => exact va_eqt (z := 1) (hs _ (by decide +kernel))
    | 2, _ => exact va_eqt (z := 0) (hs _ (by decide +kernel))
    | 3, _ => exact va_eqt (z := -1) (hs _ (by decide +kernel))) hA
  obtain ⟨tY, ty1, ty2⟩ := va_Tof (tm := tmY) (ty := .int) (N := 4) (f := fun j => .int (stepY j)) (A := fun q : Nat => s.heap.size ≤ q) (by decide) (hs _ (by decide +kernel)) (va_eqt (z := 4) (hs _ (by decide +kernel))) (fun j hj => by
    match j, hj with
    | 0, _ => exact va_eqt (z := -1) (hs _ (by decide +kernel))
    | 1, _ => exact va_eqt (z := 0) (hs _ (by decide +kernel))
    | 2, _ => exact va_eqt (z := 1) (hs _ (by decide +kernel))
    | 3, _ => exact va_eqt (z := 0) (hs _ (by decide +kernel))) hA
  obtain ⟨tV, tv1, tv2⟩ := va_Tof (tm := tmV) (ty := .byte) (N := 8) (f := fun j => .int (signB j)) (A := fun q : Nat => s.heap.size ≤ q) (by decide) (hs _ (by decide +kernel)) (va_eqt (z := 8) (hs _ (by decide +kernel))) (fun j hj => by
    match j, hj with
    | 0, _ => exact va_eqt (z := 40) (hs _ (by decide +kernel))
    | 1, _ => exact va_eqt (z := 41) (hs _ (by decide +kernel))
    | 2, _ => exact va_eqt (z := 60) (hs _ (by decide +kernel))
    | 3, _ => exact va_eqt (z := 61) (hs _ (by decide +kernel))
    | 4, _ => exact va_eqt (z := 43) (hs _ (by decide +kernel))
    | 5, _ => exact va_eqt (z := 45) (hs _ (by decide +kernel))
    | 6, _ => exact va_eqt (z := 42) (hs _ (by decide +kernel))
    | 7, _ => exact va_eqt (z := 59) (hs _ (by decide +kernel))) hA
  have ex : ∀ {own : String} {k : Nat}, (Cond.exactly (.string own k) "java/lang/String").before #[Value.ref b] s = true → ∃ a : Nat, (Term.string own k).eval #[Value.ref b] s none [] s = some (.ref a) := fun h => by
    obtain ⟨a, c, cA, kA, u1, -⟩ := Cond.exactly_spec (args := #[Value.ref b]) (first := s) (o := none) (s := s) (idx := []) (t := .string _ _) (cls := "java/lang/String") h
    exact ⟨a, u1⟩
  have hS0 : (Cond.exactly tmS "java/lang/String").before #[Value.ref b] s = true := hs _ (by decide +kernel)
  obtain ⟨aS, hS⟩ := ex hS0
  obtain ⟨a5, h5⟩ := ex (own := "GluedPaper") (k := 261) (hs _ (by decide +kernel))
  obtain ⟨a6, h6⟩ := ex (own := "GluedPaper") (k := 272) (hs _ (by decide +kernel))
  obtain ⟨a7, h7⟩ := ex (own := "GluedPaper") (k := 276) (hs _ (by decide +kernel))
  obtain ⟨a8, h8⟩ := ex (own := "GluedPaper") (k := 278) (hs _ (by decide +kernel))
  have hini : (Cond.initialized "GluedPaper").before #[Value.ref b] s = true := ht 103 (by decide +kernel)
  have hinS : (Cond.initialized "java/lang/String").before #[Value.ref b] s = true := ht 119 (by decide +kernel)
  have hinT : (Cond.initialized Bundle.tN).before #[Value.ref b] s = true := ht 125 (by decide +kernel)
  have hzX := va_Zof (ht (w := .laysStatic "GluedPaper" "STEP_X" "[I") 555 (by decide +kernel)) hini tx1 hA
  have hzY := va_Zof (ht (w := .laysStatic "GluedPaper" "STEP_Y" "[I") 557 (by decide +kernel)) hini ty1 hA
  have hzC := va_Zof (ht (w := .laysStatic "java/lang/String" "COMPACT_STRINGS" "Z") 728 (by decide +kernel)) hinS (va_eqi (z := 1) (hs _ (by decide +kernel))) hA
  have hoS := va_Oof hS0 hS hA
  have hfC : va_OF "java/lang/String" "coder" "B" (.int 0) aS (fun q : Nat => s.heap.size ≤ q) s s.heap := vk_OFof hS (va_eqt (z := 0) (hs _ (by decide +kernel))) hA
  have hfV : va_OF "java/lang/String" "value" "[B" (.ref tV) aS (fun q : Nat => s.heap.size ≤ q) s s.heap := vk_OFof hS tv1 hA
  have hq1 : vx_Zq Bundle.tN "UNASSIGNED_STACK" Bundle.steD (fun q : Nat => s.heap.size ≤ q) s s.heap := vx_Zqof (ht (w := .laysStatic Bundle.tN "UNASSIGNED_STACK" Bundle.steD) 1149 (by decide +kernel)) hinT (hs _ (by decide +kernel)) hA
  have hq2 : vx_Zq Bundle.tN "SUPPRESSED_SENTINEL" Bundle.listD (fun q : Nat => s.heap.size ≤ q) s s.heap := vx_Zqof (ht (w := .laysStatic Bundle.tN "SUPPRESSED_SENTINEL" Bundle.listD) 1151 (by decide +kernel)) hinT (hs _ (by decide +kernel)) hA
  obtain ⟨scr, x1, x2, x3, x4, x5⟩ := hX
  refine ⟨(l, (dC, dI), fun t => match t with | 0 => c0 | 1 => cJ | 2 => cB | 3 => cC | 4 => cZ | 5 => cR | _ => cQ, fun i => match i with | 0 => b | 1 => tX | 2 => tY | 3 => aS | 4 => tV | 5 => a5 | 6 => a6 | 7 => a7 | _ => a8, s.heap.size, L, xs), rfl, rfl, rfl, rfl, rfl, ?_, ?_, ?_, ho6⟩
  · refine ⟨hcl, fun k q hk => ?_⟩
    match k, hk with
    | 0, hk => cases hk; exact ⟨hI1, hI2⟩
    | 1, hk => cases hk; exact ⟨hJ1, hJ2⟩
    | 2, hk => cases hk; exact ⟨hB1, hB2⟩
    | 3, hk => cases hk; exact ⟨hC1, hC2⟩
    | 4, hk => cases hk; exact ⟨hZ1, hZ2⟩
    | 5, hk => cases hk; exact ⟨fun N z => ⟨(fun k h => (by cases h)), kR, r3, c0, r4⟩, r5⟩
    | 6, hk => cases hk; exact ⟨fun N z => ⟨(fun k h => (by cases h)), kQ', q3, c1, q4⟩, kQ', c1, q3, q4, q1, q5⟩
    | k + 7, hk => simp at hk
  · refine ⟨⟨scr, x1, x2, x3, Nat.le_of_eq x4.symm, by rw [x4]; rfl, x5, hA b hbl⟩, hzX, tx2, hzY, ty2, hzC, hoS, hfC, hfV, tv2, fun q hq => ?_, fun q hq => ?_, fun q hq => ?_, hq1, hq2, kR, r3, r4⟩
    · simp only [zstr, List.mem_cons, List.not_mem_nil, or_false] at hq
      rcases hq with rfl | rfl | rfl | rfl | rfl
      · exact vk_R.of (ht 714 (by decide +kernel)) hS
      · exact vk_R.of (ht 1161 (by decide +kernel)) h5
      · exact vk_R.of (ht 1187 (by decide +kernel)) h6
      · exact vk_R.of (ht 1199 (by decide +kernel)) h7
      · exact vk_R.of (ht 1200 (by decide +kernel)) h8
    · simp only [znF, List.mem_cons, List.not_mem_nil, or_false] at hq
      rcases hq with rfl | rfl | rfl | rfl
      · exact va_Nw.of rfl (ht 554 (by decide +kernel))
      · exact va_Nw.of rfl (ht 556 (by decide +kernel))
      · exact va_Nw.of rfl (ht 1070 (by decide +kernel))
      · exact va_Nw.of rfl (ht 1071 (by decide +kernel))
    · simp only [znM, List.mem_cons, List.not_mem_nil, or_false] at hq
      rcases hq with rfl | rfl | rfl | rfl | rfl | rfl | rfl | rfl | rfl
      · exact va_Nw.of rfl (ht 140 (by decide +kernel))
      · exact va_Nw.of rfl (ht 173 (by decide +kernel))
      · exact va_Nw.of rfl (ht 205 (by decide +kernel))
      · exact va_Nw.of rfl (ht 259 (by decide +kernel))
      · exact va_Nw.of rfl (ht 279 (by decide +kernel))
      · exact va_Nw.of rfl (ht 303 (by decide +kernel))
      · exact va_Nw.of rfl (ht 341 (by decide +kernel))
      · exact va_Nw.of rfl (ht 379 (by decide +kernel))
      · exact va_Nw.of rfl (ht 517 (by decide +kernel))
  · intro w hw
    simp only [nsBad, List.mem_cons, List.not_mem_nil, or_false] at hw
    rcases hw with rfl | rfl | rfl | rfl
    · exact va_Nw.of rfl (ht 1126 (by decide +kernel))
    · exact va_Nw.of rfl (ht 1128 (by decide +kernel))
    · exact va_Nw.of rfl (ht 1130 (by decide +kernel))
    · exact va_Nw.of rfl (ht 1124 (by decide +kernel))
