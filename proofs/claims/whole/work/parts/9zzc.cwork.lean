/-! ===== the class's Unfolder.work ===== -/
theorem sp_fillL {g : GV} {d o n : Nat} {v : Int64} {σ : PS} (hL : Lay σ) (hk : kd σ o = some (.inr (1, n))) (hn : n < 1000000) :
    CJ7_fill_d0a16 g d [.ref o, .long v] σ (fun s => (∀ i, i < n → ml s o i = v) ∧ Ch (fun _ _ => False) (fun a _ => a = o) σ s) := by
  generalize hP : (fun (s : PS) => (∀ i, i < n → ml s o i = v) ∧ Ch (fun _ _ => False) (fun a _ => a = o) σ s) = P
  have loop : ∀ (z i : Nat) (s : PS), i + z = n → Ch (fun _ _ => False) (fun a _ => a = o) σ s → (∀ j, j < i → ml s o j = v) → VJ7_fill_d0a16 g d P 6 [some (.ref o), some (.long v), none, some (.int (nI i)), some (.int (nI n))] [] s := by
    intro z
    induction z with
    | zero =>
      intro i s hz c h
      have : i = n := by omega
      subst this
      refine vcJ7_fill_d0a16_6 (c.lay hL) o i (by rw [c.1.1]; exact hk) _ _ _ ⟨fun _ => ?_, fun q => absurd (Int32.le_refl _) q⟩
      rw [← hP]
      exact ⟨h, c⟩
    | succ z ih =>
      intro i s hz c h
      refine vcJ7_fill_d0a16_6 (c.lay hL) o n (by rw [c.1.1]; exact hk) _ _ _ ⟨fun q => ?_, fun _ => ?_⟩
      · rw [zLE (by omega) (by omega)] at q
        omega
      rw [zIN (by omega) (by omega), zCL (by omega)]
      refine ⟨by omega, fun s4 e4 x6 e6 => ?_⟩
      rw [inc e6]
      refine ih (i + 1) s4 (by omega) (by rw [e4]; exact c.sj rfl) (fun j hj => ?_)
      rw [e4, ml_sj]
      by_cases e : j = i
      · rw [if_pos ⟨rfl, e⟩]
      · rw [if_neg (fun w => e w.2)]; exact h j (by omega)
  refine vcJ7_fill_d0a16 hL o n hk _ (fun x1 e1 => ?_)
  subst e1
  exact loop n 0 σ (by omega) Ch.rf (fun j hj => by omega)
noncomputable def trU (f : Nat → Nat) (n : Nat) : StU := srch f n (jl f (4 * n)) [] (0, 0, [])
def UK1 (s : PS) (f : Nat → Nat) (n : Nat) : Prop := mi s 149 2 = nI (trU f n).1 ∧ mi s 149 3 = nI (trU f n).2.1 ∧ mi s 149 4 = nI (trU f n).2.2.length
abbrev chUn : Nat → Nat → Prop := fun a i => a = 149 ∧ (1 ≤ i ∧ i ≤ 4 ∨ i = 7 ∨ i = 14) ∨ 150 ≤ a ∧ a ≤ 152 ∨ 154 ≤ a ∧ a ≤ 165
theorem sp_work9 {g : GV} {d n : Nat} {f : Nat → Nat} {σ : PS} (hL : Lay σ) (hn0 : 0 < n) (hn8 : n ≤ 8) (hB : BD σ 129 n f) (hff : ∀ q, q < 4 * n → f (f q) = q) (hU : ¬ mi σ 149 1 = 0 → UK1 σ f n) :
    CX9_work g (d + 20) [.ref 149] σ (fun s => UK1 s f n ∧ ¬ mi s 149 1 = 0 ∧ Ch chUn chKe σ s) := by
  generalize hP : (fun (s : PS) => UK1 s f n ∧ ¬ mi s 149 1 = 0 ∧ Ch chUn chKe σ s) = P
  obtain ⟨b1, b2, b3⟩ := id hB
  have hf : ∀ q, q < 4 * n → f q < 4 * n := fun q hq => (b3 q hq).1
  refine vcX9_work hL ⟨fun hk => ?_, fun hk => ⟨fun _ s1 e1 s3 e3 s5 e5 s7 e7 => ?_, fun q => absurd (by rw [b1, lit32 8, zLE (by omega) (by omega)]; exact hn8) q⟩⟩
  · rw [← hP]
    exact ⟨hU hk, hk, Ch.rf⟩
  have c7 : Ch (fun a i => a = 149 ∧ 1 ≤ i ∧ i ≤ 4) noL σ s7 := by
    rw [e7, e5, e3, e1]
    exact (((Ch.rf.si (by omega)).si (by omega)).si (by omega)).si (by omega)
  have g1 : mi s7 149 1 = 1 := by rw [e7, mi_si, if_neg (by omega), e5, mi_si, if_neg (by omega), e3, mi_si, if_neg (by omega), e1, mi_si, if_pos ⟨rfl, rfl⟩]
  have g2 : mi s7 149 2 = nI 0 := by rw [e7, mi_si, if_neg (by omega), e5, mi_si, if_neg (by omega), e3, mi_si, if_pos ⟨rfl, rfl⟩]; rfl
  have g3 : mi s7 149 3 = nI 0 := by rw [e7, mi_si, if_neg (by omega), e5, mi_si, if_pos ⟨rfl, rfl⟩]; rfl
  have g4 : mi s7 149 4 = nI 0 := by rw [e7, mi_si, if_pos ⟨rfl, rfl⟩]; rfl
  have hL7 := c7.lay hL
  refine Ct.imp (sp_fillL hL7 (kd_166 hL7) (by omega)) (fun r s9 w => ?_)
  obtain ⟨rfl, f9, c9⟩ := w
  refine ⟨rfl, c9.fr, ?_⟩
  have c9' : Ch chUn chKe σ s9 := (c7.mono (fun a k h => by omega) (fun _ _ h => h.elim)).trans (c9.mono (fun _ _ h => h.elim) (fun _ _ h => h))
  -- the search, over what stands then
  have go : ∀ s : PS, Ch (fun a _ => a = 154) noL s9 s → (∀ i, i < n → mi s 154 i = nI i) → CX9_listPairs g (d + 19) [.ref 149] s (fun (s11 : PS) => Fr s s11 ∧ CX9_search g (d + 19) [.ref 149, .int 0, .int 0] s11 (fun (s13 : PS) => Fr s11 s13 ∧ P s13)) := by
    intro s c hr
    have cs : Ch chUn chKe σ s := c9'.trans (c.mono (fun a k h => by omega) (fun _ _ h => h.elim))
    have hLs := cs.lay hL
    refine Ct.imp (sp_listPairs hLs (hB.ch' cs (fun a i h1 h2 => by omega)) hn8 hff) (fun r s11 w => ?_)
    obtain ⟨rfl, k1, k2, c11⟩ := w
    refine ⟨rfl, c11.fr, ?_⟩
    have d11 := cs.trans (c11.mono (Qm := chUn) (Ql := chKe) (fun a k h => by omega) (fun _ _ h => h.elim))
    have hlen := jl_len hf hff
    have hS0 : StC s11 n (0, 0, []) := by
      refine ⟨by rw [c11.i (by omega), c.i (by omega), c9.i (fun h => h)]; exact g2, by rw [c11.i (by omega), c.i (by omega), c9.i (fun h => h)]; exact g3, by rw [c11.i (by omega), c.i (by omega), c9.i (fun h => h)]; exact g4, ⟨List.nodup_nil, fun s h => (nomatch h)⟩, fun _ => none, fun p hp => ?_, ht_0⟩
      rw [c11.l (fun h => h), c.l (fun h => h)]
      exact f9 p hp
    have key := sp_search9 (g := g) (d := d + 17 - (jl f (4 * n)).length) (J := jl f (4 * n)) hn0 hn8 hf hff (by omega) (fun i q hq => by
      have hm := List.mem_of_getElem? hq
      unfold jl at hm
      rw [List.mem_filter, List.mem_range] at hm
      exact ⟨hm.1, of_decide_eq_true hm.2⟩) (jl f (4 * n)).length 0 [] (0, 0, []) s11 (by omega) (d11.lay hL) (hB.ch' d11 (fun a i h1 h2 => by omega)) k1 k2 True.intro (by show 0 + 1 ≤ n; omega) (fun i hi => by
        show mi s11 154 i = nI i
        rw [c11.i (by omega)]
        exact hr i hi) hS0
    rw [show d + 17 - (jl f (4 * n)).length + (jl f (4 * n)).length + 2 = d + 19 by omega] at key
    refine Ct.imp key (fun r s13 w => ?_)
    obtain ⟨rfl, m1, m2, c13⟩ := w
    refine ⟨rfl, c13.fr, ?_⟩
    rw [← hP]
    refine ⟨⟨m1.1, m1.2.1, m1.2.2.1⟩, ?_, d11.trans (c13.mono (fun a k h => by rw [List.length_nil] at h; omega) (fun _ _ h => h))⟩
    rw [c13.i (by rw [List.length_nil]; omega), c11.i (by omega), c.i (by omega), c9.i (fun h => h), g1]
    decide
  have first : ∀ (z k : Nat) (s : PS), k + z = n → Ch (fun a _ => a = 154) noL s9 s → (∀ i, i < k → mi s 154 i = nI i) → VX9_work g (d + 19 + 1) P 50 [some (.ref 149), some (.int (nI k))] [] s := by
    intro z
    induction z with
    | zero =>
      intro k s hz c h
      have : k = n := by omega
      subst this
      have cs : Ch chUn chKe σ s := c9'.trans (c.mono (fun a k h => by omega) (fun _ _ h => h.elim))
      refine vcX9_work_50 (cs.lay hL) _ ⟨fun _ => go s c h, fun q => absurd (by rw [cs.i (by omega), b1]; exact Int32.le_refl _) q⟩
    | succ z ih =>
      intro k s hz c h
      have cs : Ch chUn chKe σ s := c9'.trans (c.mono (fun a k h => by omega) (fun _ _ h => h.elim))
      have hLs := cs.lay hL
      refine vcX9_work_50 hLs _ ⟨fun q => ?_, fun _ => ?_⟩
      · rw [cs.i (by omega), b1, zLE (by omega) (by omega)] at q
        omega
      obtain ⟨r1, r2⟩ := mr153 hLs (show 0 < 8 by omega)
      rw [zCL (by omega)]
      refine ⟨154, r1, 8, r2, by rw [zIN (by omega) (by omega)]; omega, fun s20 e20 x22 e22 => ?_⟩
      rw [inc e22]
      refine ih (k + 1) s20 (by omega) (by rw [e20]; exact c.si rfl) (fun i hi => ?_)
      rw [e20, mi_si]
      by_cases e : i = k
      · rw [if_pos ⟨rfl, e⟩, e]
      · rw [if_neg (fun w => e w.2)]; exact h i (by omega)
  exact first n 0 s9 (by omega) Ch.rf (fun i hi => by omega)
