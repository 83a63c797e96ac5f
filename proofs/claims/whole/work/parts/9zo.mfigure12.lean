/-! ===== the reference's figure ===== -/
abbrev chFgR : Nat → Nat → Prop := fun a i => a = 179 ∧ (i = 0 ∨ i = 1 ∨ 3 ≤ i ∧ i ≤ 6 ∨ 8 ≤ i ∧ i ≤ 10 ∨ i = 20 ∨ i = 21 ∨ i = 34 ∨ i = 35) ∨ 181 ≤ a ∧ a ≤ 188 ∨ 190 ≤ a ∧ a ≤ 202 ∨ a = 207 ∨ a = 208
abbrev chFgS : Nat → Nat → Prop := fun a i => chFgR a i ∨ chSh a i
theorem sp_figure12 {g : GV} {d n E0 : Nat} {x y : Nat → Nat} {L : List Nat} {τ : PS} (hL : Lay τ) (hl : L.length ≤ 1000) (hc : ∀ i, lc L i < 127) (hT : TM τ L) (hF : MF τ n x y E0) :
    CX12_figure g (d + 6) [.ref 179] τ (fun v s => ∃ o, FgA L v o ∧ mi s 179 0 = 0 ∧ TM s [] ∧ (o = none → MF s n x y E0 ∧ Ch chFgR chSl τ s) ∧ ∀ w E, o = some (w, E) → GF w E ∧ MF s (fN w) (fX w) (fY w) E ∧ MH s (fun _ => nm) 0 0 ∧ mi s 179 47 = 0 ∧ Ch chFgS chSl τ s) := by
  generalize hP : (fun (v : Int32) (s : PS) => ∃ o, FgA L v o ∧ mi s 179 0 = 0 ∧ TM s [] ∧ (o = none → MF s n x y E0 ∧ Ch chFgR chSl τ s) ∧ ∀ w E, o = some (w, E) → GF w E ∧ MF s (fN w) (fX w) (fY w) E ∧ MH s (fun _ => nm) 0 0 ∧ mi s 179 47 = 0 ∧ Ch chFgS chSl τ s) = P
  have tm0 : ∀ s : PS, mi s 179 1 = 0 → TM s [] := fun s h => ⟨by rw [h]; rfl, fun i c q => by simp at q⟩
  have mf : ∀ s : PS, Ch chFgR chSl τ s → mi s 179 35 = mi τ 179 35 → (∀ c, c < 10 → mi s 201 c = mi τ 201 c ∧ mi s 202 c = mi τ 202 c) → MF s n x y E0 := by
    intro s c h1 h2
    obtain ⟨⟨f1, f2, f3, f4, f5⟩, f6, f7, f8⟩ := hF
    exact ⟨⟨by rw [h1]; exact f1, f2, f3, fun i hi => by rw [(h2 i (by omega)).1]; exact f4 i hi, fun i hi => by rw [(h2 i (by omega)).2]; exact f5 i hi⟩, by rw [c.i (by omega)]; exact f6, fun j hj => by rw [c.i (by omega), c.i (by omega), c.i (by omega)]; exact f7 j hj, fun q hq => by rw [c.i (by omega)]; exact f8 q hq⟩
  have bad : ∀ (s : PS) (e k : Nat), rdF L = .inr (e, k) → mi s 179 9 = nI (e + 16 * tb L k) → mi s 179 0 = 0 → mi s 179 1 = 0 → Ch chFgR chSl τ s → mi s 179 35 = mi τ 179 35 → (∀ c, c < 10 → mi s 201 c = mi τ 201 c ∧ mi s 202 c = mi τ 202 c) → P (mi s 179 9) s := by
    intro s e k h1 h2 h3 h4 h5 h6 h7
    rw [← hP]
    exact ⟨none, Or.inl ⟨e, k, h1, h2, rfl⟩, h3, tm0 s h4, fun _ => ⟨mf s h5 h6 h7, h5⟩, fun _ _ q => (nomatch q)⟩
  refine vcX12_figure hL (fun s1 e1 => ?_)
  have c1' : Ch (fun a i => a = 179 ∧ i = 0) noL τ s1 := by rw [e1]; exact Ch.rf.si ⟨rfl, rfl⟩
  have c1 : Ch chFgR chSl τ s1 := c1'.mono (fun a k h => by omega) (fun _ _ h => h.elim)
  have z1 : mi s1 179 0 = 0 := by rw [e1, mi_si, if_pos ⟨rfl, rfl⟩]
  have hL1 := c1.lay hL
  refine Ct.imp (sp_readsAll (d := d) hc hl hL1 (hT.ch c1' (by omega) (fun i => by omega))) (fun r s3 q => ?_)
  obtain ⟨v4, rfl, hp, r1, r3, c3⟩ := q
  have c3' := c1.trans (c3.mono (Qm := chFgR) (Ql := chSl) (fun a k h => by omega) (fun _ _ h => h))
  have k3 : mi s3 179 0 = 0 := by rw [c3.i (by omega)]; exact z1
  have o3 : mi s3 179 35 = mi τ 179 35 ∧ ∀ c, c < 10 → mi s3 201 c = mi τ 201 c ∧ mi s3 202 c = mi τ 202 c := ⟨by rw [c3.i (by omega), c1'.i (by omega)], fun c _ => ⟨by rw [c3.i (by omega), c1'.i (by omega)], by rw [c3.i (by omega), c1'.i (by omega)]⟩⟩
  refine ⟨_, rfl, c3.fr, ?_⟩
  rcases hp with ⟨T, N, m, j, C, a1, rfl, a2, a3, a4, a5⟩ | ⟨e, m, a1, rfl, a2⟩
  · refine ⟨fun h => absurd h (by decide), fun _ => ?_⟩
    refine Ct.imp (sp_works (d := d + 1) (c3'.lay hL) a1 a2 a3 a4 a5) (fun r s5 q => ?_)
    obtain ⟨v6, rfl, hp, c5⟩ := q
    have c5' := c3'.trans (c5.mono (Qm := chFgR) (Ql := chSl) (fun a k h => by omega) (fun _ _ h => h.elim))
    have k5 : mi s5 179 0 = 0 := by rw [c5.i (by omega)]; exact k3
    have t5 : mi s5 179 1 = 0 := by rw [c5.i (by omega)]; exact r1
    have u5 : mi s5 179 3 = nI L.length := by rw [c5.i (by omega)]; exact r3
    have o5 : mi s5 179 35 = mi τ 179 35 ∧ ∀ c, c < 10 → mi s5 201 c = mi τ 201 c ∧ mi s5 202 c = mi τ 202 c := ⟨by rw [c5.i (by omega)]; exact o3.1, fun c hc => ⟨by rw [c5.i (by omega)]; exact (o3.2 c hc).1, by rw [c5.i (by omega)]; exact (o3.2 c hc).2⟩⟩
    refine ⟨_, rfl, c5.fr, ?_⟩
    rcases hp with ⟨w, er, rfl, hS⟩ | ⟨e, k, er, rfl, a6⟩
    · refine ⟨fun _ x7 e7 => ?_, fun h => absurd h (by decide)⟩
      rw [o5.1] at e7
      subst e7
      have hcw := rdF_cnt er
      -- what the cells were is kept
      have keep : ∀ (z k : Nat) (u : PS), k + z = 10 → Ch (fun a _ => a = 207 ∨ a = 208) noL s5 u → (∀ c, c < k → mi u 207 c = mi τ 201 c ∧ mi u 208 c = mi τ 202 c) → VX12_figure g (d + 5 + 1) P 31 [some (.ref 179), some (.int (mi τ 179 35)), some (.int (nI k)), none] [] u := by
        intro z
        induction z with
        | zero =>
          intro k u hz c hk
          have hk10 : k = 10 := by omega
          have hku : ∀ c, c < 10 → mi u 207 c = mi τ 201 c ∧ mi u 208 c = mi τ 202 c := fun c hc => hk c (by omega)
          have cu := c5'.trans (c.mono (Qm := chFgR) (Ql := chSl) (fun a k h => by omega) (fun _ _ h => h.elim))
          have hLu := cu.lay hL
          refine vcX12_figure_31 hLu _ _ ⟨fun _ => ?_, fun h => absurd (by rw [lit32 10, zLE (by omega) (by omega)]; omega) h⟩
          refine Ct.imp (sp_lays (d := d + 2) (gr := grd w) hLu (fun k hk => by rw [c.i (by omega)]; exact hS.1 k hk) hcw) (fun r s9 q => ?_)
          obtain ⟨v10, rfl, hMC, ⟨E, hE, rfl⟩, c9⟩ := q
          have d9 := cu.trans (c9.mono (Qm := chFgR) (Ql := chSl) (fun a k h => by omega) (fun _ _ h => h.elim))
          have hL9 := d9.lay hL
          have k9 : mi s9 179 0 = 0 := by rw [c9.i (by omega), c.i (by omega)]; exact k5
          have t9 : mi s9 179 1 = 0 := by rw [c9.i (by omega), c.i (by omega)]; exact t5
          have u9 : mi s9 179 3 = nI L.length := by rw [c9.i (by omega), c.i (by omega)]; exact u5
          have hf16 : fgF (cnt (grd w) 256) (gX (grd w)) (gY (grd w)) E < 16 := fgF_lt _ _ _ E
          refine ⟨_, rfl, c9.fr, ?_⟩
          rw [lit32 0, zLE (by omega) (by omega)]
          refine ⟨fun h0 => ?_, fun h0 s13 e13 => ?_⟩
          · have h0 : fgF (fN w) (fX w) (fY w) E = 0 := Nat.le_zero.mp h0
            have hG := GF.of hcw hE h0
            obtain ⟨g1, g2, g3, g4, g5, g6, g7⟩ := id hG.1
            refine Ct.imp (sp_shapes (d := d + 3) hL9 hMC g3 g4 g5 (by omega)) (fun r s11 q => ?_)
            obtain ⟨rfl, b1, b2, b3, b4, b5, c11⟩ := q
            refine ⟨rfl, c11.fr, ?_⟩
            rw [← hP]
            refine ⟨some (w, E), Or.inr ⟨w, E, er, hcw, hE, Or.inr ⟨h0, rfl, rfl⟩⟩, by rw [c11.i (by omega)]; exact k9, tm0 _ (by rw [c11.i (by omega)]; exact t9), fun q => (nomatch q), fun w' E' q => ?_⟩
            cases q
            refine ⟨hG, b1, ⟨fun e he => by rw [b2 e he]; rfl, by rw [b4]; rfl, by rw [b5]; rfl, fun i hi => by omega, fun j hj => by omega⟩, b3, ?_⟩
            exact (d9.mono (fun a k h => Or.inl h) (fun _ _ h => h)).trans (c11.mono (fun a k h => Or.inr h) (fun _ _ h => h.elim))
          · have c13 : Ch (fun a i => a = 201 ∨ a = 202 ∨ a = 179 ∧ i = 35) noL s9 s13 := by rw [e13]; exact Ch.rf.si (by omega)
            have p13 : mi s13 179 35 = mi τ 179 35 := by rw [e13, mi_si, if_pos ⟨rfl, rfl⟩]
            have back : ∀ (z k : Nat) (t : PS), k + z = 10 → Ch (fun a i => a = 201 ∨ a = 202 ∨ a = 179 ∧ i = 35) noL s9 t → mi t 179 35 = mi τ 179 35 → (∀ c, c < k → mi t 201 c = mi τ 201 c ∧ mi t 202 c = mi τ 202 c) → VX12_figure g (d + 5 + 1) P 83 [some (.ref 179), none, some (.int (nI (fgF (fN w) (fX w) (fY w) E))), some (.int (nI k))] [] t := by
              intro z
              induction z with
              | zero =>
                intro k t hz ct p35 hk
                have hk10 : k = 10 := by omega
                have dt := d9.trans (ct.mono (Qm := chFgR) (Ql := chSl) (fun a k h => by omega) (fun _ _ h => h.elim))
                refine vcX12_figure_83 (dt.lay hL) _ _ ⟨fun _ => ?_, fun h => absurd (by rw [lit32 10, zLE (by omega) (by omega)]; omega) h⟩
                rw [ct.i (by omega), u9, lit32 16, pk_mul, nI_add, ← hP]
                have h0' : ¬ fgF (fN w) (fX w) (fY w) E = 0 := fun q => h0 (Nat.le_of_eq q)
                exact ⟨none, Or.inr ⟨w, E, er, hcw, hE, Or.inl ⟨h0', rfl, rfl⟩⟩, by rw [ct.i (by omega)]; exact k9, tm0 _ (by rw [ct.i (by omega)]; exact t9), fun _ => ⟨mf t dt p35 (fun c hc => hk c (by omega)), dt⟩, fun _ _ q => (nomatch q)⟩
              | succ z ih2 =>
                intro k t hz ct p35 hk
                refine vcX12_figure_83 ((d9.trans (ct.mono (Qm := chFgR) (Ql := chSl) (fun a k h => by omega) (fun _ _ h => h.elim))).lay hL) _ _ ⟨fun h => ?_, fun _ => ?_⟩
                · rw [lit32 10, zLE (by omega) (by omega)] at h
                  omega
                rw [zIN (by omega) (by omega), zCL (by omega)]
                refine ⟨by omega, by omega, fun s27 e27 => ⟨by omega, by omega, fun s31 e31 x33 e33 => ?_⟩⟩
                rw [inc e33]
                have q207 : mi t 207 k = mi τ 201 k := by rw [ct.i (by omega), c9.i (by omega)]; exact (hku k (by omega)).1
                have q208 : mi t 208 k = mi τ 202 k := by rw [ct.i (by omega), c9.i (by omega)]; exact (hku k (by omega)).2
                refine ih2 (k + 1) s31 (by omega) (by rw [e31, e27]; exact (ct.si (by omega)).si (by omega)) (by rw [e31, mi_si, if_neg (by omega), e27, mi_si, if_neg (by omega)]; exact p35) (fun c hc => ?_)
                rw [e31, mi_si, mi_si, if_neg (by omega), e27, mi_si, mi_si, mi_si, if_neg (show ¬ (208 = 201 ∧ k = k) by omega), if_neg (show ¬ (202 = 201 ∧ c = k) by omega)]
                by_cases e : c = k
                · subst e
                  rw [if_pos ⟨rfl, rfl⟩, if_pos ⟨rfl, rfl⟩]
                  exact ⟨q207, q208⟩
                · rw [if_neg (fun q => e q.2), if_neg (fun q => e q.2)]
                  exact hk c (by omega)
            exact back 10 0 s13 rfl c13 p13 (fun c hc => by omega)
        | succ z ih =>
          intro k u hz c hk
          have cu := c5'.trans (c.mono (Qm := chFgR) (Ql := chSl) (fun a k h => by omega) (fun _ _ h => h.elim))
          refine vcX12_figure_31 (cu.lay hL) _ _ ⟨fun h => ?_, fun _ => ?_⟩
          · rw [lit32 10, zLE (by omega) (by omega)] at h
            omega
          rw [zIN (by omega) (by omega), zCL (by omega)]
          refine ⟨by omega, by omega, fun s17 e17 => ⟨by omega, by omega, fun s21 e21 x23 e23 => ?_⟩⟩
          rw [inc e23]
          refine ih (k + 1) s21 (by omega) (by rw [e21, e17]; exact (c.si (Or.inl rfl)).si (Or.inr rfl)) (fun q hq => ?_)
          have m201 : mi u 201 k = mi τ 201 k := by rw [c.i (by omega)]; exact (o5.2 k (by omega)).1
          have m202 : mi u 202 k = mi τ 202 k := by rw [c.i (by omega)]; exact (o5.2 k (by omega)).2
          rw [e21, mi_si, mi_si, if_neg (by omega), e17, mi_si, mi_si, mi_si, if_neg (show ¬ (202 = 207 ∧ k = k) by omega), if_neg (show ¬ (208 = 207 ∧ q = k) by omega), m201, m202]
          by_cases e : q = k
          · subst e
            rw [if_pos ⟨rfl, rfl⟩, if_pos ⟨rfl, rfl⟩]
            exact ⟨rfl, rfl⟩
          · rw [if_neg (fun z => e z.2), if_neg (fun z => e z.2)]
            exact hk q (by omega)
      exact keep 10 0 s5 rfl Ch.rf (fun c hc => by omega)
    · refine ⟨fun h => absurd rfl h, fun _ => bad s5 e k er a6 k5 t5 c5' o5.1 o5.2⟩
  · exact ⟨fun _ => bad s3 e m (rdF_r a1) a2 k3 r1 c3' o3.1 o3.2, fun h => absurd rfl h⟩
