/-! ===== marks of both ===== -/
abbrev MkT := (Nat → Nat) × Nat × Mat
def CMk (σ : PS) (mk : Nat → Option MkT) : Prop := ∀ i, i < 4 → (mk i = none → mi σ 168 i = 0) ∧ ∀ t, mk i = some t → ¬ mi σ 168 i = 0 ∧ RowsF σ (170 + i) t.1 ∧ MA σ (175 + i) 22 t.2.2
def RMk (σ : PS) (mk : Nat → Option MkT) : Prop := ∀ i, i < 4 → (mk i = none → mi σ 229 i = 0) ∧ ∀ t, mk i = some t → ¬ mi σ 229 i = 0 ∧ mi σ 230 i = nI (fN t.1) ∧ (∀ c, c < fN t.1 → mi σ 231 (10 * i + c) = nI (fX t.1 c) ∧ mi σ 232 (10 * i + c) = nI (fY t.1 c)) ∧ ∀ e, e < 24 → mi σ 233 (24 * i + e) = oI (t.2.2 e)
def MkG (mk : Nat → Option MkT) : Prop := ∀ i t, mk i = some t → GF t.1 t.2.1 ∧ Inv t.2.1 t.2.2 ∧ A4 t.2.1 (cl t.2.1 t.2.2 t.2.1) (qt (fN t.1) (fX t.1) (fY t.1) t.2.1)
def mkS (mk : Nat → Option MkT) (i : Nat) (t : MkT) : Nat → Option MkT := fun j => if j = i then some t else mk j
theorem CMk.ch {σ s : PS} {mk : Nat → Option MkT} {Pm Pl : Nat → Nat → Prop} (h : CMk σ mk) (c : Ch Pm Pl σ s) (hn : ∀ a i, 168 ≤ a → a ≤ 178 → ¬ Pm a i) : CMk s mk := fun i hi =>
  ⟨fun e => by rw [c.i (hn 168 i (by omega) (by omega))]; exact (h i hi).1 e, fun t e => ⟨by rw [c.i (hn 168 i (by omega) (by omega))]; exact ((h i hi).2 t e).1, ((h i hi).2 t e).2.1.ch c (fun k => hn _ k (by omega) (by omega)), ((h i hi).2 t e).2.2.ch c (fun k _ => hn _ k (by omega) (by omega))⟩⟩
theorem RMk.ch {σ s : PS} {mk : Nat → Option MkT} {Pm Pl : Nat → Nat → Prop} (h : RMk σ mk) (c : Ch Pm Pl σ s) (hn : ∀ a i, 229 ≤ a → a ≤ 233 → ¬ Pm a i) : RMk s mk := fun i hi =>
  ⟨fun e => by rw [c.i (hn 229 i (by omega) (by omega))]; exact (h i hi).1 e, fun t e => ⟨by rw [c.i (hn 229 i (by omega) (by omega))]; exact ((h i hi).2 t e).1, by rw [c.i (hn 230 i (by omega) (by omega))]; exact ((h i hi).2 t e).2.1, fun k hk => by rw [c.i (hn 231 _ (by omega) (by omega)), c.i (hn 232 _ (by omega) (by omega))]; exact ((h i hi).2 t e).2.2.1 k hk, fun k hk => by rw [c.i (hn 233 _ (by omega) (by omega))]; exact ((h i hi).2 t e).2.2.2 k hk⟩⟩
theorem mr169 {s : PS} (h : Lay s) {i : Nat} (hi : i < 4) : mr s 169 i = some (170 + i) ∧ kd s (170 + i) = some (.inr (0, 16)) := by
  rcases four hi with rfl | rfl | rfl | rfl
  · exact ⟨mr_169_0 h, kd_170 h⟩
  · exact ⟨mr_169_1 h, kd_171 h⟩
  · exact ⟨mr_169_2 h, kd_172 h⟩
  · exact ⟨mr_169_3 h, kd_173 h⟩
theorem mr174 {s : PS} (h : Lay s) {i : Nat} (hi : i < 4) : mr s 174 i = some (175 + i) ∧ kd s (175 + i) = some (.inr (0, 22)) := by
  rcases four hi with rfl | rfl | rfl | rfl
  · exact ⟨mr_174_0 h, kd_175 h⟩
  · exact ⟨mr_174_1 h, kd_176 h⟩
  · exact ⟨mr_174_2 h, kd_177 h⟩
  · exact ⟨mr_174_3 h, kd_178 h⟩
abbrev chMkC : Nat → Nat → Prop := fun a _ => 168 ≤ a ∧ a ≤ 178
theorem sp_lay6 {g : GV} {d i r n2 : Nat} {t : MkT} {mk : Nat → Option MkT} {σ : PS} (hL : Lay σ) (hi : i < 4) (hC : CMk σ mk) (hR : RowsF σ 21 t.1) (hM : MA σ r 22 t.2.2) (kr : kd σ r = some (.inr (0, n2))) (hn2 : 22 ≤ n2) (hr : r < 168) :
    CX6_lay g d [.ref 167, .int (nI i), .ref 21, .ref r] σ (fun s => CMk s (mkS mk i t) ∧ Ch chMkC noL σ s) := by
  refine vcX6_lay hL _ 21 16 (kd_21 hL) r n2 kr ?_
  rw [zIN (by omega) (by omega), zCL (by omega), cl0, cl16, cl22]
  refine ⟨hi, fun s2 e2 => ?_⟩
  have c2 : Ch chMkC noL σ s2 := by rw [e2]; exact Ch.rf.si (by omega)
  have hL2 := c2.lay hL
  obtain ⟨m1, m2⟩ := mr169 hL2 hi
  refine ⟨hi, 170 + i, m1, 16, m2, ⟨by decide, by decide, by decide, by omega, by omega⟩, fun s10 e10 => ?_⟩
  have c10 : Ch chMkC noL σ s10 := c2.trans (by rw [e10]; exact Ch.rf.sa (fun k => Or.inl (by omega)))
  have hL10 := c10.lay hL
  obtain ⟨m3, m4⟩ := mr174 hL10 hi
  refine ⟨hi, 175 + i, m3, 22, m4, ⟨by decide, by decide, by decide, by omega, by omega⟩, fun s18 e18 => ?_⟩
  have c18 : Ch chMkC noL σ s18 := c10.trans (by rw [e18]; exact Ch.rf.sa (fun k => Or.inl (by omega)))
  refine ⟨fun j hj => ⟨fun e => ?_, fun u e => ?_⟩, c18⟩
  · unfold mkS at e
    by_cases q : j = i
    · rw [if_pos q] at e; cases e
    · rw [if_neg q] at e
      rw [e18, mi_sa, if_neg (by omega), e10, mi_sa, if_neg (by omega), e2, mi_si, if_neg (by omega)]
      exact (hC j hj).1 e
  · unfold mkS at e
    by_cases q : j = i
    · rw [if_pos q] at e
      cases e
      subst q
      refine ⟨?_, fun k hk => ⟨?_, (hR k hk).2⟩, fun k hk => ?_⟩
      · rw [e18, mi_sa, if_neg (by omega), e10, mi_sa, if_neg (by omega), e2, mi_si, if_pos ⟨rfl, rfl⟩]
        decide
      · rw [e18, mi_sa, if_neg (by omega), e10, mi_sa, if_pos rfl, cpy0 hk, e2, mi_si, if_neg (by omega)]
        exact (hR k hk).1
      · rw [e18, mi_sa, if_pos rfl, cpy0 hk, e10, mi_sa, if_neg (by omega), e2, mi_si, if_neg (by omega)]
        exact hM k hk
    · rw [if_neg q] at e
      obtain ⟨a1, a2, a3⟩ := (hC j hj).2 u e
      refine ⟨?_, fun k hk => ⟨?_, (a2 k hk).2⟩, fun k hk => ?_⟩
      · rw [e18, mi_sa, if_neg (by omega), e10, mi_sa, if_neg (by omega), e2, mi_si, if_neg (by omega)]
        exact a1
      · rw [e18, mi_sa, if_neg (by omega), e10, mi_sa, if_neg (by omega), e2, mi_si, if_neg (by omega)]
        exact (a2 k hk).1
      · rw [e18, mi_sa, if_neg (by omega), e10, mi_sa, if_neg (by omega), e2, mi_si, if_neg (by omega)]
        exact a3 k hk
/-- what comes of MARK: refused, laid, gone back to -/
def MkP (mk : Nat → Option MkT) (a b v : Int32) (N : Prop) (L : Nat → Prop) (B : MkT → Prop) : Prop :=
  ((∀ i, i < 4 → a = nI i → ¬ b = 0 ∧ mk i = none) ∧ v = 0 ∧ N) ∨ (∃ i, i < 4 ∧ a = nI i ∧ b = 0 ∧ v = 1 ∧ L i) ∨ (∃ i t, i < 4 ∧ a = nI i ∧ ¬ b = 0 ∧ mk i = some t ∧ v = 1 ∧ B t)
theorem sp_mark11 {g : GV} {d n E at' last : Nat} {x y : Nat → Nat} {rw' ρ : Nat → Nat} {S : Nat → Mat} {mk : Nat → Option MkT} {a b : Int32} {σ : PS} (hL : Lay σ) (hC : CA σ n x y E ρ S at' last) (hal : at' ≤ last) (hl : last ≤ 40) (hR : RowsF σ 21 rw') (hM : CMk σ mk) (hG : MkG mk) :
    CX11_mark g (d + 4) [.ref 10, .int a, .int b] σ (fun v s => MkP mk a b v (s = σ) (fun i => CMk s (mkS mk i (rw', E, S at')) ∧ Ch chMkC noL σ s) (fun t => CA s (fN t.1) (fX t.1) (fY t.1) t.2.1 ρ (fun _ => t.2.2) 0 0 ∧ RowsF s 21 t.1 ∧ mi s 87 1 = 0 ∧ mi s 133 9 = 0 ∧ mi s 144 3 = -1 ∧ mi s 149 1 = 0 ∧ Ch chTk noL σ s)) := by
  obtain ⟨hF, c2, c3, c4, c5, -⟩ := id hC
  refine vcX11_mark hL _ _ ⟨fun h => Or.inl ⟨fun i hi e => ?_, rfl, rfl⟩, fun h => ⟨fun h4 => ?_, fun h4 => Or.inl ⟨fun i hi e => ?_, rfl, rfl⟩⟩⟩
  · rw [e, lit32 0, zLT (by omega) (by omega)] at h
    omega
  · obtain ⟨i, hi, rfl⟩ := zNEG (n := 4) (by omega) h (by rw [← lit32 4]; exact Int32.not_le.mpr h4)
    rw [zIN (by omega) (by omega), zCL (by omega)]
    refine ⟨fun hb => ⟨hi, fun hm => ⟨hi, 170 + i, (mr169 hL hi).1, ?_⟩, fun hm => Or.inl ⟨fun j hj e => ?_, rfl, rfl⟩⟩, fun hb => ?_⟩
    · cases hmk : mk i with
      | none => exact absurd ((hM i hi).1 hmk) hm
      | some t =>
        obtain ⟨q1, q2, q3⟩ := (hM i hi).2 t hmk
        obtain ⟨g1, g2, g3⟩ := hG i t hmk
        refine Ct.imp (sp_takeFigure (d := d) hL (mr169 hL hi).2 (Nat.le_refl _) (by omega) q2 g1 c2) (fun r s5 w => ?_)
        obtain ⟨rfl, k1, k2, k3, k4, k5, k6, k7⟩ := w
        have hL5 := k7.lay hL
        obtain ⟨t1, t2, t3, t4, t5, -⟩ := id k1
        obtain ⟨r1, r2, r3⟩ := t2.1 0 (by omega)
        have q3' := q3.ch k7 (fun k hk => by unfold chTk chF chSt; omega)
        refine ⟨rfl, k7.fr, hi, 175 + i, (mr174 hL5 hi).1, Ct.imp (sp_mates hL5 t3 (by omega) r1) (fun r s10 w => ?_)⟩
        obtain ⟨v10, rfl, rfl, rfl⟩ := w
        rw [cl0, cl22]
        refine ⟨_, rfl, Fr.rf, 22, (mr174 hL5 hi).2, 22, kdRow hL5 r2 r3, ⟨by decide, by decide, by decide, by omega, by omega⟩, fun s17 e17 => ?_⟩
        have c17 : Ch (fun a _ => a = ρ 0) noL s10 s17 := by rw [e17]; exact Ch.rf.sa (fun k => Or.inl rfl)
        have hL17 := c17.lay hL5
        have hR17 : RowsA s17 ρ := ⟨fun j hj => by rw [c17.1.2]; exact t2.1 j hj, t2.2⟩
        refine Ct.imp (sp_settleA (d := d + 1) (S := fun _ => t.2.2) hL17 g1.1 (t1.ch c17 (fun a j _ _ => by omega)) hR17 (by rw [c17.i (by omega)]; exact t3) (by rw [c17.i (by omega)]; exact t4) (fun j hj e he => ?_) (Nat.le_refl _) (by omega) (fun j hj => ⟨g2, g3⟩)) (fun r s19 w => ?_)
        · have : j = 0 := by omega
          subst this
          rw [e17, mi_sa, if_pos rfl, cpy0 he]
          exact q3' e he
        · obtain ⟨rfl, w1, w2, w3, w4⟩ := w
          refine ⟨rfl, w4.fr, Or.inr (Or.inr ⟨i, t, hi, rfl, hb, hmk, rfl, w1, (k2.ch c17 (fun j => by omega)).ch w4 (fun j => by unfold chSt; omega), ?_, ?_, w2, w3, (k7.trans (c17.mono (fun a k h => Or.inr (Or.inr (Or.inl ⟨by omega, by omega⟩))) (fun _ _ h => h))).trans (w4.mono (fun a k h => Or.inr (Or.inr (Or.inr (Or.inr (Or.inr h))))) (fun _ _ h => h))⟩)⟩
          · rw [w4.i (by unfold chSt; omega), c17.i (by omega)]; exact k3
          · rw [w4.i (by unfold chSt; omega), c17.i (by omega)]; exact k4
    · rw [zEQ (by omega) (by omega)] at e
      subst e
      refine ⟨hb, ?_⟩
      cases hmk : mk i with
      | none => rfl
      | some t => exact absurd hm ((hM i hi).2 t hmk).1
    · obtain ⟨r1, r2, r3⟩ := c2.1 at' (by omega)
      refine Ct.imp (sp_mates hL c3 (by omega) r1) (fun r s21 w => ?_)
      obtain ⟨v21, rfl, rfl, rfl⟩ := w
      refine ⟨_, rfl, Fr.rf, Ct.imp (sp_lay6 (t := (rw', E, S at')) hL hi hM hR (c5 at' hal) (kdRow hL r2 r3) (by omega) (by omega)) (fun r s23 w => ?_)⟩
      obtain ⟨rfl, k1, k2⟩ := w
      exact ⟨rfl, k2.fr, Or.inr (Or.inl ⟨i, hi, rfl, hb, rfl, k1, k2⟩)⟩
  · exfalso
    refine h4 ?_
    rw [e, lit32 4, zLT (by omega) (by omega)]
    exact hi
abbrev chMk1 : Nat → Nat → Prop := fun a _ => 229 ≤ a ∧ a ≤ 233
abbrev chMkR : Nat → Nat → Prop := fun a i => a = 179 ∧ i = 0 ∨ 229 ≤ a ∧ a ≤ 233
abbrev chMkB : Nat → Nat → Prop := fun a i => a = 179 ∧ (i = 0 ∨ i = 35) ∨ a = 201 ∨ a = 202 ∨ a = 229 ∨ chSh a i
theorem sp_mark12 {g : GV} {d E at' last : Nat} {rw' : Nat → Nat} {S : Nat → Mat} {mk : Nat → Option MkT} {a b : Int32} {σ : PS} (hL : Lay σ) (hF : MF σ (fN rw') (fX rw') (fY rw') E) (hH : MH σ S at' last) (hM : RMk σ mk) (hG : MkG mk) :
    CX12_mark g (d + 3) [.ref 179, .int a, .int b] σ (fun v s => mi s 179 0 = 0 ∧ MkP mk a b v (s = si σ 179 0 0) (fun i => RMk s (mkS mk i (rw', E, S at')) ∧ Ch chMkR noL σ s) (fun t => MF s (fN t.1) (fX t.1) (fY t.1) t.2.1 ∧ MH s (fun _ => t.2.2) 0 0 ∧ mi s 179 47 = 0 ∧ RMk s mk ∧ Ch chMkB noL σ s)) := by
  have hn := hF.1.2.1
  generalize hP : (fun (v : Int32) (s : PS) => mi s 179 0 = 0 ∧ MkP mk a b v (s = si σ 179 0 0) (fun i => RMk s (mkS mk i (rw', E, S at')) ∧ Ch chMkR noL σ s) (fun t => MF s (fN t.1) (fX t.1) (fY t.1) t.2.1 ∧ MH s (fun _ => t.2.2) 0 0 ∧ mi s 179 47 = 0 ∧ RMk s mk ∧ Ch chMkB noL σ s)) = P
  refine vcX12_mark hL _ _ (fun s1 e1 => ?_)
  have c1 : Ch (fun a k => a = 179 ∧ k = 0) noL σ s1 := by rw [e1]; exact Ch.rf.si ⟨rfl, rfl⟩
  have hL1 := c1.lay hL
  have z1 : mi s1 179 0 = 0 := bad0 e1
  refine Ct.imp (sp_within hL1) (fun r s1 z => ?_)
  obtain ⟨v, rfl, hv, rfl⟩ := z
  refine ⟨_, rfl, Fr.rf, fun h => ?_, fun h => ?_⟩
  · rw [i01 hv] at h
    rw [← hP]
    refine ⟨z1, Or.inl ⟨fun i hi e => absurd ?_ h, rfl, e1⟩⟩
    rw [e, lit32 0, lit32 3, zLE (by omega) (by omega), zLE (by omega) (by omega)]
    omega
  rw [i01 hv, Classical.not_not] at h
  obtain ⟨i, i1, i2, rfl⟩ := wBt (lo := 0) (hi := 3) (by omega) (by omega) (Int32.not_lt.mpr h.1) (Int32.not_lt.mpr h.2)
  have hi : i < 4 := by omega
  have hM1 := hM.ch c1 (fun a i h1 h2 => by omega)
  have hF1 := hF.ch c1 (by omega) (by omega) (fun a i h1 h2 => by omega)
  have hH1 := hH.ch c1 (by omega) (by omega) (fun i => by omega) (fun i => by omega) (fun i => by omega)
  rw [zIN (by omega) (by omega), zCL (by omega)]
  refine ⟨fun hb => ⟨hi, fun s6 e6 => ⟨fun _ => ⟨hi, fun s9 e9 => ?_⟩, fun h => absurd hb h⟩⟩, fun hb => ⟨hi, fun hl => ⟨hi, fun s16 e16 => ⟨fun h => absurd h hb, fun _ => ⟨hi, fun s22 e22 => ?_⟩⟩⟩, fun hl => ?_⟩⟩
  · -- laid
    have c6 : Ch chMk1 noL s1 s6 := by rw [e6]; exact Ch.rf.si ⟨by omega, by omega⟩
    have c9 : Ch chMk1 noL s1 s9 := c6.trans (by rw [e9]; exact Ch.rf.si ⟨by omega, by omega⟩)
    have hn1 : mi s1 179 35 = nI (fN rw') := hF1.1.1
    have l9 : mi s9 229 i = 1 := by rw [e9, mi_si, if_neg (by omega), e6, mi_si, if_pos ⟨rfl, rfl⟩]; decide
    have n9 : mi s9 230 i = nI (fN rw') := by rw [e9, mi_si, if_pos ⟨rfl, rfl⟩, c6.i (by unfold chMk1; omega)]; exact hn1
    have o9 : ∀ a j, 229 ≤ a → ¬ (a = 229 ∧ j = i) → ¬ (a = 230 ∧ j = i) → mi s9 a j = mi s1 a j := fun a j h1 h2 h3 => by rw [e9, mi_si, if_neg h3, e6, mi_si, if_neg h2]
    -- the glued edges
    have glu : ∀ (z k : Nat) (τ : PS), z = 24 - k → k ≤ 24 → Ch chMk1 noL s1 τ → (∀ a j, 229 ≤ a → a ≤ 230 → mi τ a j = mi s9 a j) → (∀ c, c < 10 → mi τ 231 (10 * i + c) = mi s1 201 c ∧ mi τ 232 (10 * i + c) = mi s1 202 c) → (∀ a j, (a = 231 ∨ a = 232) → (j < 10 * i ∨ 10 * i + 10 ≤ j) → mi τ a j = mi s1 a j) → (∀ e, e < k → mi τ 233 (24 * i + e) = oI (S at' e)) → (∀ j, j < 24 * i ∨ 24 * i + 24 ≤ j → mi τ 233 j = mi s1 233 j) → VX12_mark g (d + 3) P 195 [some (.ref 179), some (.int (nI i)), none, some (.int (nI k))] [] τ := by
      intro z
      induction z with
      | zero =>
        intro k τ hz hk c h1 h2 h3 h4 h5
        have : k = 24 := by omega
        subst this
        refine vcX12_mark_195 (c.lay hL1) _ _ ⟨fun _ => ?_, fun h => absurd (by rw [lit32 24, zLE (by omega) (by omega)]; omega) h⟩
        rw [← hP]
        refine ⟨?_, Or.inr (Or.inl ⟨i, hi, rfl, hb, rfl, fun j hj => ⟨fun e => ?_, fun u e => ?_⟩, (c1.mono (fun a k h => Or.inl h) (fun _ _ h => h)).trans (c.mono (fun a k h => Or.inr h) (fun _ _ h => h))⟩)⟩
        · rw [c.i (by unfold chMk1; omega)]; exact z1
        · unfold mkS at e
          by_cases q : j = i
          · rw [if_pos q] at e; cases e
          · rw [if_neg q] at e
            rw [h1 229 j (by omega) (by omega), o9 229 j (by omega) (by omega) (by omega)]
            exact (hM1 j hj).1 e
        · unfold mkS at e
          by_cases q : j = i
          · rw [if_pos q] at e
            cases e
            subst q
            refine ⟨by rw [h1 229 j (by omega) (by omega), l9]; decide, by rw [h1 230 j (by omega) (by omega)]; exact n9, fun c hc => ?_, h4⟩
            have hc' : c < fN rw' := hc
            rw [(h2 c (by omega)).1, (h2 c (by omega)).2]
            exact ⟨hF1.1.2.2.2.1 c hc, hF1.1.2.2.2.2 c hc⟩
          · rw [if_neg q] at e
            obtain ⟨a1, a2, a3, a4⟩ := (hM1 j hj).2 u e
            have hu := (hG j u e).1.1.2.1
            refine ⟨by rw [h1 229 j (by omega) (by omega), o9 229 j (by omega) (by omega) (by omega)]; exact a1, by rw [h1 230 j (by omega) (by omega), o9 230 j (by omega) (by omega) (by omega)]; exact a2, fun c hc => ?_, fun e he => ?_⟩
            · rw [h3 231 _ (by omega) (by omega), h3 232 _ (by omega) (by omega)]
              exact a3 c hc
            · rw [h5 _ (by omega)]
              exact a4 e he
      | succ z ih =>
        intro k τ hz hk c h1 h2 h3 h4 h5
        refine vcX12_mark_195 (c.lay hL1) _ _ ⟨fun h => ?_, fun _ => ?_⟩
        · rw [lit32 24, zLE (by omega) (by omega)] at h
          omega
        · have hg : mi τ 209 k = oI (S at' k) := by rw [c.i (by unfold chMk1; omega)]; exact hH1.1 k (by omega)
          rw [lit32 24, pk_mul, nI_add, zIN (by omega) (by omega), zIN (by omega) (by omega), zCL (by omega), zCL (by omega), hg]
          refine ⟨by omega, by omega, fun s48 e48 x50 e50 => ?_⟩
          rw [inc e50]
          refine ih (k + 1) s48 (by omega) (by omega) (c.trans (by rw [e48]; exact Ch.rf.si ⟨by omega, by omega⟩)) (fun a j q1 q2 => by rw [e48, mi_si, if_neg (by omega)]; exact h1 a j q1 q2) (fun c hc => by rw [e48, mi_si, if_neg (by omega), mi_si, if_neg (by omega)]; exact h2 c hc) (fun a j q1 q2 => by rw [e48, mi_si, if_neg (by omega)]; exact h3 a j q1 q2) (fun e he => ?_) (fun j hj => by rw [e48, mi_si, if_neg (by omega)]; exact h5 j hj)
          rw [e48, mi_si]
          by_cases q : e = k
          · rw [if_pos ⟨rfl, by omega⟩, q]
          · rw [if_neg (by omega)]; exact h4 e (by omega)
    have cel : ∀ (z k : Nat) (τ : PS), z = 10 - k → k ≤ 10 → Ch chMk1 noL s1 τ → (∀ a j, 229 ≤ a → a ≤ 230 ∨ a = 233 → mi τ a j = mi s9 a j) → (∀ c, c < k → mi τ 231 (10 * i + c) = mi s1 201 c ∧ mi τ 232 (10 * i + c) = mi s1 202 c) → (∀ a j, (a = 231 ∨ a = 232) → (j < 10 * i ∨ 10 * i + 10 ≤ j) → mi τ a j = mi s1 a j) → VX12_mark g (d + 3) P 147 [some (.ref 179), some (.int (nI i)), none, some (.int (nI k))] [] τ := by
      intro z
      induction z with
      | zero =>
        intro k τ hz hk c h1 h2 h3
        have : k = 10 := by omega
        subst this
        refine vcX12_mark_147 (c.lay hL1) _ _ ⟨fun _ => ?_, fun h => absurd (by rw [lit32 10, zLE (by omega) (by omega)]; omega) h⟩
        exact glu 24 0 τ rfl (by omega) c (fun a j q1 q2 => h1 a j q1 (Or.inl q2)) h2 h3 (fun e he => by omega) (fun j hj => by rw [h1 233 j (by omega) (Or.inr rfl)]; exact o9 233 j (by omega) (by omega) (by omega))
      | succ z ih =>
        intro k τ hz hk c h1 h2 h3
        refine vcX12_mark_147 (c.lay hL1) _ _ ⟨fun h => ?_, fun _ => ?_⟩
        · rw [lit32 10, zLE (by omega) (by omega)] at h
          omega
        · have g1 : mi τ 201 k = mi s1 201 k := c.i (by unfold chMk1; omega)
          have g2 : mi τ 202 k = mi s1 202 k := c.i (by unfold chMk1; omega)
          rw [lit32 10, pk_mul, nI_add, zIN (by omega) (by omega), zIN (by omega) (by omega), zCL (by omega), zCL (by omega), g1]
          refine ⟨by omega, by omega, fun s26 e26 => ⟨by omega, by omega, fun s30 e30 x32 e32 => ?_⟩⟩
          rw [e26, mi_si, if_neg (by omega), ← e26, g2] at e30
          rw [inc e32]
          refine ih (k + 1) s30 (by omega) (by omega) (c.trans (by rw [e30, e26]; exact (Ch.rf.si ⟨by omega, by omega⟩).si ⟨by omega, by omega⟩)) (fun a j q1 q2 => by rw [e30, mi_si, if_neg (by omega), e26, mi_si, if_neg (by omega)]; exact h1 a j q1 q2) (fun c hc => ?_) (fun a j q1 q2 => by rw [e30, mi_si, if_neg (by omega), e26, mi_si, if_neg (by omega)]; exact h3 a j q1 q2)
          by_cases q : c = k
          · subst q
            refine ⟨?_, ?_⟩
            · rw [e30, mi_si, if_neg (by omega), e26, mi_si, if_pos ⟨rfl, rfl⟩]
            · rw [e30, mi_si, if_pos ⟨rfl, rfl⟩]
          · refine ⟨?_, ?_⟩
            · rw [e30, mi_si, if_neg (by omega), e26, mi_si, if_neg (by omega)]; exact (h2 c (by omega)).1
            · rw [e30, mi_si, if_neg (by omega), e26, mi_si, if_neg (by omega)]; exact (h2 c (by omega)).2
    exact cel 10 0 s9 rfl (by omega) c9 (fun a j _ _ => rfl) (fun c hc => by omega) (fun a j q1 q2 => o9 a j (by omega) (by omega) (by omega))
  · -- gone back to
    cases hmk : mk i with
    | none => exact absurd ((hM1 i hi).1 hmk) hl
    | some t =>
      obtain ⟨q1, q2, q3, q4⟩ := (hM1 i hi).2 t hmk
      obtain ⟨g1, g2, g3⟩ := hG i t hmk
      have hV := g1.1
      have hEt := hV.2.2.2.2.2.2
      have hnt := hV.2.1
      have c16 : Ch (fun a k => a = 229 ∧ k = i) noL s1 s16 := by rw [e16]; exact Ch.rf.si ⟨rfl, rfl⟩
      have v22 : mi s22 179 35 = nI (fN t.1) := by rw [e22, mi_si, if_pos ⟨rfl, rfl⟩, c16.i (by omega)]; exact q2
      have c22 : Ch (fun a k => a = 179 ∧ k = 35 ∨ a = 229 ∧ k = i) noL s1 s22 := (c16.mono (fun a k h => Or.inr h) (fun _ _ h => h)).trans (by rw [e22]; exact Ch.rf.si (Or.inl ⟨rfl, rfl⟩))
      have l22 : ¬ mi s22 229 i = 0 := by rw [e22, mi_si, if_neg (by omega), e16, mi_si, if_pos ⟨rfl, rfl⟩]; decide
      have hM22 : RMk s22 mk := by
        intro j hj
        refine ⟨fun e => ?_, fun u e => ?_⟩
        · have ne : j ≠ i := fun q => by rw [q, hmk] at e; cases e
          rw [c22.i (by omega)]
          exact (hM1 j hj).1 e
        · obtain ⟨b1, b2, b3, b4⟩ := (hM1 j hj).2 u e
          refine ⟨?_, by rw [c22.i (by omega)]; exact b2, fun c hc => by rw [c22.i (by omega), c22.i (by omega)]; exact b3 c hc, fun e he => by rw [c22.i (by omega)]; exact b4 e he⟩
          by_cases q : j = i
          · rw [q]; exact l22
          · rw [c22.i (by omega)]; exact b1
      have hL22 := c22.lay hL1
      have glu : ∀ (z k : Nat) (s34 τ : PS), MF s34 (fN t.1) (fX t.1) (fY t.1) t.2.1 → mi s34 179 47 = 0 → mi s34 179 51 = 0 → mi s34 179 52 = 0 → Ch (fun a k => a = 201 ∨ a = 202 ∨ chSh a k) noL s22 s34 → z = 24 - k → k ≤ 24 → Ch (fun a _ => a = 209) noL s34 τ → (∀ e, e < k → mi τ 209 e = oI (t.2.2 e)) → VX12_mark g (d + 3) P 104 [some (.ref 179), some (.int (nI i)), none, some (.int (nI k))] [] τ := by
        intro z
        induction z with
        | zero =>
          intro k s34 τ m1 m2 m3 m4 m5 hz hk c h1
          have : k = 24 := by omega
          subst this
          have hLτ := c.lay (m5.lay hL22)
          refine vcX12_mark_104 hLτ _ _ ⟨fun _ => ?_, fun h => absurd (by rw [lit32 24, zLE (by omega) (by omega)]; omega) h⟩
          have c5 : Ch (fun a k => a = 201 ∨ a = 202 ∨ chSh a k) noL s22 τ := m5.trans (c.mono (fun a k h => by unfold chSh; omega) (fun _ _ h => h))
          rw [← hP]
          refine ⟨?_, Or.inr (Or.inr ⟨i, t, hi, rfl, hb, hmk, rfl, m1.ch c (by omega) (by omega) (fun a k h1 h2 => by omega), ⟨h1, ?_, ?_, fun j hj => by omega, fun j hj => by omega⟩, ?_, hM22.ch c5 (fun a j q1 q2 => by unfold chSh; omega), ?_⟩)⟩
          · rw [c5.i (by unfold chSh; omega), c22.i (by omega)]; exact z1
          · rw [c.i (by omega)]; exact m3
          · rw [c.i (by omega)]; exact m4
          · rw [c.i (by omega)]; exact m2
          · refine ((c1.mono (fun a k h => Or.inl ⟨h.1, Or.inl h.2⟩) (fun _ _ h => h)).trans (c22.mono (fun a k h => ?_) (fun _ _ h => h))).trans (c5.mono (fun a k h => ?_) (fun _ _ h => h))
            · omega
            · skip
              rcases h with h | h | h
              · exact Or.inr (Or.inl h)
              · exact Or.inr (Or.inr (Or.inl h))
              · exact Or.inr (Or.inr (Or.inr (Or.inr h)))
        | succ z ih =>
          intro k s34 τ m1 m2 m3 m4 m5 hz hk c h1
          have hLτ := c.lay (m5.lay hL22)
          refine vcX12_mark_104 hLτ _ _ ⟨fun h => ?_, fun _ => ?_⟩
          · rw [lit32 24, zLE (by omega) (by omega)] at h
            omega
          · have hg : mi τ 233 (24 * i + k) = oI (t.2.2 k) := by
              rw [c.i (by omega), m5.i (by unfold chSh; omega)]
              exact ((hM22 i hi).2 t hmk).2.2.2 k (by omega)
            rw [lit32 24, pk_mul, nI_add, zIN (by omega) (by omega), zIN (by omega) (by omega), zCL (by omega), zCL (by omega), hg]
            refine ⟨by omega, by omega, fun s54 e54 x56 e56 => ?_⟩
            rw [inc e56]
            refine ih (k + 1) s34 s54 m1 m2 m3 m4 m5 (by omega) (by omega) (c.trans (by rw [e54]; exact Ch.rf.si rfl)) (fun e he => ?_)
            rw [e54, mi_si]
            by_cases q : e = k
            · rw [if_pos ⟨rfl, q⟩, q]
            · rw [if_neg (by omega)]; exact h1 e (by omega)
      have cel : ∀ (z k : Nat) (τ : PS), z = 10 - k → k ≤ 10 → Ch (fun a _ => a = 201 ∨ a = 202) noL s22 τ → (∀ c, c < k → mi τ 201 c = mi s22 231 (10 * i + c) ∧ mi τ 202 c = mi s22 232 (10 * i + c)) → VX12_mark g (d + 3) P 52 [some (.ref 179), some (.int (nI i)), none, some (.int (nI k))] [] τ := by
        intro z
        induction z with
        | zero =>
          intro k τ hz hk c h1
          have : k = 10 := by omega
          subst this
          have hLτ := c.lay hL22
          refine vcX12_mark_52 hLτ _ _ ⟨fun _ => ?_, fun h => absurd (by rw [lit32 10, zLE (by omega) (by omega)]; omega) h⟩
          have t3 := ((hM22 i hi).2 t hmk).2.2.1
          have hMC : MC τ (fN t.1) (fX t.1) (fY t.1) := by
            refine ⟨by rw [c.i (by omega)]; exact v22, hnt, fun j hj => g_b hj, fun j hj => ?_, fun j hj => ?_⟩
            · have hj' : j < fN t.1 := hj
              rw [(h1 j (by omega)).1]; exact (t3 j hj).1
            · have hj' : j < fN t.1 := hj
              rw [(h1 j (by omega)).2]; exact (t3 j hj).2
          refine Ct.imp (sp_shapes (d := d) hLτ hMC hV.2.2.1 hV.2.2.2.1 hV.2.2.2.2.1 (by omega)) (fun r s34 w => ?_)
          obtain ⟨rfl, m1, -, m2, m3, m4, c34⟩ := w
          refine ⟨rfl, c34.fr, ?_⟩
          exact glu 24 0 s34 s34 m1 m2 m3 m4 ((c.mono (fun a k h => by rcases h with h | h; exact Or.inl h; exact Or.inr (Or.inl h)) (fun _ _ h => h)).trans (c34.mono (fun a k h => Or.inr (Or.inr h)) (fun _ _ h => h))) rfl (by omega) Ch.rf (fun e he => by omega)
        | succ z ih =>
          intro k τ hz hk c h1
          refine vcX12_mark_52 (c.lay hL22) _ _ ⟨fun h => ?_, fun _ => ?_⟩
          · rw [lit32 10, zLE (by omega) (by omega)] at h
            omega
          · have g1' : mi τ 231 (10 * i + k) = mi s22 231 (10 * i + k) := c.i (by omega)
            have g2' : mi τ 232 (10 * i + k) = mi s22 232 (10 * i + k) := c.i (by omega)
            rw [lit32 10, pk_mul, nI_add, zIN (by omega) (by omega), zIN (by omega) (by omega), zCL (by omega), zCL (by omega), g1']
            refine ⟨by omega, by omega, fun s38 e38 => ⟨by omega, by omega, fun s42 e42 x44 e44 => ?_⟩⟩
            have w2 : mi s38 232 (10 * i + k) = mi s22 232 (10 * i + k) := by rw [e38, mi_si, if_neg (by omega)]; exact g2'
            rw [w2] at e42
            rw [inc e44]
            refine ih (k + 1) s42 (by omega) (by omega) (c.trans (by rw [e42, e38]; exact (Ch.rf.si (Or.inl rfl)).si (Or.inr rfl))) (fun c' hc => ?_)
            by_cases q : c' = k
            · subst q
              refine ⟨?_, ?_⟩
              · rw [e42, mi_si, if_neg (by omega), e38, mi_si, if_pos ⟨rfl, rfl⟩]
              · rw [e42, mi_si, if_pos ⟨rfl, rfl⟩]
            · refine ⟨?_, ?_⟩
              · rw [e42, mi_si, if_neg (by omega), e38, mi_si, if_neg (by omega)]; exact (h1 c' (by omega)).1
              · rw [e42, mi_si, if_neg (by omega), e38, mi_si, if_neg (by omega)]; exact (h1 c' (by omega)).2
      exact cel 10 0 s22 rfl (by omega) Ch.rf (fun c hc => by omega)
  · rw [← hP]
    refine ⟨z1, Or.inl ⟨fun j hj e => ?_, rfl, e1⟩⟩
    rw [zEQ (by omega) (by omega)] at e
    subst e
    refine ⟨hb, ?_⟩
    cases hmk : mk i with
    | none => rfl
    | some t => exact absurd hl ((hM1 i hi).2 t hmk).1
