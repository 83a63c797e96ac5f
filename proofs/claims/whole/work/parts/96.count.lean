/-! ===== count of both; a figure by its rows; the class takes a figure ===== -/
def couV (n E : Nat) (m : Mat) (at' last tp j : Nat) : Int32 := if j = 0 then nI n else if j = 1 then nI E else if j = 2 then nI (cnt (opn1 m) E) else if j = 3 then nI at' else if j = 4 then nI (last - at') else if j = 5 then (if gcn E m = E then 1 else 0) else nI tp
def couA (n E : Nat) (m : Mat) (at' last tp : Nat) (w v : Int32) : Prop := (∃ j, j < 7 ∧ w = nI j ∧ v = couV n E m at' last tp j) ∨ ((∀ j, j < 7 → w = nI j → False) ∧ v = -1)
theorem sp_count11 {g : GV} {d n E at' last tp : Nat} {x y : Nat → Nat} {ρ : Nat → Nat} {S : Nat → Mat} {w : Int32} {σ : PS} (hL : Lay σ) (hV : VF n x y E) (hC : CA σ n x y E ρ S at' last) (hal : at' ≤ last) (hI : Inv E (S at')) (ht : mi σ 11 1 = nI tp) :
    CX11_count g (d + 1) [.ref 10, .int w] σ (fun v s => couA n E (S at') at' last tp w v ∧ s = σ) := by
  obtain ⟨hF, c2, c3, c4, c5, c6, c7, -⟩ := id hC
  refine vcX11_count hL _ ⟨fun h => ⟨Or.inl ⟨0, by omega, h, hF.1.1.1⟩, rfl⟩, fun h => ⟨Or.inl ⟨1, by omega, h, hF.2.1⟩, rfl⟩, fun h => ⟨Or.inl ⟨2, by omega, h, c7⟩, rfl⟩, fun h => ⟨Or.inl ⟨3, by omega, h, c3⟩, rfl⟩, fun h => ⟨Or.inl ⟨4, by omega, h, ?_⟩, rfl⟩, fun h => ?_, fun h => ⟨Or.inl ⟨6, by omega, h, ht⟩, rfl⟩, fun h => ⟨Or.inr ⟨fun j hj e => ?_, rfl⟩, rfl⟩⟩
  · show _ = nI (last - at')
    rw [c3, c4, pk_sub hal]
  · refine Ct.imp (sp_isB11 hL hV.2.2.2.2.2.2 c7 hF.2.1 hI) (fun r s z => ?_)
    obtain ⟨v, rfl, hv, rfl⟩ := z
    refine ⟨_, rfl, Fr.rf, fun h0 => ⟨Or.inl ⟨5, by omega, h, ?_⟩, rfl⟩, fun h0 => ⟨Or.inl ⟨5, by omega, h, ?_⟩, rfl⟩⟩
    · rw [i01 hv] at h0
      show _ = if gcn E (S at') = E then 1 else 0
      rw [if_neg h0]
    · rw [i01 hv, Classical.not_not] at h0
      show _ = if gcn E (S at') = E then 1 else 0
      rw [if_pos h0]
  · obtain ⟨h0, h1, h2, h3, h4, h5, h6⟩ := h
    have : j = 0 ∨ j = 1 ∨ j = 2 ∨ j = 3 ∨ j = 4 ∨ j = 5 ∨ j = 6 := by omega
    rcases this with rfl | rfl | rfl | rfl | rfl | rfl | rfl
    · exact h0 e
    · exact h1 e
    · exact h2 e
    · exact h3 e
    · exact h4 e
    · exact h5 e
    · exact h6 e
theorem sp_count12 {g : GV} {d n E at' last tp : Nat} {x y : Nat → Nat} {S : Nat → Mat} {w : Int32} {σ : PS} (hL : Lay σ) (hF : MF σ n x y E) (hV : VF n x y E) (hH : MH σ S at' last) (hal : at' ≤ last) (hI : Inv E (S at')) (ht : mi σ 179 1 = nI tp) :
    CX12_count g (d + 2) [.ref 179, .int w] σ (fun v s => couA n E (S at') at' last tp w v ∧ s = si σ 179 0 0) := by
  have hE := hV.2.2.2.2.2.2
  refine vcX12_count hL _ (fun s1 e1 => ?_)
  have c1 : Ch (fun a k => a = 179 ∧ k = 0) noL σ s1 := by rw [e1]; exact Ch.rf.si ⟨rfl, rfl⟩
  have hL1 := c1.lay hL
  have hF1 := hF.ch c1 (by omega) (by omega) (fun a i h1 h2 => by omega)
  have hH1 := hH.ch c1 (by omega) (by omega) (fun i => by omega) (fun i => by omega) (fun i => by omega)
  have ht1 : mi s1 179 1 = nI tp := by rw [c1.i (by omega)]; exact ht
  refine Ct.imp (sp_within hL1) (fun r s3 z => ?_)
  obtain ⟨v, rfl, hv, rfl⟩ := z
  refine ⟨_, rfl, Fr.rf, fun h => ?_, fun h => ?_⟩
  · rw [i01 hv, Classical.not_not] at h
    obtain ⟨j, j1, j2, rfl⟩ := wBt (lo := 0) (hi := 6) (by omega) (by omega) (Int32.not_lt.mpr h.1) (Int32.not_lt.mpr h.2)
    have ok : ∀ v, v = couV n E (S at') at' last tp j → couA n E (S at') at' last tp (nI j) v := fun v hv => Or.inl ⟨j, by omega, rfl, hv⟩
    have e : ∀ k, k < 7 → ((nI j = nI k) = (j = k)) := fun k hk => zEQ (by omega) (by omega)
    rw [lit32 0, lit32 1, lit32 2, lit32 3, lit32 4, lit32 5, e 0 (by omega), e 1 (by omega), e 2 (by omega), e 3 (by omega), e 4 (by omega), e 5 (by omega)]
    refine ⟨fun h0 => ⟨fun h1 => ⟨fun h2 => ⟨fun h3 => ⟨fun h4 => ⟨fun h5 => ⟨ok _ ?_, e1⟩, fun h5 => ?_⟩, fun h4 => ⟨ok _ ?_, e1⟩⟩, fun h3 => ⟨ok _ ?_, e1⟩⟩, fun h2 => ?_⟩, fun h1 => ⟨ok _ ?_, e1⟩⟩, fun h0 => ⟨ok _ ?_, e1⟩⟩
    · unfold couV
      rw [if_neg h0, if_neg h1, if_neg h2, if_neg h3, if_neg h4, if_neg h5]
      exact ht1
    · refine Ct.imp (sp_isBody12 (d := d) hL1 hE hF1.2.1 hH1.1 hI) (fun r s5 z => ?_)
      obtain ⟨v5, rfl, hv5, rfl⟩ := z
      refine ⟨_, rfl, Fr.rf, fun hb => ⟨ok _ ?_, e1⟩, fun hb => ⟨ok _ ?_, e1⟩⟩ <;> unfold couV <;> rw [if_neg h0, if_neg h1, if_neg h2, if_neg h3, if_neg h4, if_pos h5]
      · rw [show nI 0 = (0 : Int32) from rfl, i01 hv5] at hb
        rw [if_neg hb]
        rfl
      · rw [show nI 0 = (0 : Int32) from rfl, i01 hv5, Classical.not_not] at hb
        rw [if_pos hb]
        rfl
    · unfold couV
      rw [if_neg h0, if_neg h1, if_neg h2, if_neg h3, if_pos h4]
      exact hH1.2.2.1
    · unfold couV
      rw [if_neg h0, if_neg h1, if_neg h2, if_pos h3]
      exact hH1.2.1
    · refine Ct.imp (sp_pairsNow hL1 hE hF1.2.1 hH1.1 hI) (fun r s5 z => ?_)
      obtain ⟨v5, rfl, hv5, rfl⟩ := z
      refine ⟨_, rfl, Fr.rf, ok _ ?_, e1⟩
      unfold couV
      rw [if_neg h0, if_neg h1, if_pos h2]
      exact hv5
    · unfold couV
      rw [if_neg h0, if_pos h1]
      exact hF1.2.1
    · unfold couV
      rw [if_pos h0]
      exact hF1.1.1
  · rw [i01 hv] at h
    refine ⟨Or.inr ⟨fun j hj e => h ?_, rfl⟩, e1⟩
    rw [e, lit32 0, lit32 6, zLE (by omega) (by omega), zLE (by omega) (by omega)]
    omega
/-! a figure by its rows -/
def grd (rw' : Nat → Nat) (k : Nat) : Bool := (rw' (k / 16)).testBit (k % 16)
abbrev fN (rw' : Nat → Nat) : Nat := cnt (grd rw') 256
abbrev fX (rw' : Nat → Nat) : Nat → Nat := gX (grd rw')
abbrev fY (rw' : Nat → Nat) : Nat → Nat := gY (grd rw')
/-- a figure without a FAULT -/
def GF (rw' : Nat → Nat) (E : Nat) : Prop := VF (fN rw') (fX rw') (fY rw') E ∧ itr (fN rw') (fX rw') (fY rw') (fN rw') = 2 ^ fN rw' - 1
theorem GF.of {rw' : Nat → Nat} {E : Nat} (hn : fN rw' ≤ 10) (hP : 0 < fN rw' → Per (fN rw') (fX rw') (fY rw') E ∧ E ≤ opc (fN rw') (fX rw') (fY rw')) (h0 : fgF (fN rw') (fX rw') (fY rw') E = 0) : GF rw' E := by
  unfold fgF at h0
  by_cases e : fN rw' = 0
  · rw [if_pos e] at h0; cases h0
  · rw [if_neg e] at h0
    by_cases e2 : itr (fN rw') (fX rw') (fY rw') (fN rw') = 2 ^ fN rw' - 1
    · rw [if_pos e2] at h0
      by_cases e3 : E = opc (fN rw') (fX rw') (fY rw')
      · have hp : 0 < fN rw' := by omega
        have : opc (fN rw') (fX rw') (fY rw') ≤ 2 * fN rw' + 2 := opc_le hp (g_dst (grd rw')) e2
        exact ⟨⟨hp, hn, g_dst _, g_opn hp, (hP hp).1, e3, by omega⟩, e2⟩
      · rw [if_neg e3] at h0; cases h0
    · rw [if_neg e2] at h0; cases h0
theorem GF.fg {rw' : Nat → Nat} {E : Nat} (h : GF rw' E) : fgF (fN rw') (fX rw') (fY rw') E = 0 := by
  unfold fgF
  rw [if_neg (by have := h.1.1; omega), if_pos h.2, if_pos h.1.2.2.2.2.2.1]
def RowsF (σ : PS) (o : Nat) (rw' : Nat → Nat) : Prop := ∀ r, r < 16 → mi σ o r = nI (rw' r) ∧ rw' r < 65536
theorem RowsF.ch {σ s : PS} {o : Nat} {rw' : Nat → Nat} {Pm Pl : Nat → Nat → Prop} (h : RowsF σ o rw') (c : Ch Pm Pl σ s) (hn : ∀ i, ¬ Pm o i) : RowsF s o rw' := fun r hr => by rw [c.i (hn r)]; exact h r hr
abbrev nm : Mat := fun _ => none
theorem cl_none (E : Nat) : ∀ k, cl E nm k = fun i => i := by
  intro k
  induction k with
  | zero => rfl
  | succ k ih => rw [cl_s, ih]; rfl
theorem Inv.nm (E : Nat) : Inv E nm := fun e b h => by cases h
theorem A4.nm {E : Nat} {q : Nat → Nat} (hq : ∀ i, q i ≤ 4) : A4 E (cl E _root_.Jvm.Pilot.CGluedPaperLaw_law_r5622_34d44b.nm E) q := by
  rw [cl_none]
  intro k hk
  exact tg_id_le (hq k)
abbrev chTk : Nat → Nat → Prop := fun a i => chF 20 a i ∨ a = 38 ∧ (i = 1 ∨ i = 2) ∨ 40 ≤ a ∧ a ≤ 80 ∨ a = 87 ∧ i = 1 ∨ a = 133 ∧ i = 9 ∨ chSt a i
theorem sp_takeFigure {g : GV} {d p np E : Nat} {rw' ρ : Nat → Nat} {σ : PS} (hL : Lay σ) (hk : kd σ p = some (.inr (0, np))) (hnp : 16 ≤ np) (hpo : p < 20 ∨ 28 < p) (hR : RowsF σ p rw') (hG : GF rw' E) (hA : RowsA σ ρ) :
    CX11_takeFigure g (d + 3) [.ref 10, .ref p] σ (fun s => CA s (fN rw') (fX rw') (fY rw') E ρ (fun _ => nm) 0 0 ∧ RowsF s 21 rw' ∧ mi s 87 1 = 0 ∧ mi s 133 9 = 0 ∧ mi s 144 3 = -1 ∧ mi s 149 1 = 0 ∧ Ch chTk noL σ s) := by
  obtain ⟨hV, hH⟩ := id hG
  have hE := hV.2.2.2.2.2.2
  refine vcX11_takeFigure hL p np hk (Ct.imp (sp_lay (d := d) hL isF20 hk hnp hpo hR (fun k _ => rfl) hV.2.1) (fun r s1 w => ?_))
  obtain ⟨v, rfl, c1, ⟨E', hP, hv, hFF⟩, hrows⟩ := w
  have eE : E' = E := (hP hV.1).1.uniq hV.2.2.2.2.1
  subst eE
  have hF1 := (hFF hG.fg).1
  have hL1 := c1.lay hL
  have hA1 : RowsA s1 ρ := ⟨fun i hi => by rw [c1.1.2]; exact hA.1 i hi, hA.2⟩
  refine ⟨_, rfl, c1.fr, vcX0_forget hL1 (fun s2 e2 s3 e3 => ?_)⟩
  have c3 : Ch (fun a i => a = 38 ∧ (i = 1 ∨ i = 2)) noL s1 s3 := by rw [e3, e2]; exact (Ch.rf.si ⟨rfl, Or.inl rfl⟩).si ⟨rfl, Or.inr rfl⟩
  have hL3 := c3.lay hL1
  obtain ⟨r1, r2, r3⟩ := hA1.1 0 (by omega)
  have r1' : mr s3 39 (Int32.toNatClampNeg 0) = some (ρ 0) := by rw [c3.1.2]; exact r1
  refine ⟨ρ 0, r1', Ct.imp (sp_fill hL3 (kdRow hL3 r2 r3) (by omega)) (fun r s4 w => ?_)⟩
  obtain ⟨rfl, hf4, c4⟩ := w
  have hL4 := c4.lay hL3
  refine ⟨rfl, c4.fr, c3.fr.trans c4.fr, fun s5 e5 s7 e7 => ?_⟩
  have c7 : Ch (fun a i => a = 87 ∧ i = 1 ∨ a = 133 ∧ i = 9) noL s4 s7 := by rw [e7, e5]; exact (Ch.rf.si (Or.inl ⟨rfl, rfl⟩)).si (Or.inr ⟨rfl, rfl⟩)
  have hL7 := c7.lay hL4
  have hF7 := ((hF1.ch c3 (fun a i h1 h2 => by omega)).ch c4 (fun a i h1 h2 => by omega)).ch c7 (fun a i h1 h2 => by omega)
  have hA7 : RowsA s7 ρ := ⟨fun i hi => by rw [c7.1.2, c4.1.2, c3.1.2]; exact hA1.1 i hi, hA1.2⟩
  have h1 : mi s7 38 1 = nI 0 := by rw [c7.i (by omega), c4.i (by omega), e3, mi_si, if_neg (by omega), e2, mi_si, if_pos ⟨rfl, rfl⟩]; rfl
  have h2 : mi s7 38 2 = nI 0 := by rw [c7.i (by omega), c4.i (by omega), e3, mi_si, if_pos ⟨rfl, rfl⟩]; rfl
  refine Ct.imp (sp_settleA (d := d) (S := fun _ => nm) hL7 hV hF7 hA7 h1 h2 (fun i hi e he => ?_) (Nat.le_refl _) (by omega) (fun i hi => ⟨Inv.nm _, A4.nm (fun i => qt_le _ _ _ _ i)⟩)) (fun r s9 w => ?_)
  · have : i = 0 := by omega
    subst this
    rw [c7.i (by omega)]
    exact hf4 e he
  · obtain ⟨rfl, k1, k2, k3, c9⟩ := w
    have call : Ch chTk noL σ s9 := ((((c1.mono (fun a k h => Or.inl h) (fun _ _ h => h)).trans (c3.mono (fun a k h => Or.inr (Or.inl h)) (fun _ _ h => h))).trans (c4.mono (fun a k h => Or.inr (Or.inr (Or.inl ⟨by omega, by omega⟩))) (fun _ _ h => h))).trans (c7.mono (fun a k h => by rcases h with h | h; exact Or.inr (Or.inr (Or.inr (Or.inl h))); exact Or.inr (Or.inr (Or.inr (Or.inr (Or.inl h))))) (fun _ _ h => h))).trans (c9.mono (fun a k h => Or.inr (Or.inr (Or.inr (Or.inr (Or.inr h))))) (fun _ _ h => h))
    refine ⟨rfl, c9.fr, k1, fun r hr => ⟨?_, (hR r hr).2⟩, ?_, ?_, k2, k3, call⟩
    · rw [c9.i (by unfold chSt; omega), c7.i (by omega), c4.i (by omega), c3.i (by omega)]
      exact hrows r hr
    · rw [c9.i (by unfold chSt; omega), e7, mi_si, if_neg (by omega), e5, mi_si, if_pos ⟨rfl, rfl⟩]
    · rw [c9.i (by unfold chSt; omega), e7, mi_si, if_pos ⟨rfl, rfl⟩]
