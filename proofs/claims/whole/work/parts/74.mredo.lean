theorem sp_redo12 {g : GV} {d E at' last : Nat} {S : Nat → Mat} {σ : PS} (hL : Lay σ) (hE : E ≤ 22) (hal : at' ≤ last) (hl : last ≤ 40) (hH : MH σ S at' last) (hI : ∀ i, i ≤ last → Inv E (S i)) :
    CX12_redo g (d + 2) [.ref 179] σ (fun v s => mi s 179 0 = 0 ∧ Ch chGl noL σ s ∧ v = (if at' < last then 1 else 0) ∧ MH s S (if at' < last then at' + 1 else at') last) := by
  refine vcX12_redo hL (fun s1 e1 => ?_)
  have c1 : Ch (fun a k => a = 179 ∧ k = 0) noL σ s1 := by rw [e1]; exact Ch.rf.si ⟨rfl, rfl⟩
  have hL1 := c1.lay hL
  have hH1 := hH.ch c1 (by omega) (by omega) (fun i => by omega) (fun i => by omega) (fun i => by omega)
  have z1 : mi s1 179 0 = 0 := by rw [e1, mi_si, if_pos ⟨rfl, rfl⟩]
  obtain ⟨m1, m2, m3, m4, m5⟩ := id hH1
  rw [m3, lit32 0, zEQ (by omega) (by omega)]
  refine ⟨fun hne => ?_, fun h0 => ⟨z1, c1.mono (fun a k h => by simp only [chGl]; omega) (fun _ _ h => h), by rw [if_neg (by omega)], by rw [if_neg (by omega)]; exact hH1⟩⟩
  rw [if_pos (show at' < last by omega), if_pos (show at' < last by omega)]
  refine Ct.imp (sp_remembers (d := d) hL1 (show at' ≤ 40 by omega) m2 m1 m4 (fun k e x hk hx => by have := (hI k (by omega) e x hx).2.1; omega)) (fun r s3 w => ?_)
  obtain ⟨rfl, h51, hrow, c3⟩ := w
  have e40 : ¬ at' = 40 := by omega
  rw [show shD at' = at' + 1 from if_neg e40] at h51 hrow
  rw [show shS S at' = S from if_neg e40] at hrow
  refine ⟨rfl, c3.fr, fun s5 e5 => ?_⟩
  rw [c3.i (by simp [chRem]), m3, lit32 1, pk_sub (by omega)] at e5
  have v52 : mi s5 179 52 = nI (last - at' - 1) := by rw [e5, mi_si, if_pos ⟨rfl, rfl⟩]
  have c5 : Ch (fun a k => a = 179 ∧ k = 52) noL s3 s5 := by rw [e5]; exact Ch.rf.si ⟨rfl, rfl⟩
  rw [v52]
  have hL5 := c5.lay (c3.lay hL1)
  have r214 : ∀ j, j < last - at' → RW s5 214 j (S (last - j)) := fun j hj => ((m5 j hj).ch c3 (fun e _ => by simp [chRem])).ch c5 (fun e _ => by omega)
  have hb := r214 (last - at' - 1) (by omega)
  rw [show last - (last - at' - 1) = at' + 1 by omega] at hb
  refine Ct.imp (sp_brings (m := S (at' + 1)) hL5 (kd_214 hL5) (by omega) (by omega) hb) (fun r s9 w => ?_)
  obtain ⟨rfl, hM9, c9⟩ := w
  refine ⟨rfl, c9.fr, ?_, ?_, rfl, hM9, ?_, ?_, fun i hi => ((hrow i hi).ch c5 (fun e _ => by omega)).ch c9 (fun e _ => by omega), fun j hj => (r214 j (by omega)).ch c9 (fun e _ => by omega)⟩
  · rw [c9.i (by omega), c5.i (by omega), c3.i (by simp [chRem])]; exact z1
  · exact (((c1.mono (fun a k h => by simp only [chGl]; omega) (fun _ _ h => h)).trans (c3.mono (fun a k h => by simp only [chRem] at h; simp only [chGl]; omega) (fun _ _ h => h))).trans (c5.mono (fun a k h => by simp only [chGl]; omega) (fun _ _ h => h))).trans (c9.mono (fun a k h => by simp only [chGl]; omega) (fun _ _ h => h))
  · rw [c9.i (by omega), c5.i (by omega)]; exact h51
  · rw [c9.i (by omega), v52]
    exact congrArg nI (by omega)
theorem Inv.none {E : Nat} {m : Mat} (h : Inv E m) {e : Nat} (he : E ≤ e) : m e = none := by
  cases hm : m e with
  | none => rfl
  | some b => have := (h e b hm).1; omega
abbrev chCh : Nat → Nat → Prop := fun a k => a = 179 ∧ (k = 0 ∨ k = 47 ∨ k = 48 ∨ k = 51 ∨ k = 52 ∨ k = 59) ∨ 209 ≤ a ∧ a ≤ 214
theorem sp_choose12 {g : GV} {d E at' last : Nat} {q : Nat → Nat} {S : Nat → Mat} {a : Int32} {σ : PS} (hL : Lay σ) (hE : E ≤ 22) (h0 : mi σ 179 38 = nI E) (hq : ∀ i, i < E → mi σ 205 i = nI (q i) ∧ q i ≤ 4) (hk : ¬ mi σ 179 47 = 0 → EM σ E (gls E q)) (hal : at' ≤ last) (hl : last ≤ 40) (hH : MH σ S at' last) (hI : ∀ i, i ≤ last → Inv E (S i)) :
    CX12_choose g (d + 27) [.ref 179, .int a] σ (fun v s => mi s 179 0 = 0 ∧ Ch chCh noL σ s ∧ EM s E (gls E q) ∧ ¬ mi s 179 47 = 0 ∧ (¬ mi σ 179 47 = 0 → mi s 179 59 = mi σ 179 59) ∧ (mi σ 179 47 = 0 → mi s 179 59 = 0) ∧ ((gls E q).length ≤ 2000 ∧ inN a (gls E q).length = true → v = 1 ∧ ∃ k m, a = nI k ∧ (gls E q)[k]? = some m ∧ MH s (newS S at' m) (shD at') (shD at')) ∧ (¬ ((gls E q).length ≤ 2000 ∧ inN a (gls E q).length = true) → v = 0 ∧ MH s S at' last)) := by
  refine vcX12_choose hL _ (fun s1 e1 => ?_)
  have c1 : Ch (fun a k => a = 179 ∧ k = 0) noL σ s1 := by rw [e1]; exact Ch.rf.si ⟨rfl, rfl⟩
  have hL1 := c1.lay hL
  have hH1 := hH.ch c1 (by omega) (by omega) (fun i => by omega) (fun i => by omega) (fun i => by omega)
  have z1 : mi s1 179 0 = 0 := by rw [e1, mi_si, if_pos ⟨rfl, rfl⟩]
  have e47 : mi s1 179 47 = mi σ 179 47 := c1.i (by omega)
  have e59 : mi s1 179 59 = mi σ 179 59 := c1.i (by omega)
  refine Ct.imp (sp_isGluing (d := d) (a := a) (q := q) hL1 hE (by rw [c1.i (by omega)]; exact h0) (fun k hk => by rw [c1.i (by omega)]; exact hq k hk) (fun h => (hk (by rw [← e47]; exact h)).ch c1 (by omega) (fun i => by omega))) (fun r s3 w => ?_)
  obtain ⟨v, rfl, hv, hT, h47, c3, k1, k2⟩ := w
  rw [e47] at k1 k2
  have hH3 : MH s3 S at' last := hH1.ch c3 (by simp [chI]) (by simp [chI]) (fun i => by simp [chI]) (fun i => by simp [chI]) (fun i => by simp [chI])
  have c03 : Ch chCh noL σ s3 := (c1.mono (fun a k h => by simp only [chCh]; omega) (fun _ _ h => h)).trans (c3.mono (fun a k h => by simp only [chI] at h; simp only [chCh]; omega) (fun _ _ h => h))
  have z3 : mi s3 179 0 = 0 := by rw [c3.i (by simp [chI])]; exact z1
  have f59 : ¬ mi σ 179 47 = 0 → mi s3 179 59 = mi σ 179 59 := fun h => by rw [k1 h]; exact e59
  refine ⟨_, rfl, c3.fr, fun hv1 => ?_, fun hv0 => ?_⟩
  · rw [i01 hv, Classical.not_not] at hv1
    obtain ⟨k, hkl, rfl⟩ := (inN_is (by omega)).mp hv1.2
    obtain ⟨m, hm⟩ : ∃ m, (gls E q)[k]? = some m := ⟨_, List.getElem?_eq_getElem hkl⟩
    have hF : FM E q m := gls_FM (List.mem_of_getElem? hm)
    obtain ⟨m1, m2, m3, m4, m5⟩ := id hH3
    refine Ct.imp (sp_remembers (d := d + 25) (c03.lay hL) (show at' ≤ 40 by omega) m2 m1 m4 (fun k e x hk hx => by have := (hI k (by omega) e x hx).2.1; omega)) (fun r s5 w => ?_)
    obtain ⟨rfl, h51, hrow, c5⟩ := w
    refine ⟨rfl, c5.fr, fun s7 e7 => ?_⟩
    have c7 : Ch (fun a k => a = 179 ∧ k = 52) noL s5 s7 := by rw [e7]; exact Ch.rf.si ⟨rfl, rfl⟩
    have v52 : mi s7 179 52 = 0 := by rw [e7, mi_si, if_pos ⟨rfl, rfl⟩]
    have c07 : Ch chCh noL σ s7 := (c03.trans (c5.mono (fun a k h => by simp only [chRem] at h; simp only [chCh]; omega) (fun _ _ h => h))).trans (c7.mono (fun a k h => by simp only [chCh]; omega) (fun _ _ h => h))
    have hT7 : EM s7 E (gls E q) := (hT.ch c5 (by simp [chRem]) (fun i => by simp [chRem])).ch c7 (by omega) (fun i => by omega)
    have M7 : MA s7 209 24 (S at') := (m1.ch c5 (fun i _ => by simp [chRem])).ch c7 (fun i _ => by omega)
    have hD := shD_le (show at' ≤ 40 by omega)
    have loop : ∀ (z i : Nat) (s : PS), z = E - i → i ≤ E → Ch (fun a _ => a = 209) noL s7 s → (∀ e, e < 24 → mi s 209 e = oI (if e < i then m e else S at' e)) → VX12_choose g (d + 27) (fun v s => mi s 179 0 = 0 ∧ Ch chCh noL σ s ∧ EM s E (gls E q) ∧ ¬ mi s 179 47 = 0 ∧ (¬ mi σ 179 47 = 0 → mi s 179 59 = mi σ 179 59) ∧ (mi σ 179 47 = 0 → mi s 179 59 = 0) ∧ ((gls E q).length ≤ 2000 ∧ inN (nI k) (gls E q).length = true → v = 1 ∧ ∃ k' m, nI k = nI k' ∧ (gls E q)[k']? = some m ∧ MH s (newS S at' m) (shD at') (shD at')) ∧ (¬ ((gls E q).length ≤ 2000 ∧ inN (nI k) (gls E q).length = true) → v = 0 ∧ MH s S at' last)) 26 [some (.ref 179), some (.int (nI k)), some (.int (nI i))] [] s := by
      intro z
      induction z with
      | zero =>
        intro i s hz hi cs hMs
        have e : i = E := by omega
        subst e
        refine vcX12_choose_26 (cs.lay (c07.lay hL)) _ _ ?_
        rw [cs.i (by omega), c07.i (by simp [chCh]), h0]
        refine ⟨fun _ => ⟨?_, c07.trans (cs.mono (fun a k h => by simp only [chCh]; omega) (fun _ _ h => h)), hT7.ch cs (by omega) (fun i => by omega), ?_, fun h => ?_, fun h => ?_, fun _ => ⟨rfl, k, m, rfl, hm, ?_, ?_, ?_, fun j hj => ?_, fun j hj => by omega⟩, fun h => absurd hv1 h⟩, fun h => absurd (by rw [zLE (by omega) (by omega)]; omega) h⟩
        · rw [cs.i (by omega), c7.i (by omega), c5.i (by simp [chRem])]; exact z3
        · rw [cs.i (by omega), c7.i (by omega), c5.i (by simp [chRem])]; exact h47
        · rw [cs.i (by omega), c7.i (by omega), c5.i (by simp [chRem])]; exact f59 h
        · rw [cs.i (by omega), c7.i (by omega), c5.i (by simp [chRem])]; exact k2 h
        · intro e he
          rw [show newS S at' m (shD at') = m from if_pos rfl, hMs e he]
          by_cases w : e < i
          · rw [if_pos w]
          · rw [if_neg w, Inv.none (hI at' hal) (by omega), Inv.none hF.inv (by omega)]
        · rw [cs.i (by omega), c7.i (by omega)]; exact h51
        · rw [cs.i (by omega), v52, Nat.sub_self]; rfl
        · rw [show newS S at' m j = shS S at' j from if_neg (by omega)]
          exact ((hrow j hj).ch c7 (fun e _ => by omega)).ch cs (fun e _ => by omega)
      | succ z ih =>
        intro i s hz hi cs hMs
        refine vcX12_choose_26 (cs.lay (c07.lay hL)) _ _ ?_
        have hrd := hT7.2 k m (by omega) hm i (by omega)
        rw [cs.i (by omega), c07.i (by simp [chCh]), h0, lit32 24, pk_mul, nI_add]
        simp (disch := omega) only [zLE, zIN, zCL]
        refine ⟨fun h => by omega, fun _ => ⟨by omega, by omega, fun s11 e11 x13 e13 => ?_⟩⟩
        rw [cs.i (by omega), hrd] at e11
        rw [inc e13]
        refine ih (i + 1) s11 (by omega) (by omega) (by rw [e11]; exact cs.si rfl) (fun e he => ?_)
        rw [e11, mi_si]
        by_cases w : e = i
        · rw [if_pos ⟨rfl, w⟩, if_pos (by omega), w]
        · rw [if_neg (by omega), hMs e he]
          by_cases w2 : e < i
          · rw [if_pos w2, if_pos (by omega)]
          · rw [if_neg w2, if_neg (by omega)]
    exact loop E 0 s7 rfl (by omega) Ch.rf (fun e he => by rw [if_neg (by omega)]; exact M7 e he)
  · rw [i01 hv] at hv0
    exact ⟨z3, c03, hT, h47, f59, k2, fun h => absurd h hv0, fun _ => ⟨rfl, hH3⟩⟩
