/-! ===== gluings and partner of the reference again: what they leave alone ===== -/
abbrev chIz : Nat → Nat → Prop := fun a k => a = 179 ∧ k = 0 ∨ chI a k
theorem sp_gluings12b {g : GV} {d E : Nat} {q : Nat → Nat} {σ : PS} (hL : Lay σ) (hE : E ≤ 22) (h0 : mi σ 179 38 = nI E) (hq : ∀ i, i < E → mi σ 205 i = nI (q i) ∧ q i ≤ 4) (hk : ¬ mi σ 179 47 = 0 → EM σ E (gls E q)) :
    CX12_gluings g (d + 26) [.ref 179] σ (fun v s => v = glsA E q ∧ mi s 179 0 = 0 ∧ EM s E (gls E q) ∧ ¬ mi s 179 47 = 0 ∧ Ch chIz noL σ s ∧ (¬ mi σ 179 47 = 0 → mi s 179 59 = mi σ 179 59) ∧ (mi σ 179 47 = 0 → mi s 179 59 = 0)) := by
  refine vcX12_gluings hL (fun s1 e1 => ?_)
  have c1 : Ch (fun a k => a = 179 ∧ k = 0) noL σ s1 := by rw [e1]; exact Ch.rf.si ⟨rfl, rfl⟩
  have hL1 := c1.lay hL
  have z1 : mi s1 179 0 = 0 := by rw [e1, mi_si, if_pos ⟨rfl, rfl⟩]
  have e47 : mi s1 179 47 = mi σ 179 47 := c1.i (by omega)
  have e59 : mi s1 179 59 = mi σ 179 59 := c1.i (by omega)
  refine Ct.imp (sp_isListed (d := d) (q := q) hL1 hE (by rw [c1.i (by omega)]; exact h0) (fun k hk => by rw [c1.i (by omega)]; exact hq k hk) (fun h => (hk (by rw [← e47]; exact h)).ch c1 (by omega) (fun i => by omega))) (fun r s3 w => ?_)
  obtain ⟨v, rfl, hv, hT, h47, c3, k1, k2⟩ := w
  rw [e47] at k1 k2
  have c03 : Ch chIz noL σ s3 := (c1.mono (fun a k h => by simp only [chIz, chI]; omega) (fun _ _ h => h)).trans (c3.mono (fun a k h => by simp only [chI] at h; simp only [chIz, chI]; omega) (fun _ _ h => h))
  have z3 : mi s3 179 0 = 0 := by rw [c3.i (by simp [chI])]; exact z1
  have f59 : ¬ mi σ 179 47 = 0 → mi s3 179 59 = mi σ 179 59 := fun h => by rw [k1 h]; exact e59
  unfold glsA
  refine ⟨_, rfl, c3.fr, fun h => ⟨?_, z3, hT, h47, c03, f59, k2⟩, fun h => ⟨?_, z3, hT, h47, c03, f59, k2⟩⟩
  · rw [i01 hv] at h
    rw [if_neg h]
  · rw [i01 hv, Classical.not_not] at h
    rw [if_pos h, hT.1, Nat.min_eq_left (by omega)]
theorem sp_partner12b {g : GV} {d E : Nat} {q : Nat → Nat} {a e : Int32} {σ : PS} (hL : Lay σ) (hE : E ≤ 22) (h0 : mi σ 179 38 = nI E) (hq : ∀ i, i < E → mi σ 205 i = nI (q i) ∧ q i ≤ 4) (hk : ¬ mi σ 179 47 = 0 → EM σ E (gls E q)) :
    CX12_partner g (d + 27) [.ref 179, .int a, .int e] σ (fun v s => parA E q a e v ∧ mi s 179 0 = 0 ∧ EM s E (gls E q) ∧ ¬ mi s 179 47 = 0 ∧ Ch chIz noL σ s ∧ (¬ mi σ 179 47 = 0 → mi s 179 59 = mi σ 179 59) ∧ (mi σ 179 47 = 0 → mi s 179 59 = 0)) := by
  refine vcX12_partner hL _ _ (fun s1 e1 => ?_)
  have c1 : Ch (fun a k => a = 179 ∧ k = 0) noL σ s1 := by rw [e1]; exact Ch.rf.si ⟨rfl, rfl⟩
  have hL1 := c1.lay hL
  have z1 : mi s1 179 0 = 0 := by rw [e1, mi_si, if_pos ⟨rfl, rfl⟩]
  have e47 : mi s1 179 47 = mi σ 179 47 := c1.i (by omega)
  have e59 : mi s1 179 59 = mi σ 179 59 := c1.i (by omega)
  refine Ct.imp (sp_isGluing (d := d) (a := a) (q := q) hL1 hE (by rw [c1.i (by omega)]; exact h0) (fun k hk => by rw [c1.i (by omega)]; exact hq k hk) (fun h => (hk (by rw [← e47]; exact h)).ch c1 (by omega) (fun i => by omega))) (fun r s3 w => ?_)
  obtain ⟨v, rfl, hv, hT, h47, c3, k1, k2⟩ := w
  rw [e47] at k1 k2
  have c03 : Ch chIz noL σ s3 := (c1.mono (fun a k h => by simp only [chIz, chI]; omega) (fun _ _ h => h)).trans (c3.mono (fun a k h => by simp only [chI] at h; simp only [chIz, chI]; omega) (fun _ _ h => h))
  have z3 : mi s3 179 0 = 0 := by rw [c3.i (by simp [chI])]; exact z1
  have f59 : ¬ mi σ 179 47 = 0 → mi s3 179 59 = mi σ 179 59 := fun h => by rw [k1 h]; exact e59
  refine ⟨_, rfl, c3.fr, fun h => ?_, fun h => ?_⟩
  · rw [i01 hv] at h
    exact ⟨Or.inr ⟨fun z => h ⟨z.1, z.2.1⟩, rfl⟩, z3, hT, h47, c03, f59, k2⟩
  rw [i01 hv, Classical.not_not] at h
  refine Ct.imp (sp_isEdge (c03.lay hL) (by rw [c03.i (by simp [chIz, chI])]; exact h0)) (fun r s5 w => ?_)
  obtain ⟨v2, rfl, hv2, rfl⟩ := w
  refine ⟨_, rfl, Fr.rf, fun h2 => ?_, fun h2 => ?_⟩
  · rw [i01 hv2] at h2
    exact ⟨Or.inr ⟨fun z => h2 z.2.2, rfl⟩, z3, hT, h47, c03, f59, k2⟩
  · rw [i01 hv2, Classical.not_not, inN_is (by omega)] at h2
    obtain ⟨j, hj, rfl⟩ := h2
    obtain ⟨k, hkl, rfl⟩ := (inN_is (by omega)).mp h.2
    obtain ⟨m, hm⟩ : ∃ m, (gls E q)[k]? = some m := ⟨_, List.getElem?_eq_getElem hkl⟩
    rw [show (24 : Int32) * nI k + nI j = nI (24 * k + j) by rw [lit32 24, pk_mul, nI_add]]
    rw [zIN (by omega) (by omega), zCL (by omega)]
    exact ⟨by omega, Or.inl ⟨k, j, m, h.1, hm, hj, rfl, rfl, hT.2 k m (by omega) hm j hj⟩, z3, hT, h47, c03, f59, k2⟩
