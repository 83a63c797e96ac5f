/-! ===== gluings and partner of both ===== -/
def glsA (E : Nat) (q : Nat → Nat) : Int32 := if (gls E q).length ≤ 2000 then nI (gls E q).length else -1
theorem sp_gluings11 {g : GV} {d E : Nat} {q : Nat → Nat} {σ : PS} (hL : Lay σ) (hE : E ≤ 22) (hq : ∀ i, i < E → q i ≤ 4) (h0 : mi σ 20 6 = nI E) (h8 : ∀ i, i < E → mi σ 28 i = nI (q i)) (hk : ¬ mi σ 87 1 = 0 → EC σ E (gls E q)) :
    CX11_gluings g (d + 26) [.ref 10] σ (fun v s => v = glsA E q ∧ EC s E (gls E q) ∧ ¬ mi s 87 1 = 0 ∧ Ch chW5 noL σ s) := by
  refine vcX11_gluings hL (Ct.imp (sp_work5 (d := d) hL hE hq h0 h8 hk) (fun r s w => ?_))
  obtain ⟨rfl, hT, h1, c⟩ := w
  unfold glsA
  have t1 := hT.1
  have t2 := hT.2.1
  refine ⟨rfl, c.fr, fun h => ⟨?_, hT, h1, c⟩, fun h => ⟨?_, hT, h1, c⟩⟩ <;> rw [t2] at h
  · rw [t1]
    by_cases w : 2000 < (gls E q).length
    · rw [if_pos w] at h; exact absurd h (by decide)
    · rw [if_pos (by omega), Nat.min_eq_left (by omega)]
  · by_cases w : 2000 < (gls E q).length
    · rw [if_neg (by omega)]
    · rw [if_neg w] at h; exact absurd rfl h
theorem sp_gluings12 {g : GV} {d E : Nat} {q : Nat → Nat} {σ : PS} (hL : Lay σ) (hE : E ≤ 22) (h0 : mi σ 179 38 = nI E) (hq : ∀ i, i < E → mi σ 205 i = nI (q i) ∧ q i ≤ 4) (hk : ¬ mi σ 179 47 = 0 → EM σ E (gls E q)) :
    CX12_gluings g (d + 26) [.ref 179] σ (fun v s => v = glsA E q ∧ mi s 179 0 = 0 ∧ EM s E (gls E q) ∧ ¬ mi s 179 47 = 0 ∧ Ch chCh noL σ s ∧ (¬ mi σ 179 47 = 0 → mi s 179 59 = mi σ 179 59) ∧ (mi σ 179 47 = 0 → mi s 179 59 = 0)) := by
  refine vcX12_gluings hL (fun s1 e1 => ?_)
  have c1 : Ch (fun a k => a = 179 ∧ k = 0) noL σ s1 := by rw [e1]; exact Ch.rf.si ⟨rfl, rfl⟩
  have hL1 := c1.lay hL
  have z1 : mi s1 179 0 = 0 := by rw [e1, mi_si, if_pos ⟨rfl, rfl⟩]
  have e47 : mi s1 179 47 = mi σ 179 47 := c1.i (by omega)
  have e59 : mi s1 179 59 = mi σ 179 59 := c1.i (by omega)
  refine Ct.imp (sp_isListed (d := d) (q := q) hL1 hE (by rw [c1.i (by omega)]; exact h0) (fun k hk => by rw [c1.i (by omega)]; exact hq k hk) (fun h => (hk (by rw [← e47]; exact h)).ch c1 (by omega) (fun i => by omega))) (fun r s3 w => ?_)
  obtain ⟨v, rfl, hv, hT, h47, c3, k1, k2⟩ := w
  rw [e47] at k1 k2
  have c03 : Ch chCh noL σ s3 := (c1.mono (fun a k h => by simp only [chCh]; omega) (fun _ _ h => h)).trans (c3.mono (fun a k h => by simp only [chI] at h; simp only [chCh]; omega) (fun _ _ h => h))
  have z3 : mi s3 179 0 = 0 := by rw [c3.i (by simp [chI])]; exact z1
  have f59 : ¬ mi σ 179 47 = 0 → mi s3 179 59 = mi σ 179 59 := fun h => by rw [k1 h]; exact e59
  unfold glsA
  refine ⟨_, rfl, c3.fr, fun h => ⟨?_, z3, hT, h47, c03, f59, k2⟩, fun h => ⟨?_, z3, hT, h47, c03, f59, k2⟩⟩
  · rw [i01 hv] at h
    rw [if_neg h]
  · rw [i01 hv, Classical.not_not] at h
    rw [if_pos h, hT.1, Nat.min_eq_left (by omega)]
def parA (E : Nat) (q : Nat → Nat) (a e v : Int32) : Prop := (∃ k j m, (gls E q).length ≤ 2000 ∧ (gls E q)[k]? = some m ∧ j < E ∧ a = nI k ∧ e = nI j ∧ v = oI (m j)) ∨ (¬ ((gls E q).length ≤ 2000 ∧ inN a (gls E q).length = true ∧ inN e E = true)) ∧ v = -1
theorem sp_partner11 {g : GV} {d E : Nat} {q : Nat → Nat} {a e : Int32} {σ : PS} (hL : Lay σ) (hE : E ≤ 22) (hq : ∀ i, i < E → q i ≤ 4) (h0 : mi σ 20 6 = nI E) (h8 : ∀ i, i < E → mi σ 28 i = nI (q i)) (hk : ¬ mi σ 87 1 = 0 → EC σ E (gls E q)) :
    CX11_partner g (d + 27) [.ref 10, .int a, .int e] σ (fun v s => parA E q a e v ∧ EC s E (gls E q) ∧ ¬ mi s 87 1 = 0 ∧ Ch (fun a i => chW5 a i ∨ a = 91 ∨ a = 92) noL σ s) := by
  refine vcX11_partner hL _ _ (Ct.imp (sp_has5 (d := d) (a := a) hL hE hq h0 h8 hk) (fun r s w => ?_))
  obtain ⟨v, rfl, hv, hT, h1, c⟩ := w
  have cc : Ch (fun a i => chW5 a i ∨ a = 91 ∨ a = 92) noL σ s := c.mono (fun a i h => Or.inl h) (fun _ _ h => h)
  refine ⟨_, rfl, c.fr, fun h => ?_, fun h => ?_⟩
  · rw [i01 hv] at h
    exact ⟨Or.inr ⟨fun z => h ⟨z.1, z.2.1⟩, rfl⟩, hT, h1, cc⟩
  rw [i01 hv, Classical.not_not] at h
  have hL2 := c.lay hL
  refine Ct.imp (sp_hasEdge hL2 isF20 (by rw [c.i (by simp [chW5])]; exact h0) e) (fun r s2 w => ?_)
  obtain ⟨v2, rfl, hv2, rfl⟩ := w
  rw [inN_if] at hv2
  refine ⟨_, rfl, Fr.rf, fun h2 => ?_, fun h2 => ?_⟩
  · rw [i01 hv2, Classical.not_not, inN_is (by omega)] at h2
    obtain ⟨j, hj, rfl⟩ := h2
    obtain ⟨k, hkl, rfl⟩ := (inN_is (by omega)).mp h.2
    obtain ⟨m, hm⟩ : ∃ m, (gls E q)[k]? = some m := ⟨_, List.getElem?_eq_getElem hkl⟩
    refine Ct.imp (sp_tell5 hL2 hE (gls_FM (List.mem_of_getElem? hm)).1 hT (by omega) hm) (fun r s3 w => ?_)
    obtain ⟨rfl, hM, k3⟩ := w
    refine ⟨rfl, k3.fr, by rw [zIN (by omega) (by omega)]; omega, Or.inl ⟨k, j, m, h.1, hm, hj, rfl, rfl, ?_⟩, hT.ch k3 (by omega) (by omega) (fun i => by omega), by rw [k3.i (by omega)]; exact h1, cc.trans (k3.mono (fun a i h => Or.inr h) (fun _ _ h => h))⟩
    rw [zCL (by omega)]
    exact hM j (by omega)
  · rw [i01 hv2] at h2
    exact ⟨Or.inr ⟨fun z => h2 z.2.2, rfl⟩, hT, h1, cc⟩
