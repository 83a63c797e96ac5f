/-! ===== edge of both ===== -/
def edgeA (n : Nat) (x y : Nat → Nat) (E : Nat) (m : Mat) (a w v : Int32) : Prop := (∃ k j, k < E ∧ j < 4 ∧ a = nI k ∧ w = nI j ∧ v = (if j = 0 then nI (tr n x y k).1 else if j = 1 then nI (tr n x y k).2 else if j = 2 then nI (qt n x y E k) else oI (m k))) ∨ (∀ k j, k < E → j < 4 → a = nI k → w = nI j → False) ∧ v = -1
theorem sp_edge11 {g : GV} {d n E at' last : Nat} {x y : Nat → Nat} {ρ : Nat → Nat} {S : Nat → Mat} {a w : Int32} {σ : PS} (hL : Lay σ) (hE : E ≤ 22) (hC : CA σ n x y E ρ S at' last) (hal : at' ≤ last) (hl : last ≤ 40) :
    CX11_edge g (d + 1) [.ref 10, .int a, .int w] σ (fun v s => edgeA n x y E (S at') a w v ∧ s = σ) := by
  obtain ⟨hF, c2, c3, c4, c5, -⟩ := id hC
  refine vcX11_edge hL _ _ (Ct.imp (sp_hasEdge hL isF20 hF.2.1 a) (fun r s1 q => ?_))
  obtain ⟨v, rfl, hv, rfl⟩ := q
  rw [inN_if] at hv
  refine ⟨_, rfl, Fr.rf, fun h => ?_, fun h => ?_⟩
  · rw [i01 hv, Classical.not_not, inN_is (by omega)] at h
    obtain ⟨k, hk, rfl⟩ := h
    obtain ⟨f1, f2, f3⟩ := hF.2.2.1 k hk
    rw [zIN (by omega) (by omega), zCL (by omega)]
    refine ⟨fun h0 => ⟨by omega, Or.inl ⟨k, 0, hk, by omega, rfl, h0, ?_⟩, rfl⟩, fun h0 => ⟨by omega, Or.inl ⟨k, 1, hk, by omega, rfl, h0, ?_⟩, rfl⟩, fun h0 => ⟨by omega, Or.inl ⟨k, 2, hk, by omega, rfl, h0, ?_⟩, rfl⟩, fun h0 => ?_, fun h0 => ⟨Or.inr ⟨fun k' j _ hj _ e => ?_, rfl⟩, rfl⟩⟩
    · rw [if_pos rfl]; exact f1
    · rw [if_neg (by omega), if_pos rfl]; exact f2
    · rw [if_neg (by omega), if_neg (by omega), if_pos rfl]; exact f3
    · obtain ⟨r1, r2, r3⟩ := c2.1 at' (by omega)
      refine Ct.imp (sp_mates hL c3 (by omega) r1) (fun r s1 w => ?_)
      obtain ⟨v3, rfl, rfl, rfl⟩ := w
      refine ⟨_, rfl, Fr.rf, 22, kdRow hL r2 r3, by rw [zIN (by omega) (by omega)]; omega, Or.inl ⟨k, 3, hk, by omega, rfl, h0, ?_⟩, rfl⟩
      rw [if_neg (by omega), if_neg (by omega), if_neg (by omega)]
      exact c5 at' hal k (by omega)
    · have : j = 0 ∨ j = 1 ∨ j = 2 ∨ j = 3 := by omega
      rcases this with rfl | rfl | rfl | rfl
      · exact h0.1 e
      · exact h0.2.1 e
      · exact h0.2.2.1 e
      · exact h0.2.2.2 e
  · rw [i01 hv] at h
    exact ⟨Or.inr ⟨fun k j hk _ e _ => h ((inN_is (by omega)).mpr ⟨k, hk, e⟩), rfl⟩, rfl⟩
theorem sp_edge12 {g : GV} {d n E : Nat} {x y : Nat → Nat} {m : Mat} {a w : Int32} {σ : PS} (hL : Lay σ) (hE : E ≤ 22) (hF : MF σ n x y E) (hM : MA σ 209 24 m) :
    CX12_edge g (d + 1) [.ref 179, .int a, .int w] σ (fun v s => edgeA n x y E m a w v ∧ s = si σ 179 0 0) := by
  refine vcX12_edge hL _ _ (fun s1 e1 => ?_)
  have c1 : Ch (fun a k => a = 179 ∧ k = 0) noL σ s1 := by rw [e1]; exact Ch.rf.si ⟨rfl, rfl⟩
  have hL1 := c1.lay hL
  have hF1 := hF.ch c1 (by omega) (by omega) (fun a i h1 h2 => by omega)
  have hM1 := hM.ch c1 (fun i _ => by omega)
  refine Ct.imp (sp_isEdge hL1 hF1.2.1) (fun r s3 q => ?_)
  obtain ⟨v, rfl, hv, rfl⟩ := q
  refine ⟨_, rfl, Fr.rf, fun h => ?_, fun h => ?_⟩
  · rw [i01 hv] at h
    exact ⟨Or.inr ⟨fun k j hk _ e _ => h ((inN_is (by omega)).mpr ⟨k, hk, e⟩), rfl⟩, e1⟩
  rw [i01 hv, Classical.not_not, inN_is (by omega)] at h
  obtain ⟨k, hk, rfl⟩ := h
  obtain ⟨f1, f2, f3⟩ := hF1.2.2.1 k hk
  refine Ct.imp (sp_within hL1) (fun r s3 q => ?_)
  obtain ⟨v2, rfl, hv2, rfl⟩ := q
  refine ⟨_, rfl, Fr.rf, fun h => ?_, fun h => ?_⟩
  · rw [i01 hv2, Classical.not_not] at h
    obtain ⟨j, j1, j2, rfl⟩ := wBt (lo := 0) (hi := 3) (by omega) (by omega) (Int32.not_lt.mpr h.1) (Int32.not_lt.mpr h.2)
    rw [zIN (by omega) (by omega), zCL (by omega)]
    rw [lit32 0, lit32 1, lit32 2, zEQ (by omega) (by omega), zEQ (by omega) (by omega), zEQ (by omega) (by omega)]
    refine ⟨fun h0 => ⟨fun h1 => ⟨fun h2 => ⟨by omega, Or.inl ⟨k, j, hk, by omega, rfl, rfl, ?_⟩, e1⟩, fun h2 => ⟨by omega, Or.inl ⟨k, j, hk, by omega, rfl, rfl, ?_⟩, e1⟩⟩, fun h1 => ⟨by omega, Or.inl ⟨k, j, hk, by omega, rfl, rfl, ?_⟩, e1⟩⟩, fun h0 => ⟨by omega, Or.inl ⟨k, j, hk, by omega, rfl, rfl, ?_⟩, e1⟩⟩
    · rw [if_neg h0, if_neg h1, if_neg h2]; exact hM1 k (by omega)
    · rw [if_neg h0, if_neg h1, if_pos h2]; exact f3
    · rw [if_neg h0, if_pos h1]; exact f2
    · rw [if_pos h0]; exact f1
  · rw [i01 hv2] at h
    refine ⟨Or.inr ⟨fun k' j _ hj _ e2 => h ?_, rfl⟩, e1⟩
    rw [e2, lit32 0, lit32 3, zLE (by omega) (by omega), zLE (by omega) (by omega)]
    omega
