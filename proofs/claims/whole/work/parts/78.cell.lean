/-! ===== the calls, one after the other: cell ===== -/
theorem wBt {w : Int32} {lo hi : Nat} (hlo : lo < 1000) (hhi : hi < 1000) (h1 : ¬ w < nI lo) (h2 : ¬ nI hi < w) : ∃ j, lo ≤ j ∧ j ≤ hi ∧ w = nI j := by
  have a := Int32.le_iff_toInt_le.mp (Int32.not_lt.mp h1)
  have b := Int32.le_iff_toInt_le.mp (Int32.not_lt.mp h2)
  rw [nI_toInt (by omega)] at a b
  refine ⟨w.toInt.toNat, by omega, by omega, Int32.toInt_inj.mp ?_⟩
  rw [nI_toInt (by omega)]
  omega
def cellA (n : Nat) (x y : Nat → Nat) (E : Nat) (a w v : Int32) : Prop := (∃ k j, k < n ∧ j < 6 ∧ a = nI k ∧ w = nI j ∧ v = (if j = 0 then nI (x k) else if j = 1 then nI (y k) else oI (eAt n x y E (4 * k + j - 2)))) ∨ (∀ k j, k < n → j < 6 → a = nI k → w = nI j → False) ∧ v = -1
theorem sp_cell11 {g : GV} {d n E : Nat} {x y : Nat → Nat} {a w : Int32} {σ : PS} (hL : Lay σ) (hF : FF σ 20 n x y E) :
    CX11_cell g (d + 1) [.ref 10, .int a, .int w] σ (fun v s => cellA n x y E a w v ∧ s = σ) := by
  have hn := hF.1.1.2.1
  refine vcX11_cell hL _ _ (Ct.imp (sp_hasCell hL isF20 hF.1.1.1 hn a) (fun r s1 q => ?_))
  obtain ⟨v, rfl, hv, rfl⟩ := q
  rw [inN_if] at hv
  refine ⟨_, rfl, Fr.rf, fun h => ?_, fun h => ?_⟩
  · rw [i01 hv, Classical.not_not, inN_is (by omega)] at h
    obtain ⟨k, hk, rfl⟩ := h
    refine ⟨fun h0 => ⟨fun h1 => ⟨fun h2 => ⟨Or.inr ⟨fun k' j hk' hj e1 e2 => ?_, rfl⟩, rfl⟩, fun h2 => ⟨fun h5 => ⟨Or.inr ⟨fun k' j hk' hj e1 e2 => ?_, rfl⟩, rfl⟩, fun h5 => ?_⟩⟩, fun h1 => ?_⟩, fun h0 => ?_⟩
    · rw [e2, lit32 2, zLT (by omega) (by omega)] at h2
      rw [e2, lit32 0, zEQ (by omega) (by omega)] at h0
      rw [e2, lit32 1, zEQ (by omega) (by omega)] at h1
      omega
    · rw [e2, lit32 5, zLT (by omega) (by omega)] at h5
      omega
    · obtain ⟨j, j1, j2, rfl⟩ := wBt (lo := 2) (hi := 5) (by omega) (by omega) h2 h5
      rw [show nI k * 4 + nI j - 2 = nI (4 * k + j - 2) by rw [lit32 4, lit32 2, pk_mul, nI_add, pk_sub (by omega), Nat.mul_comm]]
      rw [zIN (by omega) (by omega), zCL (by omega)]
      refine ⟨by omega, Or.inl ⟨k, j, hk, by omega, rfl, rfl, ?_⟩, rfl⟩
      rw [if_neg (by omega), if_neg (by omega)]
      exact hF.2.2.2 _ (by omega)
    · rw [zIN (by omega) (by omega), zCL (by omega)]
      exact ⟨by omega, Or.inl ⟨k, 1, hk, by omega, rfl, h1, by rw [if_neg (by omega), if_pos rfl]; exact hF.1.1.2.2.2.2 k hk⟩, rfl⟩
    · rw [zIN (by omega) (by omega), zCL (by omega)]
      exact ⟨by omega, Or.inl ⟨k, 0, hk, by omega, rfl, h0, by rw [if_pos rfl]; exact hF.1.1.2.2.2.1 k hk⟩, rfl⟩
  · rw [i01 hv] at h
    exact ⟨Or.inr ⟨fun k j hk _ e _ => h ((inN_is (by omega)).mpr ⟨k, hk, e⟩), rfl⟩, rfl⟩
theorem sp_cell12 {g : GV} {d n E : Nat} {x y : Nat → Nat} {a w : Int32} {σ : PS} (hL : Lay σ) (hF : MF σ n x y E) :
    CX12_cell g (d + 1) [.ref 179, .int a, .int w] σ (fun v s => cellA n x y E a w v ∧ s = si σ 179 0 0) := by
  have hn := hF.1.2.1
  refine vcX12_cell hL _ _ (fun s1 e1 => ?_)
  have c1 : Ch (fun a k => a = 179 ∧ k = 0) noL σ s1 := by rw [e1]; exact Ch.rf.si ⟨rfl, rfl⟩
  have hL1 := c1.lay hL
  have hF1 := hF.ch c1 (by omega) (by omega) (fun a i h1 h2 => by omega)
  refine Ct.imp (sp_isCell hL1 hF1.1.1) (fun r s3 q => ?_)
  obtain ⟨v, rfl, hv, rfl⟩ := q
  refine ⟨_, rfl, Fr.rf, fun h => ?_, fun h => ?_⟩
  · rw [i01 hv] at h
    exact ⟨Or.inr ⟨fun k j hk _ e _ => h ((inN_is (by omega)).mpr ⟨k, hk, e⟩), rfl⟩, e1⟩
  rw [i01 hv, Classical.not_not, inN_is (by omega)] at h
  obtain ⟨k, hk, rfl⟩ := h
  refine Ct.imp (sp_within hL1) (fun r s3 q => ?_)
  obtain ⟨v2, rfl, hv2, rfl⟩ := q
  refine ⟨_, rfl, Fr.rf, fun h => ?_, fun h => ?_⟩
  · rw [i01 hv2, Classical.not_not] at h
    obtain ⟨j, j1, j2, rfl⟩ := wBt (lo := 0) (hi := 5) (by omega) (by omega) (Int32.not_lt.mpr h.1) (Int32.not_lt.mpr h.2)
    refine ⟨fun h0 => ⟨fun h1 => ?_, fun h1 => ?_⟩, fun h0 => ?_⟩
    · rw [lit32 0, zEQ (by omega) (by omega)] at h0
      rw [lit32 1, zEQ (by omega) (by omega)] at h1
      rw [show 4 * nI k + nI j - 2 = nI (4 * k + j - 2) by rw [lit32 4, lit32 2, pk_mul, nI_add, pk_sub (by omega)]]
      rw [zIN (by omega) (by omega), zCL (by omega)]
      refine ⟨by omega, Or.inl ⟨k, j, hk, by omega, rfl, rfl, ?_⟩, e1⟩
      rw [if_neg h0, if_neg h1]
      exact hF1.2.2.2 _ (by omega)
    · rw [zIN (by omega) (by omega), zCL (by omega)]
      exact ⟨by omega, Or.inl ⟨k, 1, hk, by omega, rfl, h1, by rw [if_neg (by omega), if_pos rfl]; exact hF1.1.2.2.2.2 k hk⟩, e1⟩
    · rw [zIN (by omega) (by omega), zCL (by omega)]
      exact ⟨by omega, Or.inl ⟨k, 0, hk, by omega, rfl, h0, by rw [if_pos rfl]; exact hF1.1.2.2.2.1 k hk⟩, e1⟩
  · rw [i01 hv2] at h
    refine ⟨Or.inr ⟨fun k' j _ hj _ e2 => h ?_, rfl⟩, e1⟩
    rw [e2, lit32 0, lit32 5, zLE (by omega) (by omega), zLE (by omega) (by omega)]
    omega
