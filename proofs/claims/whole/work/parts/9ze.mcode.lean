/-! ===== the reference's worked: one code ===== -/
theorem wk_14 {g : GV} {d D l q e k : Nat} {s : PS} {P : Int32 → PS → Prop} (hL : Lay s) (hD : D < 7) (hl : l < 1200) (hq : q < e) (he : e ≤ 1000) (h187 : mi s 187 l = nI e) (h188 : mi s 188 q = nI k) (hk : k < 11000) (hk' : k = 28 ∨ k = 29 ∨ k = 20 ∨ k = 21 ∨ k = 22 ∨ k < 10 ∨ 100 ≤ k)
    (h28 : k = 28 → D + 1 < 7 ∧ ∀ s15, s15 = si s 198 (D + 1) 0 → CX12_opens g d [.ref 179, .int (nI (D + 1))] s15 (fun s17 => Fr s15 s17 ∧ VX12_worked g (d + 1) P 14 [some (.ref 179), some (.int (nI l)), some (.int (nI (D + 1))), some (.int (nI (q + 1))), none, none] [] s17))
    (h20 : k = 20 ∨ k = 21 → CX12_sums g d [.ref 179, .int (nI D)] s (fun s28 => Fr s s28 ∧ ∀ s31, s31 = si s28 195 D (nI k) → VX12_worked g (d + 1) P 14 [some (.ref 179), some (.int (nI l)), some (.int (nI D)), some (.int (nI (q + 1))), none, none] [] s31))
    (h22 : k = 22 → ∀ s', s' = si s 197 D (nI k) → VX12_worked g (d + 1) P 14 [some (.ref 179), some (.int (nI l)), some (.int (nI D)), some (.int (nI (q + 1))), none, none] [] s')
    (h29 : k = 29 → 0 < D ∧ CX12_tests g d [.ref 179, .int (nI D)] s (fun s59 => Fr s s59 ∧ VX12_worked g (d + 1) P 268 [some (.ref 179), some (.int (nI l)), some (.int (nI (D - 1))), some (.int (nI q)), none, some (.int (mi s59 190 D))] [] s59))
    (hnm : k < 10 → VX12_worked g (d + 1) P 268 [some (.ref 179), some (.int (nI l)), some (.int (nI D)), some (.int (nI q)), none, some (.int (mi s 199 k))] [] s)
    (hnu : 100 ≤ k → VX12_worked g (d + 1) P 268 [some (.ref 179), some (.int (nI l)), some (.int (nI D)), some (.int (nI q)), none, some (.int (nI (k - 100)))] [] s) :
    VX12_worked g (d + 1) P 14 [some (.ref 179), some (.int (nI l)), some (.int (nI D)), some (.int (nI q)), none, none] [] s := by
  refine vcX12_worked_14 hL _ _ _ ?_
  rw [zIN (by omega) (by omega), zCL (by omega), h187, zLE (by omega) (by omega), zIN (by omega) (by omega), zCL (by omega), h188]
  refine ⟨hl, fun h => by omega, fun _ => ⟨by omega, fun x e10 => ?_⟩⟩
  have E : ∀ m : Nat, m < 200 → (x = nI m ↔ k = m) := fun m hm => by rw [e10, zEQ (by omega) (by omega)]
  have e28 : x = 28 ↔ k = 28 := E 28 (by omega)
  have e30 : x = 30 ↔ k = 30 := E 30 (by omega)
  have e20 : x = 20 ↔ k = 20 := E 20 (by omega)
  have e21 : x = 21 ↔ k = 21 := E 21 (by omega)
  have e22 : x = 22 ↔ k = 22 := E 22 (by omega)
  have e24 : x = 24 ↔ k = 24 := E 24 (by omega)
  have e25 : x = 25 ↔ k = 25 := E 25 (by omega)
  have e26 : x = 26 ↔ k = 26 := E 26 (by omega)
  have e27 : x = 27 ↔ k = 27 := E 27 (by omega)
  have e29 : x = 29 ↔ k = 29 := E 29 (by omega)
  have e100 : x < 100 ↔ k < 100 := by
    rw [e10, show (100 : Int32) = nI 100 from rfl, zLT (by omega) (by omega)]
  have l20 : (20 : Int32) ≤ x ↔ 20 ≤ k := by
    rw [e10, show (20 : Int32) = nI 20 from rfl, zLE (by omega) (by omega)]
  have in7 : vp_in (nI D) 7 := by rw [zIN (by omega) (by omega)]; exact hD
  have cl7 : Int32.toNatClampNeg (nI D) = D := zCL (by omega)
  refine ⟨fun a x12 ex => ?_, fun a28 => ⟨fun a30 => ⟨fun a => ?_, fun a20 => ⟨fun a21 => ⟨fun a22 => ⟨fun a => ?_, fun a24 => ⟨fun a25 => ⟨fun a => ?_, fun a26 => ⟨fun a27 => ⟨fun a => ⟨fun b => ⟨fun a29 => ?_, fun a29 => ?_⟩, fun b => ?_⟩, fun a x76 ex => ?_⟩, fun a => ?_⟩⟩, fun a => ?_⟩⟩, fun a => ?_⟩, fun a => ?_⟩⟩, fun a => ?_⟩⟩
  · have k28 := e28.mp a
    obtain ⟨g1, g2⟩ := h28 k28
    rw [inc ex]
    refine ⟨fun _ => ⟨by rw [zIN (by omega) (by omega)]; exact g1, fun s15 e15 => ?_⟩, fun q => absurd (e30.mp q) (by omega)⟩
    rw [zCL (by omega)] at e15
    refine Ct.imp (g2 s15 e15) (fun r s17 w => ?_)
    obtain ⟨rfl, f, w⟩ := w
    exact ⟨rfl, f, fun x19 e19 => by rw [inc e19]; exact w⟩
  · have k20 := e20.mp a
    refine Ct.imp (h20 (Or.inl k20)) (fun r s28 w => ?_)
    obtain ⟨rfl, f, w⟩ := w
    refine ⟨rfl, f, in7, fun s31 e31 x33 e33 => ?_⟩
    rw [inc e33]
    rw [cl7, e10] at e31
    exact w s31 e31
  · exact absurd (e24.mp a) (by omega)
  · exact absurd (e26.mp a) (by omega)
  · exfalso
    have h1 := l20.mp b
    have h2 := e100.mp a
    have h3 : ¬ k = 29 := fun z => a29 (e29.mpr z)
    have h4 : ¬ k = 28 := fun z => a28 (e28.mpr z)
    have h5 : ¬ k = 20 := fun z => a20 (e20.mpr z)
    have h6 : ¬ k = 21 := fun z => a21 (e21.mpr z)
    have h7 : ¬ k = 22 := fun z => a22 (e22.mpr z)
    omega
  · have k29 := e29.mp a29
    obtain ⟨g1, g2⟩ := h29 k29
    refine Ct.imp g2 (fun r s59 w => ?_)
    obtain ⟨rfl, f, w⟩ := w
    refine ⟨rfl, f, in7, fun x62 e62 x64 e64 => ?_⟩
    obtain ⟨D', rfl⟩ : ∃ D', D = D' + 1 := ⟨D - 1, by omega⟩
    rw [dec1 e64]
    rw [cl7] at e62
    rw [e62]
    exact w
  · have h1 : ¬ 20 ≤ k := fun z => b (l20.mpr z)
    have h2 : k < 10 := by omega
    rw [e10, zIN (by omega) (by omega)]
    refine ⟨by omega, fun x67 e67 => ⟨fun _ => ?_, fun q => absurd (e29.mp (e10.trans q)) (by omega)⟩⟩
    rw [zCL (by omega)] at e67
    rw [e67]
    exact hnm h2
  · have h1 : 100 ≤ k := Nat.le_of_not_lt (fun z => a (e100.mpr z))
    refine ⟨fun _ => ?_, fun q => absurd (e29.mp q) (by omega)⟩
    rw [ex, e10, show (100 : Int32) = nI 100 from rfl, pk_sub (by omega)]
    exact hnu h1
  · exact absurd (e27.mp a) (by omega)
  · exact absurd (e25.mp a) (by omega)
  · have k22 := e22.mp a
    refine ⟨in7, fun s110 e110 x112 e112 => ?_⟩
    rw [inc e112]
    rw [cl7, e10] at e110
    exact h22 k22 s110 e110
  · have k21 := e21.mp a
    refine Ct.imp (h20 (Or.inr k21)) (fun r s28 w => ?_)
    obtain ⟨rfl, f, w⟩ := w
    refine ⟨rfl, f, in7, fun s31 e31 x33 e33 => ?_⟩
    rw [inc e33]
    rw [cl7, e10] at e31
    exact w s31 e31
  · exact absurd (e30.mp a) (by omega)
