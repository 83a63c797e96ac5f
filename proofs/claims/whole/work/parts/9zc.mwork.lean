/-! ===== the reference's opens, sums, tests ===== -/
abbrev chLv (D : Nat) : Nat → Nat → Prop := fun a i => (190 ≤ a ∧ a ≤ 198) ∧ i = D
theorem sp_opens {g : GV} {d D : Nat} {σ : PS} (hL : Lay σ) (hD : D < 7) : CX12_opens g d [.ref 179, .int (nI D)] σ (fun s => mi s 191 D = 0 ∧ mi s 193 D = 0 ∧ mi s 194 D = 0 ∧ mi s 195 D = 20 ∧ mi s 197 D = 0 ∧ Ch (fun a i => (a = 191 ∨ a = 193 ∨ a = 194 ∨ a = 195 ∨ a = 197) ∧ i = D) noL σ s) := by
  refine vcX12_opens hL _ ?_
  rw [zIN (by omega) (by omega), zCL (by omega)]
  refine ⟨hD, fun s2 e2 => ⟨hD, fun s5 e5 => ⟨hD, fun s8 e8 => ⟨hD, fun s11 e11 => ⟨hD, fun s14 e14 => ?_⟩⟩⟩⟩⟩
  refine ⟨?_, ?_, ?_, ?_, ?_, ?_⟩
  · rw [e14, mi_si, if_neg (by omega), e11, mi_si, if_neg (by omega), e8, mi_si, if_neg (by omega), e5, mi_si, if_neg (by omega), e2, mi_si, if_pos ⟨rfl, rfl⟩]
  · rw [e14, mi_si, if_neg (by omega), e11, mi_si, if_neg (by omega), e8, mi_si, if_neg (by omega), e5, mi_si, if_pos ⟨rfl, rfl⟩]
  · rw [e14, mi_si, if_neg (by omega), e11, mi_si, if_neg (by omega), e8, mi_si, if_pos ⟨rfl, rfl⟩]
  · rw [e14, mi_si, if_neg (by omega), e11, mi_si, if_pos ⟨rfl, rfl⟩]
  · rw [e14, mi_si, if_pos ⟨rfl, rfl⟩]
  · rw [e14, e11, e8, e5, e2]
    exact ((((Ch.rf.si (by omega)).si (by omega)).si (by omega)).si (by omega)).si (by omega)
/-- the sign of a level -/
def sgLv (s : PS) (D : Nat) (sg : Int32) : Prop := (mi s 195 D = 20 ∧ sg = 1) ∨ (mi s 195 D = 21 ∧ sg = -1)
theorem sp_sums {g : GV} {d D : Nat} {sg : Int32} {σ : PS} (hL : Lay σ) (hD : D < 7) (hs : sgLv σ D sg) : CX12_sums g d [.ref 179, .int (nI D)] σ (fun s => mi s 194 D = mi σ 194 D + sg * mi σ 196 D ∧ mi s 197 D = 0 ∧ Ch (fun a i => (a = 194 ∨ a = 197) ∧ i = D) noL σ s) := by
  refine vcX12_sums hL _ ?_
  rw [zIN (by omega) (by omega), zCL (by omega)]
  refine ⟨hD, fun h => ⟨hD, hD, hD, fun s5 e5 => ⟨hD, fun s8 e8 => ?_⟩⟩, fun h => ⟨hD, hD, hD, fun s5 e5 => ⟨hD, fun s8 e8 => ?_⟩⟩⟩
  · rcases hs with ⟨-, rfl⟩ | ⟨q, -⟩
    · refine ⟨?_, by rw [e8, mi_si, if_pos ⟨rfl, rfl⟩], by rw [e8, e5]; exact (Ch.rf.si (by omega)).si (by omega)⟩
      rw [e8, mi_si, if_neg (by omega), e5, mi_si, if_pos ⟨rfl, rfl⟩, Int32.one_mul]
    · exact absurd q h
  · rcases hs with ⟨q, -⟩ | ⟨-, rfl⟩
    · rw [q] at h; exact absurd h (by decide)
    · refine ⟨?_, by rw [e8, mi_si, if_pos ⟨rfl, rfl⟩], by rw [e8, e5]; exact (Ch.rf.si (by omega)).si (by omega)⟩
      rw [e8, mi_si, if_neg (by omega), e5, mi_si, if_pos ⟨rfl, rfl⟩, Int32.sub_eq_add_neg, Int32.neg_mul, Int32.one_mul]
theorem sp_tests {g : GV} {d D : Nat} {sg : Int32} {σ : PS} (hL : Lay σ) (hD : D < 7) (hs : sgLv σ D sg) (h1 : mi σ 191 D = 0) (h3 : mi σ 193 D = 0) : CX12_tests g (d + 1) [.ref 179, .int (nI D)] σ (fun s => mi s 190 D = mi σ 194 D + sg * mi σ 196 D ∧ Ch (chLv D) noL σ s) := by
  refine vcX12_tests hL _ (Ct.imp (sp_sums hL hD hs) (fun r s1 q => ?_))
  obtain ⟨rfl, a1, a2, c⟩ := q
  refine ⟨rfl, c.fr, ?_⟩
  rw [zIN (by omega) (by omega), zCL (by omega)]
  have b3 : mi s1 193 D = 0 := by rw [c.i (by omega)]; exact h3
  have b1 : mi s1 191 D = 0 := by rw [c.i (by omega)]; exact h1
  have hL1 := c.lay hL
  have c' : Ch (chLv D) noL σ s1 := c.mono (fun a k h => by omega) (fun _ _ h => h)
  refine ⟨hD, fun x4 e4 => ⟨hD, fun _ => ?_, fun q => absurd (b3.symm.trans q) (by decide)⟩⟩
  subst e4
  refine vcX12_tests_44 hL1 _ _ ?_
  rw [zIN (by omega) (by omega), zCL (by omega)]
  refine ⟨hD, fun _ => ⟨hD, fun _ => ?_, fun q => absurd (b1.symm.trans q) (by decide)⟩, fun q => absurd (b3.symm.trans q) (by decide)⟩
  refine vcX12_tests_106 hL1 _ _ ?_
  rw [zIN (by omega) (by omega), zCL (by omega)]
  refine ⟨hD, fun _ => ⟨hD, fun s20 e20 => ⟨hD, fun s23 e23 => ⟨hD, fun s26 e26 => ⟨hD, fun s29 e29 => ⟨?_, ?_⟩⟩⟩⟩⟩, fun q => absurd (b1.symm.trans q) (by decide)⟩
  · rw [e29, mi_si, if_neg (by omega), e26, mi_si, if_neg (by omega), e23, mi_si, if_neg (by omega), e20, mi_si, if_pos ⟨rfl, rfl⟩]
    exact a1
  · rw [e29, e26, e23, e20]
    exact (((c'.si (by omega)).si (by omega)).si (by omega)).si (by omega)
