/-! ===== the class's undo and redo ===== -/
/-- what the class holds of the figure and the acts -/
def CA (σ : PS) (n : Nat) (x y : Nat → Nat) (E : Nat) (ρ : Nat → Nat) (S : Nat → Mat) (at' last : Nat) : Prop := FF σ 20 n x y E ∧ RowsA σ ρ ∧ mi σ 38 1 = nI at' ∧ mi σ 38 2 = nI last ∧ (∀ i, i ≤ last → MA σ (ρ i) 22 (S i)) ∧ Cor σ 81 E (cl E (S at') E) (cq E (S at') (qt n x y E) E) ∧ mi σ 10 13 = nI (cnt (opn1 (S at')) E) ∧ (gcn E (S at') = E → BF σ 129 n x y E (mt (S at')))
def GoodS (E : Nat) (q : Nat → Nat) (S : Nat → Mat) (last : Nat) : Prop := ∀ i, i ≤ last → Inv E (S i) ∧ A4 E (cl E (S i) E) q
abbrev chAc : Nat → Nat → Prop := fun a i => chSt a i ∨ a = 38 ∧ (i = 1 ∨ i = 2)
/-- settled behind a change of at -/
theorem sp_settleA {g : GV} {d n E at' last : Nat} {x y : Nat → Nat} {ρ : Nat → Nat} {S : Nat → Mat} {σ : PS} (hL : Lay σ) (hV : VF n x y E) (hF : FF σ 20 n x y E) (hR : RowsA σ ρ) (h1 : mi σ 38 1 = nI at') (h2 : mi σ 38 2 = nI last) (hS : ∀ i, i ≤ last → MA σ (ρ i) 22 (S i)) (hal : at' ≤ last) (hl : last ≤ 40) (hG : GoodS E (qt n x y E) S last) :
    CX11_settle g (d + 2) [.ref 10] σ (fun s => CA s n x y E ρ S at' last ∧ mi s 144 3 = -1 ∧ mi s 149 1 = 0 ∧ Ch chSt noL σ s) := by
  obtain ⟨r1, r2, r3⟩ := hR.1 at' (by omega)
  obtain ⟨g1, g2⟩ := hG at' hal
  refine Ct.imp (sp_settle (d := d) hL hF hV h1 (by omega) r1 (kdRow hL r2 r3) ⟨r2, r3⟩ (hS at' hal) g1 g2) (fun r s w => ?_)
  obtain ⟨rfl, a1, a2, a3, a4, a5, c⟩ := w
  refine ⟨rfl, ⟨hF.ch c (fun a i h1 h2 => by simp only [chSt]; omega), ?_, by rw [c.i (by simp [chSt])]; exact h1, by rw [c.i (by simp [chSt])]; exact h2, fun i hi => (hS i hi).ch c (fun e _ => by have := (hR.1 i (by omega)).2; simp only [chSt]; omega), a1, a2, a3⟩, a4, a5, c⟩
  refine ⟨fun i hi => ?_, hR.2⟩
  rw [c.1.2]
  exact hR.1 i hi
theorem sp_undo11 {g : GV} {d n E at' last : Nat} {x y : Nat → Nat} {ρ : Nat → Nat} {S : Nat → Mat} {σ : PS} (hL : Lay σ) (hV : VF n x y E) (hC : CA σ n x y E ρ S at' last) (hal : at' ≤ last) (hl : last ≤ 40) (hG : GoodS E (qt n x y E) S last) :
    CX11_undo g (d + 3) [.ref 10] σ (fun v s => v = (if 0 < at' then 1 else 0) ∧ (at' = 0 → s = σ) ∧ CA s n x y E ρ S (at' - 1) last ∧ (0 < at' → mi s 144 3 = -1 ∧ mi s 149 1 = 0) ∧ Ch chAc noL σ s) := by
  obtain ⟨c1, c2, c3, c4, c5, -⟩ := id hC
  refine vcX11_undo hL ?_
  rw [c3, lit32 0, zEQ (by omega) (by omega)]
  refine ⟨fun hne s1 e1 => ?_, fun h0 => ⟨by rw [if_neg (by omega)], fun _ => rfl, by rw [h0]; rw [h0] at hC; exact hC, fun h => by omega, Ch.rf⟩⟩
  rw [lit32 1, pk_sub (by omega)] at e1
  have k1 : Ch (fun a i => a = 38 ∧ i = 1) noL σ s1 := by rw [e1]; exact Ch.rf.si ⟨rfl, rfl⟩
  refine Ct.imp (sp_settleA (d := d) (k1.lay hL) hV (c1.ch k1 (fun a i _ _ => by omega)) ⟨fun i hi => by rw [k1.1.2]; exact c2.1 i hi, c2.2⟩ (by rw [e1, mi_si, if_pos ⟨rfl, rfl⟩]) (by rw [k1.i (by omega)]; exact c4) (fun i hi => (c5 i hi).ch k1 (fun e _ => by have := (c2.1 i (by omega)).2; omega)) (by omega) hl hG) (fun r s w => ?_)
  obtain ⟨rfl, w1, w2, w3, w4⟩ := w
  refine ⟨rfl, w4.fr, by rw [if_pos (by omega)], fun h => absurd h hne, w1, fun _ => ⟨w2, w3⟩, (k1.mono (fun a i h => Or.inr ⟨h.1, Or.inl h.2⟩) (fun _ _ h => h)).trans (w4.mono (fun a i h => Or.inl h) (fun _ _ h => h))⟩
theorem sp_redo11 {g : GV} {d n E at' last : Nat} {x y : Nat → Nat} {ρ : Nat → Nat} {S : Nat → Mat} {σ : PS} (hL : Lay σ) (hV : VF n x y E) (hC : CA σ n x y E ρ S at' last) (hal : at' ≤ last) (hl : last ≤ 40) (hG : GoodS E (qt n x y E) S last) :
    CX11_redo g (d + 3) [.ref 10] σ (fun v s => v = (if at' < last then 1 else 0) ∧ (at' = last → s = σ) ∧ CA s n x y E ρ S (if at' < last then at' + 1 else at') last ∧ (at' < last → mi s 144 3 = -1 ∧ mi s 149 1 = 0) ∧ Ch chAc noL σ s) := by
  obtain ⟨c1, c2, c3, c4, c5, -⟩ := id hC
  refine vcX11_redo hL ?_
  rw [c3, c4, zEQ (by omega) (by omega)]
  refine ⟨fun hne s1 e1 => ?_, fun h0 => ⟨by rw [if_neg (by omega)], fun _ => rfl, by rw [if_neg (by omega)]; exact hC, fun h => by omega, Ch.rf⟩⟩
  rw [inc rfl] at e1
  have k1 : Ch (fun a i => a = 38 ∧ i = 1) noL σ s1 := by rw [e1]; exact Ch.rf.si ⟨rfl, rfl⟩
  refine Ct.imp (sp_settleA (d := d) (at' := at' + 1) (k1.lay hL) hV (c1.ch k1 (fun a i _ _ => by omega)) ⟨fun i hi => by rw [k1.1.2]; exact c2.1 i hi, c2.2⟩ (by rw [e1, mi_si, if_pos ⟨rfl, rfl⟩]) (by rw [k1.i (by omega)]; exact c4) (fun i hi => (c5 i hi).ch k1 (fun e _ => by have := (c2.1 i (by omega)).2; omega)) (by omega) hl hG) (fun r s w => ?_)
  obtain ⟨rfl, w1, w2, w3, w4⟩ := w
  refine ⟨rfl, w4.fr, by rw [if_pos (by omega)], fun h => absurd h hne, by rw [if_pos (by omega)]; exact w1, fun _ => ⟨w2, w3⟩, (k1.mono (fun a i h => Or.inr ⟨h.1, Or.inl h.2⟩) (fun _ _ h => h)).trans (w4.mono (fun a i h => Or.inl h) (fun _ _ h => h))⟩
