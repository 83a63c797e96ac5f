/-! ===== the class's nets ===== -/
noncomputable def netV (f : Nat → Nat) (n j : Nat) : Int32 := if j = 0 then nI (trU f n).1 else if j = 1 then nI (trU f n).2.1 else nI (trU f n).2.2.length
def netA (n : Nat) (x y : Nat → Nat) (E : Nat) (m : Mat) (w v : Int32) : Prop := (gcn E m = E ∧ n ≤ 8 ∧ ∃ j, j < 3 ∧ w = nI j ∧ v = netV (bdf n x y E m) n j) ∨ (¬ (gcn E m = E ∧ n ≤ 8 ∧ ∃ j, j < 3 ∧ w = nI j) ∧ v = -1)
theorem netA.uniq {n : Nat} {x y : Nat → Nat} {E : Nat} {m : Mat} {w v v' : Int32} (h : netA n x y E m w v) (h' : netA n x y E m w v') : v = v' := by
  rcases h with ⟨a1, a2, j, a3, a4, a5⟩ | ⟨a1, a2⟩
  · rcases h' with ⟨b1, b2, k, b3, b4, b5⟩ | ⟨b1, b2⟩
    · rw [a4, zEQ (by omega) (by omega)] at b4
      rw [a5, b5, b4]
    · exact absurd ⟨a1, a2, j, a3, a4⟩ b1
  · rcases h' with ⟨b1, b2, k, b3, b4, b5⟩ | ⟨b1, b2⟩
    · exact absurd ⟨b1, b2, k, b3, b4⟩ a1
    · rw [a2, b2]
/-- what the class holds of its nets, if they are known -/
def UKo (σ : PS) (n : Nat) (x y : Nat → Nat) (E : Nat) (m : Mat) : Prop := gcn E m = E → n ≤ 8 → ¬ mi σ 149 1 = 0 → UK1 σ (bdf n x y E m) n
theorem sp_nets11 {g : GV} {d n E : Nat} {x y : Nat → Nat} {m : Mat} {a : Int32} {σ : PS} (hL : Lay σ) (hV : VF n x y E) (h1 : mi σ 10 13 = nI (cnt (opn1 m) E)) (h2 : mi σ 20 6 = nI E) (hI : Inv E m) (hB : gcn E m = E → BF σ 129 n x y E (mt m)) (hU : UKo σ n x y E m) :
    CX11_nets g (d + 21) [.ref 10, .int a] σ (fun v s => netA n x y E m a v ∧ UKo s n x y E m ∧ Ch chUn chKe σ s) := by
  have hE := hV.2.2.2.2.2.2
  have hn := hV.2.1
  have hn0 := hV.1
  refine vcX11_nets hL _ (Ct.imp (sp_isB11 hL hE h1 h2 hI) (fun r s z => ?_))
  obtain ⟨v, rfl, hv, rfl⟩ := z
  refine ⟨_, rfl, Fr.rf, fun h => ?_, fun h => ?_⟩
  · rw [i01 hv] at h
    exact ⟨Or.inr ⟨fun w => h w.1, rfl⟩, hU, Ch.rf⟩
  rw [i01 hv, Classical.not_not] at h
  obtain ⟨hD, -⟩ := hB h
  have hm := hI.mt h
  refine ⟨fun ha => ?_, fun ha => ⟨fun ha2 => ?_, fun ha2 => ?_⟩⟩
  · refine ⟨Or.inr ⟨fun w => ?_, rfl⟩, hU, Ch.rf⟩
    obtain ⟨-, -, j, j1, rfl⟩ := w
    rw [lit32 0, zLT (by omega) (by omega)] at ha
    omega
  · refine ⟨Or.inr ⟨fun w => ?_, rfl⟩, hU, Ch.rf⟩
    obtain ⟨-, -, j, j1, rfl⟩ := w
    rw [lit32 2, zLT (by omega) (by omega)] at ha2
    omega
  · obtain ⟨j, j1, j2, rfl⟩ := wBt (lo := 0) (hi := 2) (by omega) (by omega) ha ha2
    rw [hD.1, lit32 8, zLE (by omega) (by omega)]
    refine ⟨fun h8 => ?_, fun h8 => ⟨Or.inr ⟨fun w => h8 w.2.1, rfl⟩, hU, Ch.rf⟩⟩
    refine Ct.imp (sp_work9 (d := d) hL hn0 h8 hD (fun q hq => bdy_inv hV hm hq) (hU h h8)) (fun r s3 w => ?_)
    obtain ⟨rfl, u1, u2, c3⟩ := w
    refine ⟨rfl, c3.fr, ?_⟩
    have ans : ∀ v, v = netV (bdf n x y E m) n j → netA n x y E m (nI j) v ∧ UKo s3 n x y E m ∧ Ch chUn chKe s s3 := fun v e => ⟨Or.inl ⟨h, h8, j, by omega, rfl, e⟩, fun _ _ _ => u1, c3⟩
    rw [lit32 0, lit32 1, zEQ (by omega) (by omega), zEQ (by omega) (by omega)]
    refine ⟨fun k1 => ⟨fun k2 => ans _ ?_, fun k2 => ans _ ?_⟩, fun k1 => ans _ ?_⟩
    · unfold netV; rw [if_neg k1, if_neg k2]; exact u1.2.2
    · unfold netV; rw [if_neg k1, if_pos k2]; exact u1.2.1
    · unfold netV; rw [if_pos k1]; exact u1.1
