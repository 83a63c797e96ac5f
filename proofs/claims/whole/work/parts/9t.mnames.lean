/-! ===== the reference's kindAt, nameOf, fails, puts, tells ===== -/
theorem sp_kindAt {g : GV} {d b : Nat} {L : List Nat} {σ : PS} (hL : Lay σ) (hX : RT σ L b) : CX12_kindAt g (d + 1) [.ref 179] σ (fun v s => ((4 ≤ tk L b ∧ tk L b ≤ 8 ∧ v = nI (tk L b - 4)) ∨ (¬ (4 ≤ tk L b ∧ tk L b ≤ 8) ∧ v = -1)) ∧ s = σ) := by
  have one : ∀ (n : Nat), (if rt L b = 1 ∧ cw L b = n then (1 : Int32) else 0) = 0 ↔ ¬ (rt L b = 1 ∧ cw L b = n) := by
    intro n
    by_cases h : rt L b = 1 ∧ cw L b = n
    · rw [if_pos h]; exact ⟨fun q => absurd q (by decide), fun q => absurd h q⟩
    · rw [if_neg h]; exact ⟨fun _ => h, fun _ => rfl⟩
  have fin : ∀ (k : Nat), 4 ≤ k → k ≤ 8 → tk L b = k → (4 ≤ tk L b ∧ tk L b ≤ 8 ∧ nI (k - 4) = nI (tk L b - 4)) := fun k h1 h2 e => ⟨by omega, by omega, by rw [e]⟩
  refine vcX12_kindAt hL ?_
  refine Ct.imp (sp_isWord (n := 63030) hL hX (by decide)) (fun r s q => ?_)
  obtain ⟨v, rfl, rfl, rfl⟩ := q
  refine ⟨_, rfl, Fr.rf, ?_⟩
  rw [one]
  refine ⟨fun h1 => ?_, fun h1 => ?_⟩
  · refine Ct.imp (sp_isWord (n := 358040) hL hX (by decide)) (fun r s q => ?_)
    obtain ⟨v, rfl, rfl, rfl⟩ := q
    refine ⟨_, rfl, Fr.rf, ?_⟩
    rw [one]
    refine ⟨fun h2 => ?_, fun h2 => ?_⟩
    · refine Ct.imp (sp_isWord (n := 240373) hL hX (by decide)) (fun r s q => ?_)
      obtain ⟨v, rfl, rfl, rfl⟩ := q
      refine ⟨_, rfl, Fr.rf, ?_⟩
      rw [one]
      refine ⟨fun h3 => ?_, fun h3 => ?_⟩
      · refine Ct.imp (sp_isWord (n := 8903) hL hX (by decide)) (fun r s q => ?_)
        obtain ⟨v, rfl, rfl, rfl⟩ := q
        refine ⟨_, rfl, Fr.rf, ?_⟩
        rw [one]
        refine ⟨fun h4 => ?_, fun h4 => ?_⟩
        · refine Ct.imp (sp_isWord (n := 99233) hL hX (by decide)) (fun r s q => ?_)
          obtain ⟨v, rfl, rfl, rfl⟩ := q
          refine ⟨_, rfl, Fr.rf, ?_⟩
          rw [one]
          refine ⟨fun h5 => ⟨Or.inr ⟨fun q => ?_, rfl⟩, rfl⟩, fun h5 => ?_⟩
          · have hw : isW L b := w_tk.mpr (by omega)
            have hr := rt_w.mpr hw
            rw [tk_cw hw, if_neg (fun z => h1 ⟨hr, z⟩), if_neg (fun z => h2 ⟨hr, z⟩), if_neg (fun z => h3 ⟨hr, z⟩), if_neg (fun z => h4 ⟨hr, z⟩), if_neg (fun z => h5 ⟨hr, z⟩)] at q
            omega
          · have h := Classical.not_not.mp h5
            have hw := rt_w.mp h.1
            exact ⟨Or.inl (fin 8 (by omega) (by omega) (by rw [tk_w hw, (cw_8 hw).mp h.2]; rfl)), rfl⟩
        · have h := Classical.not_not.mp h4
          have hw := rt_w.mp h.1
          exact ⟨Or.inl (fin 7 (by omega) (by omega) (by rw [tk_w hw, (cw_7 hw).mp h.2]; rfl)), rfl⟩
      · have h := Classical.not_not.mp h3
        have hw := rt_w.mp h.1
        exact ⟨Or.inl (fin 6 (by omega) (by omega) (by rw [tk_w hw, (cw_6 hw).mp h.2]; rfl)), rfl⟩
    · have h := Classical.not_not.mp h2
      have hw := rt_w.mp h.1
      exact ⟨Or.inl (fin 5 (by omega) (by omega) (by rw [tk_w hw, (cw_5 hw).mp h.2]; rfl)), rfl⟩
  · have h := Classical.not_not.mp h1
    have hw := rt_w.mp h.1
    exact ⟨Or.inl (fin 4 (by omega) (by omega) (by rw [tk_w hw, (cw_4 hw).mp h.2]; rfl)), rfl⟩
/-- the reference's names -/
def RN (σ : PS) (L : List Nat) (told : Nat) (nm : Nat → Nat) : Prop := mi σ 179 20 = nI told ∧ told ≤ 8 ∧ ∀ k, k < told → ml σ 189 k = lN (nm k) ∧ ∃ b, isW L b ∧ cw L b = nm k
theorem RN.ch {σ s : PS} {L : List Nat} {told : Nat} {nm : Nat → Nat} {Pm Pl : Nat → Nat → Prop} (h : RN σ L told nm) (c : Ch Pm Pl σ s) (h1 : ¬ Pm 179 20) (h2 : ∀ i, ¬ Pl 189 i) : RN s L told nm := ⟨by rw [c.i h1]; exact h.1, h.2.1, fun k hk => by rw [c.l (h2 k)]; exact h.2.2 k hk⟩
theorem RT.ch {σ s : PS} {L : List Nat} {b : Nat} {Pm Pl : Nat → Nat → Prop} (h : RT σ L b) (c : Ch Pm Pl σ s) (h1 : ∀ i, 4 ≤ i → i ≤ 8 → ¬ Pm 179 i) (h2 : ¬ Pl 179 7) : RT s L b := by
  unfold RT
  rw [c.i (h1 5 (by omega) (by omega)), c.i (h1 4 (by omega) (by omega)), c.i (h1 6 (by omega) (by omega)), c.i (h1 8 (by omega) (by omega)), c.l h2]
  exact h
theorem sp_nameOf {g : GV} {d b told : Nat} {L : List Nat} {nm : Nat → Nat} {σ : PS} (hL : Lay σ) (hX : RT σ L b) (hN : RN σ L told nm) (hw : isW L b) : CX12_nameOf g d [.ref 179] σ (fun v s => v = oI (slt nm told (cw L b)) ∧ s = σ) := by
  obtain ⟨r1, r2, r3⟩ := id hN
  have loop : ∀ (z k : Nat), z = told - k → k ≤ told → (∀ j, j < k → ¬ nm j = cw L b) → VX12_nameOf g d (fun v s => v = oI (slt nm told (cw L b)) ∧ s = σ) 2 [some (.ref 179), some (.int (nI k))] [] σ := by
    intro z
    induction z with
    | zero =>
      intro k hz hk hq
      have : k = told := by omega
      subst this
      refine vcX12_nameOf_2 hL _ ⟨fun _ => ⟨?_, rfl⟩, fun h => absurd (by rw [r1, zLE (by omega) (by omega)]; omega) h⟩
      have : slt nm k (cw L b) = none := fnd_no (fun j hj => by simpa using hq j hj)
      rw [this]
      rfl
    | succ z ih =>
      intro k hz hk hq
      obtain ⟨b2, b', b1, b3⟩ := r3 k (by omega)
      refine vcX12_nameOf_2 hL _ ⟨fun h => ?_, fun _ => ?_⟩
      · rw [r1, zLE (by omega) (by omega)] at h
        omega
      · rw [zIN (by omega) (by omega), zCL (by omega), b2, hX.2.2.2.1 (rt_w.mpr hw), lg0, pk_lEQ (by rw [← b3]; exact cw_63 b1) (cw_63 hw)]
        refine ⟨by omega, fun hne x3 e3 => ?_, fun he => ⟨?_, rfl⟩⟩
        · rw [inc e3]
          refine ih (k + 1) (by omega) (by omega) (fun j hj => ?_)
          by_cases q : j = k
          · rw [q]; exact hne
          · exact hq j (by omega)
        · have : slt nm told (cw L b) = some k := fnd_is (by omega) (by simpa using he) (fun j hj => by simpa using hq j hj)
          rw [this]
          rfl
  exact vcX12_nameOf hL (loop told 0 rfl (Nat.zero_le _) (fun j hj => by omega))
theorem sp_fails {g : GV} {d b k : Nat} {L : List Nat} {σ : PS} (hL : Lay σ) (hX : RT σ L b) : CX12_fails g d [.ref 179, .int (nI k)] σ (fun v s => v = 0 ∧ mi s 179 9 = nI (k + 16 * b) ∧ Ch (fun a i => a = 179 ∧ i = 9) noL σ s) := by
  refine vcX12_fails hL _ (fun s1 e1 => ?_)
  rw [hX.1, lit32 16, pk_mul, nI_add] at e1
  exact ⟨rfl, by rw [e1, mi_si, if_pos ⟨rfl, rfl⟩], by rw [e1]; exact Ch.rf.si ⟨rfl, rfl⟩⟩
abbrev chPs : Nat → Nat → Prop := fun a i => a = 188 ∨ a = 179 ∧ i = 21
theorem sp_puts {g : GV} {d c v : Nat} {σ : PS} (hL : Lay σ) (hc : mi σ 179 21 = nI c) (hc2 : c < 1000) : CX12_puts g d [.ref 179, .int (nI v)] σ (fun s => mi s 179 21 = nI (c + 1) ∧ (∀ k, mi s 188 k = if k = c then nI v else mi σ 188 k) ∧ Ch chPs noL σ s) := by
  refine vcX12_puts hL _ ?_
  rw [hc, zIN (by omega) (by omega), zCL (by omega)]
  refine ⟨hc2, fun s2 e2 s4 e4 => ?_⟩
  have c2 : mi s2 179 21 = nI c := by rw [e2, mi_si, if_neg (by omega)]; exact hc
  rw [c2, inc rfl] at e4
  refine ⟨by rw [e4, mi_si, if_pos ⟨rfl, rfl⟩], fun k => ?_, by rw [e4, e2]; exact (Ch.rf.si (Or.inl rfl)).si (Or.inr ⟨rfl, rfl⟩)⟩
  rw [e4, mi_si, if_neg (by omega), e2, mi_si]
  by_cases q : k = c
  · rw [if_pos ⟨rfl, q⟩, if_pos q]
  · rw [if_neg (fun z => q z.2), if_neg q]
