/-! ===== Corners: classes of corners by their least, and their sums ===== -/
def Cor (σ : PS) (o E : Nat) (lf qf : Nat → Nat) : Prop := mi σ o 0 = nI E ∧ E ≤ 22 ∧ (∀ i, i < E → mi σ (o + 1) i = nI (lf i)) ∧ ∀ i, i < E → mi σ (o + 2) i = nI (qf i)
def Prt (E : Nat) (lf : Nat → Nat) : Prop := ∀ i, i < E → lf i ≤ i ∧ lf (lf i) = lf i
def uL (lf : Nat → Nat) (a b : Nat) : Nat → Nat := fun i => if lf i = max (lf a) (lf b) then min (lf a) (lf b) else lf i
def uQ (lf qf : Nat → Nat) (a b : Nat) : Nat → Nat := fun i => if ¬ lf a = lf b ∧ i = min (lf a) (lf b) then qf (min (lf a) (lf b)) + qf (max (lf a) (lf b)) else qf i
abbrev chC (o : Nat) : Nat → Nat → Prop := fun x _ => x = o + 1 ∨ x = o + 2
theorem Cor.ch {σ s : PS} {o E : Nat} {lf qf : Nat → Nat} {Pm Pl : Nat → Nat → Prop} (h : Cor σ o E lf qf) (c : Ch Pm Pl σ s) (h0 : ¬ Pm o 0) (h1 : ∀ i, i < E → ¬ Pm (o + 1) i) (h2 : ∀ i, i < E → ¬ Pm (o + 2) i) : Cor s o E lf qf :=
  ⟨by rw [c.i h0]; exact h.1, h.2.1, fun i hi => by rw [c.i (h1 i hi)]; exact h.2.2.1 i hi, fun i hi => by rw [c.i (h2 i hi)]; exact h.2.2.2 i hi⟩
theorem sp_unite_loop {g : GV} {d o E a b lo hi : Nat} {lf qf : Nat → Nat} {P : Int32 → PS → Prop} (io : isC o) (hlo : lo < hi) (hhi : hi < E) (hq : ∀ i, i < E → qf i ≤ 1000) :
    ∀ (n k : Nat) (σ : PS), n = E - k → k ≤ E → Lay σ → mi σ o 0 = nI E → E ≤ 22 → (∀ i, i < E → lf i ≤ i) → (∀ i, i < E → mi σ (o + 1) i = nI (if i < k ∧ lf i = hi then lo else lf i)) → (∀ i, i < E → mi σ (o + 2) i = nI (qf i)) →
      (∀ s, mi s o 0 = nI E → (∀ i, i < E → mi s (o + 1) i = nI (if lf i = hi then lo else lf i)) → (∀ i, i < E → mi s (o + 2) i = nI (if i = lo then qf lo + qf hi else qf i)) → Ch (chC o) noL σ s → P (nI (qf lo + qf hi)) s) →
      VX3_unite g d P 43 [some (.ref o), none, none, some (.int (nI lo)), some (.int (nI hi)), some (.int (nI k))] [] σ := by
  intro n
  induction n with
  | zero =>
    intro k σ hn hk hL h0 hE hlf h1 h2 hp
    have hkE : k = E := by omega
    subst hkE
    have e1 := h2 lo (by omega)
    have e2 := h2 hi hhi
    have b1 := hq lo (by omega)
    have b2 := hq hi hhi
    refine vcX3_unite_43 hL o io _ _ _ ⟨fun _ => ?_, fun hc => ?_⟩
    · simp (disch := omega) only [zIN, zCL, e1, e2, nI_add]
      refine ⟨by omega, by omega, by omega, fun s es => ⟨by omega, ?_⟩⟩
      have hv : mi s (o + 2) lo = nI (qf lo + qf hi) := by rw [es, mi_si, if_pos ⟨rfl, rfl⟩]
      rw [hv]
      refine hp s ?_ ?_ ?_ ?_
      · rw [es, mi_si, if_neg (by omega)]; exact h0
      · intro i hi'
        rw [es, mi_si, if_neg (by omega), h1 i hi']
        congr 1
        by_cases q : lf i = hi <;> simp [q, hi']
      · intro i hi'
        rw [es, mi_si]
        by_cases q : i = lo
        · subst q; simp
        · rw [if_neg (by omega), if_neg q]; exact h2 i hi'
      · rw [es]; exact Ch.rf.si (Or.inr rfl)
    · exact absurd (by rw [h0]; simp (disch := omega) only [zLE]; omega) hc
  | succ n ih =>
    intro k σ hn hk hL h0 hE hlf h1 h2 hp
    have e1 := h1 k (by omega)
    have hlk := hlf k (by omega)
    rw [if_neg (by omega)] at e1
    refine vcX3_unite_43 hL o io _ _ _ ⟨fun hc => ?_, fun _ => ?_⟩
    · rw [h0] at hc
      simp (disch := omega) only [zLE] at hc
      omega
    · simp (disch := omega) only [zIN, zCL, e1, zEQ]
      refine ⟨by omega, fun hne => ⟨by omega, by omega, fun s es x ex => ?_⟩, fun heq => ⟨by omega, fun s es x ex => ?_⟩⟩
      · rw [ex, lit32, nI_add]
        refine ih (k + 1) s (by omega) (by omega) (by rw [es]; exact hL.si) (by rw [es, mi_si, if_neg (by omega)]; exact h0) hE hlf ?_ ?_ (fun s2 a1 a2 a3 a4 => hp s2 a1 a2 a3 ((by rw [es]; exact Ch.rf.si (Or.inl rfl) : Ch (chC o) noL σ s).trans a4))
        · intro i hi'
          rw [es, mi_si]
          by_cases q : i = k
          · subst q
            rw [if_pos ⟨rfl, rfl⟩, if_neg (by omega)]
          · rw [if_neg (by omega), h1 i hi']
            congr 1
            by_cases q2 : i < k
            · simp [q2, show i < k + 1 by omega]
            · simp [q2, show ¬ i < k + 1 by omega]
        · intro i hi'
          rw [es, mi_si, if_neg (by omega)]
          exact h2 i hi'
      · rw [ex, lit32, nI_add]
        refine ih (k + 1) s (by omega) (by omega) (by rw [es]; exact hL.si) (by rw [es, mi_si, if_neg (by omega)]; exact h0) hE hlf ?_ ?_ (fun s2 a1 a2 a3 a4 => hp s2 a1 a2 a3 ((by rw [es]; exact Ch.rf.si (Or.inl rfl) : Ch (chC o) noL σ s).trans a4))
        · intro i hi'
          rw [es, mi_si]
          by_cases q : i = k
          · subst q
            rw [if_pos ⟨rfl, rfl⟩, if_pos ⟨by omega, heq⟩]
          · rw [if_neg (by omega), h1 i hi']
            congr 1
            by_cases q2 : i < k
            · simp [q2, show i < k + 1 by omega]
            · simp [q2, show ¬ i < k + 1 by omega]
        · intro i hi'
          rw [es, mi_si, if_neg (by omega)]
          exact h2 i hi'
