/-! ===== the reference's acts ===== -/
/-- row i of an array of rows of 24 -/
def RW (σ : PS) (o i : Nat) (m : Mat) : Prop := ∀ e, e < 24 → mi σ o (24 * i + e) = oI (m e)
theorem RW.ch {σ s : PS} {o i : Nat} {m : Mat} {Pm Pl : Nat → Nat → Prop} (h : RW σ o i m) (c : Ch Pm Pl σ s) (hn : ∀ e, e < 24 → ¬ Pm o (24 * i + e)) : RW s o i m := fun e he => by rw [c.i (hn e he)]; exact h e he
theorem byt2 (o : Option Nat) (h : ∀ k, o = some k → k < 22) : vp_nar .byte (oI o) = oI o := by
  cases o with
  | none => decide +kernel
  | some k =>
    have : ∀ k, k < 22 → vp_nar .byte (nI k) = nI k := by decide +kernel
    exact this k (h k rfl)
abbrev chRow (o i : Nat) : Nat → Nat → Prop := fun a k => a = o ∧ 24 * i ≤ k ∧ k < 24 * i + 24
theorem sp_keeps {g : GV} {d o i : Nat} {m : Mat} {σ : PS} (hL : Lay σ) (ko : kd σ o = some (.inr (2, 960))) (ho : o ≠ 209) (hi : i < 40) (hM : MA σ 209 24 m) (hm : ∀ e k, m e = some k → k < 22) :
    CX12_keeps g d [.ref 179, .ref o, .int (nI i)] σ (fun s => RW s o i m ∧ Ch (chRow o i) noL σ s) := by
  have loop : ∀ (z k : Nat) (s : PS), z = 24 - k → k ≤ 24 → Ch (chRow o i) noL σ s → (∀ e, e < k → mi s o (24 * i + e) = oI (m e)) → VX12_keeps g d (fun s => RW s o i m ∧ Ch (chRow o i) noL σ s) 2 [some (.ref 179), some (.ref o), some (.int (nI i)), some (.int (nI k))] [] s := by
    intro z
    induction z with
    | zero =>
      intro k s hz hk cs h
      have e : k = 24 := by omega
      subst e
      exact vcX12_keeps_2 (cs.lay hL) _ _ (cs.1.1 ▸ ko) _ _ ⟨fun _ => ⟨h, cs⟩, fun h => absurd (show (24 : Int32) ≤ nI 24 by decide) h⟩
    | succ z ih =>
      intro k s hz hk cs h
      have hMk : mi s 209 k = oI (m k) := by rw [cs.i (fun q => ho q.1.symm)]; exact hM k (by omega)
      refine vcX12_keeps_2 (cs.lay hL) _ _ (cs.1.1 ▸ ko) _ _ ?_
      rw [lit32 24, pk_mul, nI_add]
      simp (disch := omega) only [zLE, zIN, zCL, hMk]
      rw [byt (m k) (hm k)]
      refine ⟨fun h => by omega, fun _ => ⟨by omega, by omega, fun s3 e3 x5 e5 => ?_⟩⟩
      rw [inc e5]
      refine ih (k + 1) s3 (by omega) (by omega) (by rw [e3]; exact cs.si ⟨rfl, by omega, by omega⟩) (fun e he => ?_)
      rw [e3, mi_si]
      by_cases w : e = k
      · rw [if_pos ⟨rfl, by omega⟩, w]
      · rw [if_neg (by omega)]; exact h e (by omega)
  exact vcX12_keeps hL _ _ ko _ (loop 24 0 σ rfl (by omega) Ch.rf (fun e he => by omega))
theorem sp_brings {g : GV} {d o i : Nat} {m : Mat} {σ : PS} (hL : Lay σ) (ko : kd σ o = some (.inr (2, 960))) (ho : o ≠ 209) (hi : i < 40) (hM : RW σ o i m) :
    CX12_brings g d [.ref 179, .ref o, .int (nI i)] σ (fun s => MA s 209 24 m ∧ Ch (fun a _ => a = 209) noL σ s) := by
  have loop : ∀ (z k : Nat) (s : PS), z = 24 - k → k ≤ 24 → Ch (fun a _ => a = 209) noL σ s → (∀ e, e < k → mi s 209 e = oI (m e)) → VX12_brings g d (fun s => MA s 209 24 m ∧ Ch (fun a _ => a = 209) noL σ s) 2 [some (.ref 179), some (.ref o), some (.int (nI i)), some (.int (nI k))] [] s := by
    intro z
    induction z with
    | zero =>
      intro k s hz hk cs h
      have e : k = 24 := by omega
      subst e
      exact vcX12_brings_2 (cs.lay hL) _ _ (cs.1.1 ▸ ko) _ _ ⟨fun _ => ⟨h, cs⟩, fun h => absurd (show (24 : Int32) ≤ nI 24 by decide) h⟩
    | succ z ih =>
      intro k s hz hk cs h
      have hMk : mi s o (24 * i + k) = oI (m k) := by rw [cs.i ho]; exact hM k (by omega)
      refine vcX12_brings_2 (cs.lay hL) _ _ (cs.1.1 ▸ ko) _ _ ?_
      rw [lit32 24, pk_mul, nI_add]
      simp (disch := omega) only [zLE, zIN, zCL, hMk]
      refine ⟨fun h => by omega, fun _ => ⟨by omega, by omega, fun s3 e3 x5 e5 => ?_⟩⟩
      rw [inc e5]
      refine ih (k + 1) s3 (by omega) (by omega) (by rw [e3]; exact cs.si rfl) (fun e he => ?_)
      rw [e3, mi_si]
      by_cases w : e = k
      · rw [if_pos ⟨rfl, w⟩, w]
      · rw [if_neg (by omega)]; exact h e (by omega)
  exact vcX12_brings hL _ _ ko _ (loop 24 0 σ rfl (by omega) Ch.rf (fun e he => by omega))
/-- the states behind one more act: the oldest goes when there are too many -/
def shS (S : Nat → Mat) (D : Nat) : Nat → Mat := if D = 40 then fun i => S (i + 1) else S
def shD (D : Nat) : Nat := if D = 40 then 40 else D + 1
abbrev chRem : Nat → Nat → Prop := fun a k => a = 179 ∧ k = 51 ∨ a = 213
theorem sp_remembers {g : GV} {d D : Nat} {S : Nat → Mat} {σ : PS} (hL : Lay σ) (hD : D ≤ 40) (h51 : mi σ 179 51 = nI D) (hM : MA σ 209 24 (S D)) (hS : ∀ i, i < D → RW σ 213 i (S i)) (hm : ∀ i e k, i ≤ D → S i e = some k → k < 22) :
    CX12_remembers g (d + 1) [.ref 179] σ (fun s => mi s 179 51 = nI (shD D) ∧ (∀ i, i < shD D → RW s 213 i (shS S D i)) ∧ Ch chRem noL σ s) := by
  refine vcX12_remembers hL ?_
  rw [h51, lit32 40, zEQ (by omega) (by omega)]
  refine ⟨fun hne => ?_, fun heq => ?_⟩
  · have e1 : shD D = D + 1 := if_neg hne
    have e2 : shS S D = S := if_neg hne
    rw [e1, e2]
    refine Ct.imp (sp_keeps hL (kd_213 hL) (by omega) (by omega) hM (fun e k => hm D e k (Nat.le_refl _))) (fun r s1 w => ?_)
    obtain ⟨rfl, hr, c⟩ := w
    refine ⟨rfl, c.fr, fun s3 e3 => ?_⟩
    rw [c.i (by simp [chRow]), h51, inc rfl] at e3
    have c3 : Ch (fun a k => a = 179 ∧ k = 51) noL s1 s3 := by rw [e3]; exact Ch.rf.si ⟨rfl, rfl⟩
    refine ⟨by rw [e3, mi_si, if_pos ⟨rfl, rfl⟩], fun i hi => ?_, (c.mono (fun a k h => by simp only [chRow] at h; simp only [chRem]; omega) (fun _ _ h => h)).trans (c3.mono (fun a k h => by simp only [chRem]; omega) (fun _ _ h => h))⟩
    by_cases w : i = D
    · rw [w]; exact hr.ch c3 (fun e _ => by omega)
    · exact ((hS i (by omega)).ch c (fun e he => by simp only [chRow]; omega)).ch c3 (fun e _ => by omega)
  · subst heq
    have e1 : shD 40 = 40 := if_pos rfl
    have e2 : shS S 40 = fun i => S (i + 1) := if_pos rfl
    rw [e1, e2]
    have loop : ∀ (z k : Nat) (s : PS), z = 936 - k → k ≤ 936 → Ch (fun a _ => a = 213) noL σ s → (∀ j, j < k → mi s 213 j = mi σ 213 (j + 24)) → (∀ j, k ≤ j → mi s 213 j = mi σ 213 j) →
        VX12_remembers g (d + 1) (fun s => mi s 179 51 = nI 40 ∧ (∀ i, i < 40 → RW s 213 i (S (i + 1))) ∧ Ch chRem noL σ s) 11 [some (.ref 179), some (.int (nI k))] [] s := by
      intro z
      induction z with
      | zero =>
        intro k s hz hk cs h1 h2
        have e : k = 936 := by omega
        subst e
        refine vcX12_remembers_11 (cs.lay hL) _ ⟨fun _ s5 e5 => ?_, fun h => absurd (show (936 : Int32) ≤ nI 936 by decide) h⟩
        have v51 : mi s 179 51 = nI 40 := by rw [cs.i (by omega)]; exact h51
        have e39 : nI 40 - 1 = nI 39 := by decide
        rw [v51, e39] at e5
        have c5 : Ch (fun a k => a = 179 ∧ k = 51) noL s s5 := by rw [e5]; exact Ch.rf.si ⟨rfl, rfl⟩
        have c05 : Ch chRem noL σ s5 := (cs.mono (fun a k h => by simp only [chRem]; omega) (fun _ _ h => h)).trans (c5.mono (fun a k h => by simp only [chRem]; omega) (fun _ _ h => h))
        have w51 : mi s5 179 51 = nI 39 := by rw [e5, mi_si, if_pos ⟨rfl, rfl⟩]
        rw [w51]
        have hL5 := c05.lay hL
        refine Ct.imp (sp_keeps (m := S 40) hL5 (kd_213 hL5) (by omega) (by omega) (fun e he => by rw [c5.i (by omega), cs.i (by omega)]; exact hM e he) (fun e k => hm 40 e k (Nat.le_refl _))) (fun r s7 w => ?_)
        obtain ⟨rfl, hr, c⟩ := w
        refine ⟨rfl, c.fr, fun s9 e9 => ?_⟩
        rw [c.i (by simp [chRow]), w51, inc rfl] at e9
        have c9 : Ch (fun a k => a = 179 ∧ k = 51) noL s7 s9 := by rw [e9]; exact Ch.rf.si ⟨rfl, rfl⟩
        refine ⟨by rw [e9, mi_si, if_pos ⟨rfl, rfl⟩], fun i hi => ?_, (c05.trans (c.mono (fun a k h => by simp only [chRow] at h; simp only [chRem]; omega) (fun _ _ h => h))).trans (c9.mono (fun a k h => by simp only [chRem]; omega) (fun _ _ h => h))⟩
        by_cases w : i = 39
        · rw [w]; exact hr.ch c9 (fun e _ => by omega)
        · intro e he
          rw [c9.i (by omega), c.i (by simp only [chRow]; omega), c5.i (by omega), h1 _ (by omega), show 24 * i + e + 24 = 24 * (i + 1) + e by omega]
          exact hS (i + 1) (by omega) e he
      | succ z ih =>
        intro k s hz hk cs h1 h2
        have hval : mi s 213 (k + 24) = oI (S ((k + 24) / 24) ((k + 24) % 24)) := by
          rw [h2 _ (by omega)]
          have := hS ((k + 24) / 24) (by omega) ((k + 24) % 24) (by omega)
          rw [show 24 * ((k + 24) / 24) + (k + 24) % 24 = k + 24 by omega] at this
          exact this
        have hb := byt2 (S ((k + 24) / 24) ((k + 24) % 24)) (fun j hj => hm _ _ j (by omega) hj)
        refine vcX12_remembers_11 (cs.lay hL) _ ?_
        rw [lit32 936, lit32 24, nI_add]
        simp (disch := omega) only [zLE, zIN, zCL, hval, hb]
        refine ⟨fun h => by omega, fun _ => ⟨by omega, by omega, fun s13 e13 x15 e15 => ?_⟩⟩
        rw [inc e15]
        refine ih (k + 1) s13 (by omega) (by omega) (by rw [e13]; exact cs.si rfl) (fun j hj => ?_) (fun j hj => ?_)
        · rw [e13, mi_si]
          by_cases w : j = k
          · rw [if_pos ⟨rfl, w⟩, w, ← hval, h2 _ (by omega)]
          · rw [if_neg (by omega)]; exact h1 j (by omega)
        · rw [e13, mi_si, if_neg (by omega)]
          exact h2 j (by omega)
    exact loop 936 0 σ rfl (by omega) Ch.rf (fun j hj => by omega) (fun j _ => rfl)
