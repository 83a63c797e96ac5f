/-! ===== the reference's worked ===== -/
abbrev chUp (D : Nat) : Nat → Nat → Prop := fun a i => (190 ≤ a ∧ a ≤ 198) ∧ D ≤ i
/-- a level behind a PRODUCT -/
def LvA (s : PS) (D : Nat) (a : Int32 × Int32 × Int32) : Prop := mi s 194 D = a.1 ∧ sgLv s D a.2.1 ∧ mi s 196 D = a.2.2 ∧ mi s 191 D = 0 ∧ mi s 193 D = 0 ∧ (D = 0 ∨ mi s 198 D = 0)
theorem LvA.ch {s s' : PS} {D : Nat} {a : Int32 × Int32 × Int32} {Pm : Nat → Nat → Prop} (h : LvA s D a) (c : Ch Pm noL s s') (hn : ∀ x, ¬ Pm x D) : LvA s' D a := by
  unfold LvA sgLv
  rw [c.i (hn 194), c.i (hn 195), c.i (hn 196), c.i (hn 191), c.i (hn 193), c.i (hn 198)]
  exact h
/-- a line's codes and the names' values -/
def WL (s : PS) (L : List Nat) (T : Nat) (NM : Nat → Nat) (env : Nat → Int32) (l c i0 j0 : Nat) : Prop := mi s 187 l = nI (c + (j0 - i0)) ∧ (∀ k, i0 ≤ k → k < j0 → mi s 188 (c + (k - i0)) = nI (cd L T NM k)) ∧ c + (j0 - i0) ≤ 1000 ∧ l < 1200 ∧ ∀ k, k < T → mi s 199 (1 + k) = env k
theorem WL.ch {s s' : PS} {L : List Nat} {T l c i0 j0 D : Nat} {NM : Nat → Nat} {env : Nat → Int32} (h : WL s L T NM env l c i0 j0) (k : Ch (chUp D) noL s s') : WL s' L T NM env l c i0 j0 := ⟨by rw [k.i (by omega)]; exact h.1, fun q h1 h2 => by rw [k.i (by omega)]; exact h.2.1 q h1 h2, h.2.2.1, h.2.2.2.1, fun q hq => by rw [k.i (by omega)]; exact h.2.2.2.2 q hq⟩
/-- a value at depth D: it becomes the PRODUCT, or the PRODUCT times it -/
theorem wk_268 {g : GV} {d D l q : Nat} {v p : Int32} {s : PS} {P : Int32 → PS → Prop} (hL : Lay s) (hD : D < 7) (h8 : D = 0 ∨ mi s 198 D = 0) (hp : (¬ mi s 197 D = 0 → p = mi s 196 D * v) ∧ (mi s 197 D = 0 → p = v)) (h : ∀ s', s' = si s 196 D p → VX12_worked g (d + 1) P 14 [some (.ref 179), some (.int (nI l)), some (.int (nI D)), some (.int (nI (q + 1))), none, none] [] s') : VX12_worked g (d + 1) P 268 [some (.ref 179), some (.int (nI l)), some (.int (nI D)), some (.int (nI q)), none, some (.int v)] [] s := by
  refine vcX12_worked_268 hL _ _ _ _ ?_
  rw [zIN (by omega) (by omega), zCL (by omega)]
  have e1 : ∀ s1, s1 = si s 196 D (mi s 196 D * v) → ¬ mi s 197 D = 0 → ∀ x : Int32, x = nI q + 1 → VX12_worked g (d + 1) P 14 [some (.ref 179), some (.int (nI l)), some (.int (nI D)), some (.int x), none, none] [] s1 := fun s1 e hne x ex => by rw [inc ex]; exact h s1 (by rw [hp.1 hne]; exact e)
  have e2 : ∀ s1, s1 = si s 196 D v → mi s 197 D = 0 → ∀ x : Int32, x = nI q + 1 → VX12_worked g (d + 1) P 14 [some (.ref 179), some (.int (nI l)), some (.int (nI D)), some (.int x), none, none] [] s1 := fun s1 e hne x ex => by rw [inc ex]; exact h s1 (by rw [hp.2 hne]; exact e)
  refine ⟨fun _ => ⟨hD, fun h7 => ⟨hD, hD, fun s1 e x ex => e1 s1 e h7 x ex⟩, fun h7 => ⟨hD, fun s1 e x ex => e2 s1 e h7 x ex⟩⟩, fun h0 => ⟨hD, fun _ => ⟨hD, fun h7 => ⟨hD, hD, fun s1 e x ex => e1 s1 e h7 x ex⟩, fun h7 => ⟨hD, fun s1 e x ex => e2 s1 e h7 x ex⟩⟩, fun h1 => ?_⟩⟩
  exfalso
  rcases h8 with h8 | h8
  · subst h8
    exact h0 (by rw [lit32 0, zLE (by omega) (by omega)]; omega)
  · rw [h8] at h1
    exact absurd h1 (by decide)
