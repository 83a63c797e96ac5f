/-! ===== the reference's does: a STEP on the squares ===== -/
theorem Sq.ch {s s' : PS} {gr : Nat → Bool} {Pm Pl : Nat → Nat → Prop} (h : Sq s gr) (c : Ch Pm Pl s s') (h1 : ∀ k, ¬ Pm 200 k) (h2 : ¬ Pm 179 34) : Sq s' gr := ⟨fun k hk => by rw [c.i (h1 k)]; exact h.1 k hk, by rw [c.i h2]; exact h.2⟩
theorem Sq.cg {s : PS} {gr gr' : Nat → Bool} (h : Sq s gr) (e : ∀ k, gr' k = gr k) : Sq s gr' := by rw [show gr' = gr from funext e]; exact h
theorem onF_in {x w : Int32} : onF x w → (0 ≤ x ∧ x ≤ 15) ∧ (1 ≤ w ∧ w ≤ 16) ∧ x + w ≤ 16 := by
  rintro ⟨a, c, rfl, rfl, h1, h2⟩
  rw [lit32 0, lit32 15, lit32 1, lit32 16, nI_add, zLE (by omega) (by omega), zLE (by omega) (by omega), zLE (by omega) (by omega), zLE (by omega) (by omega), zLE (by omega) (by omega)]
  omega
theorem in_onF {x w : Int32} (h1 : 0 ≤ x ∧ x ≤ 15) (h2 : 1 ≤ w ∧ w ≤ 16) (h3 : x + w ≤ 16) : ∃ a c : Nat, x = nI a ∧ w = nI c ∧ 1 ≤ c ∧ a + c ≤ 16 := by
  obtain ⟨a, a1, a2, rfl⟩ := wBt (lo := 0) (hi := 15) (by omega) (by omega) (Int32.not_lt.mpr h1.1) (Int32.not_lt.mpr h1.2)
  obtain ⟨c, c1, c2, rfl⟩ := wBt (lo := 1) (hi := 16) (by omega) (by omega) (Int32.not_lt.mpr h2.1) (Int32.not_lt.mpr h2.2)
  rw [nI_add, lit32 16, zLE (by omega) (by omega)] at h3
  exact ⟨a, c, rfl, rfl, c1, h3⟩
theorem doF_4 {rw' : Nat → Nat} {K : Nat} {x y w h : Int32} (hn : ¬ (onF x w ∧ onF y h)) : doF rw' K (x, y, w, h) = .inr 4 := doF_bad (Or.inl ⟨rfl, hn⟩)
