/-! ===== what lies behind the store changes nothing that is told of it ===== -/
theorem Ch.sX {Pm Pl : Nat → Nat → Prop} {σ t : PS} {i : Nat} (h : Ch Pm Pl σ t) : Ch Pm Pl σ (sX t i) := ⟨⟨h.1.1, h.1.2⟩, h.2.1, h.2.2⟩
theorem Lay.sX {σ : PS} {i : Nat} (h : Lay σ) : Lay (sX σ i) := h
theorem LX.out {n : Nat} {x y : Nat → Nat} {E : Nat} {m : Mat} {P : Prop} {σ s : PS} (h : LX n x y E m P σ s) : ¬ P ∧ LKo s n x y E m ∧ Ch chL noL σ s := by
  obtain ⟨h1, t, i, rfl, h2, h3⟩ := h
  exact ⟨h1, h2, h3.sX⟩
/-- the law's out[0] -/
theorem ch_out {Pm : Nat → Nat → Prop} {σ t : PS} {v : Int64} (h : Ch Pm noL σ t) : Ch Pm (fun a k => a = 234 ∧ k = 0) σ (sj t 234 0 v) := by
  refine ⟨⟨h.1.1, h.1.2⟩, h.2.1, fun a k hk => ?_⟩
  rw [← h.2.2 a k (fun z => z)]
  show (if a = 234 then vp_updL (ml t 234) 0 v else ml t a) k = ml t a k
  by_cases ha : a = 234
  · rw [if_pos ha]
    have hk0 : ¬ k = 0 := fun z => hk ⟨ha, z⟩
    subst ha
    show (if k = 0 then v else ml t 234 k) = _
    rw [if_neg hk0]
  · rw [if_neg ha]
