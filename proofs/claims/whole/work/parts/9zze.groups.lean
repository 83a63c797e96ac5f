/-! ===== the reference's groups ===== -/
/-- a forest: p leads up, r is the root, k falls -/
def Uf (n : Nat) (p r k : Nat → Nat) : Prop := ∀ i, i < n → p i < n ∧ r i < n ∧ p (r i) = r i ∧ r (p i) = r i ∧ (p i ≠ i → k (p i) < k i) ∧ (p i = i → r i = i)
theorem Uf.join {n a b : Nat} {p r k : Nat → Nat} (h : Uf n p r k) (hb : b < n) (ha : p a = a) (hbr : p b = b) (hne : a ≠ b) : Uf n (fun i => if i = a then b else p i) (fun i => if r i = a then b else r i) (fun i => if r i = a then k i + k b + 1 else k i) := by
  have rb : r b = b := (h b hb).2.2.2.2.2 hbr
  intro i hi
  obtain ⟨h1, h2, h3, h4, h5, h6⟩ := h i hi
  dsimp only
  refine ⟨?_, ?_, ?_, ?_, ?_, ?_⟩
  · split
    · exact hb
    · exact h1
  · split
    · exact hb
    · exact h2
  · by_cases e : r i = a
    · rw [if_pos e, if_neg (Ne.symm hne)]; exact hbr
    · rw [if_neg e, if_neg e]; exact h3
  · by_cases e : i = a
    · subst e
      have ri : r i = i := h6 ha
      rw [if_pos rfl, if_pos ri, rb, if_neg (Ne.symm hne)]
    · rw [if_neg e, h4]
  · by_cases e : i = a
    · subst e
      have ri : r i = i := h6 ha
      rw [if_pos rfl, rb, if_neg (Ne.symm hne), if_pos ri]
      intro _
      omega
    · rw [if_neg e, h4]
      intro hp
      have := h5 hp
      split <;> omega
  · by_cases e : i = a
    · rw [if_pos e, e]
      intro q
      exact absurd q.symm hne
    · rw [if_neg e]
      intro q
      have ri := h6 q
      rw [ri, if_neg e]
/-- the groups are those of the joined pairs -/
def UfL (f : Nat → Nat) (n : Nat) (l : List Nat) (r : Nat → Nat) : Prop := ∀ i j, i < n → j < n → (r i = r j ↔ lbs f l i = lbs f l j)
theorem UfL.join {f : Nat → Nat} {n q : Nat} {l : List Nat} {r : Nat → Nat} (h : UfL f n l r) (hq : q / 4 < n) (hfq : f q / 4 < n) : UfL f n (q :: l) (fun i => if r i = r (q / 4) then r (f q / 4) else r i) := by
  intro i j hi hj
  have i1 := h i (q / 4) hi hq
  have i2 := h i (f q / 4) hi hfq
  have j1 := h j (q / 4) hj hq
  have j2 := h j (f q / 4) hj hfq
  have ij := h i j hi hj
  have ii := lbs_le f l i
  have jj := lbs_le f l j
  rw [lbs_c]
  unfold mrg
  have hmin : min (lbs f l (q / 4)) (lbs f l (f q / 4)) = lbs f l (q / 4) ∨ min (lbs f l (q / 4)) (lbs f l (f q / 4)) = lbs f l (f q / 4) := by omega
  dsimp only
  by_cases a : r i = r (q / 4)
  · rw [if_pos a, if_pos (Or.inl (i1.mp a))]
    by_cases b : r j = r (q / 4)
    · rw [if_pos b, if_pos (Or.inl (j1.mp b))]
      exact ⟨fun _ => rfl, fun _ => rfl⟩
    · rw [if_neg b]
      by_cases c : r j = r (f q / 4)
      · rw [if_pos (Or.inr (j2.mp c))]
        exact ⟨fun _ => rfl, fun _ => c.symm⟩
      · rw [if_neg (fun w => w.elim (fun w => b (j1.mpr w)) (fun w => c (j2.mpr w)))]
        refine ⟨fun w => absurd w.symm c, fun w => ?_⟩
        rcases hmin with z | z
        · exact absurd (j1.mpr (by rw [← w, z])) b
        · exact absurd (j2.mpr (by rw [← w, z])) c
  · rw [if_neg a]
    by_cases c : r i = r (f q / 4)
    · rw [if_pos (Or.inr (i2.mp c))]
      by_cases b : r j = r (q / 4)
      · rw [if_pos b, if_pos (Or.inl (j1.mp b))]
        exact ⟨fun _ => rfl, fun _ => c⟩
      · rw [if_neg b]
        by_cases e : r j = r (f q / 4)
        · rw [if_pos (Or.inr (j2.mp e))]
          exact ⟨fun _ => rfl, fun _ => c.trans e.symm⟩
        · rw [if_neg (fun w => w.elim (fun w => b (j1.mpr w)) (fun w => e (j2.mpr w)))]
          refine ⟨fun w => absurd (w.symm.trans c) e, fun w => ?_⟩
          rcases hmin with z | z
          · exact absurd (j1.mpr (by rw [← w, z])) b
          · exact absurd (j2.mpr (by rw [← w, z])) e
    · rw [if_neg (c := lbs f l i = lbs f l (q / 4) ∨ lbs f l i = lbs f l (f q / 4)) (fun w => w.elim (fun w => a (i1.mpr w)) (fun w => c (i2.mpr w)))]
      by_cases b : r j = r (q / 4)
      · rw [if_pos b, if_pos (Or.inl (j1.mp b))]
        refine ⟨fun w => absurd w c, fun w => ?_⟩
        rcases hmin with z | z
        · exact absurd (i1.mpr (by rw [w, z])) a
        · exact absurd (i2.mpr (by rw [w, z])) c
      · rw [if_neg b]
        by_cases e : r j = r (f q / 4)
        · rw [if_pos (Or.inr (j2.mp e))]
          refine ⟨fun w => absurd (w.trans e) c, fun w => ?_⟩
          rcases hmin with z | z
          · exact absurd (i1.mpr (by rw [w, z])) a
          · exact absurd (i2.mpr (by rw [w, z])) c
        · rw [if_neg (fun w => w.elim (fun w => b (j1.mpr w)) (fun w => e (j2.mpr w)))]
          exact ij
theorem sp_groupOf {g : GV} {d n c : Nat} {p r k : Nat → Nat} {σ : PS} (hL : Lay σ) (hn8 : n ≤ 8) (hU : Uf n p r k) (hp : ∀ i, i < n → mi σ 224 i = nI (p i)) (hc : c < n) :
    CX12_groupOf g d [.ref 179, .int (nI c)] σ (fun v s => v = nI (r c) ∧ s = σ) := by
  have loop : ∀ (z i : Nat), k i ≤ z → i < n → r i = r c → VX12_groupOf g d (fun v s => v = nI (r c) ∧ s = σ) 2 [some (.ref 179), none, some (.int (nI i))] [] σ := by
    intro z
    induction z with
    | zero =>
      intro i hz hi hr
      obtain ⟨h1, h2, h3, h4, h5, h6⟩ := hU i hi
      have hpi : p i = i := Classical.byContradiction (fun w => by have := h5 w; omega)
      refine vcX12_groupOf_2 hL _ ?_
      rw [zIN (by omega) (by omega), zCL (by omega), hp i hi, zEQ (by omega) (by omega)]
      exact ⟨by omega, fun _ => ⟨by rw [← hr, h6 hpi], rfl⟩, fun w => absurd hpi w⟩
    | succ z ih =>
      intro i hz hi hr
      obtain ⟨h1, h2, h3, h4, h5, h6⟩ := hU i hi
      refine vcX12_groupOf_2 hL _ ?_
      rw [zIN (by omega) (by omega), zCL (by omega), hp i hi, zEQ (by omega) (by omega)]
      refine ⟨by omega, fun w => ⟨by rw [← hr, h6 w], rfl⟩, fun w => ⟨by omega, fun x3 e3 => ?_⟩⟩
      subst e3
      have := h5 w
      exact ih (p i) (by omega) h1 (by rw [h4]; exact hr)
  exact vcX12_groupOf hL _ (loop (k c) c (Nat.le_refl _) hc rfl)
