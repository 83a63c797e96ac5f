/-! ===== unfoldings: cells laid flat beside one another (numbers alone) ===== -/
abbrev PLc : Type := Int × Int × Nat
/-- the square behind side q of a cell that lies so -/
def stp (f : Nat → Nat) (p : PLc) (q : Nat) : PLc := (p.1 + dX ((q % 4 + 4 - p.2.2) % 4), p.2.1 + dY ((q % 4 + 4 - p.2.2) % 4), (f q % 4 + 6 - (q % 4 + 4 - p.2.2) % 4) % 4)
def Coh (f : Nat → Nat) (P : Nat → PLc) (q : Nat) : Prop := P (f q / 4) = stp f (P (q / 4)) q
theorem dX_opp : ∀ g, g < 4 → dX ((g + 2) % 4) = - dX g := by decide
theorem dY_opp : ∀ g, g < 4 → dY ((g + 2) % 4) = - dY g := by decide
theorem stp_back {f : Nat → Nat} {p : PLc} {q : Nat} (hf : f (f q) = q) (ht : p.2.2 < 4) : stp f (stp f p q) (f q) = p := by
  obtain ⟨a, b, t⟩ := p
  simp only at ht
  unfold stp
  simp only
  have hg : (f q % 4 + 4 - (f q % 4 + 6 - (q % 4 + 4 - t) % 4) % 4) % 4 = ((q % 4 + 4 - t) % 4 + 2) % 4 := by omega
  rw [hg, hf, dX_opp _ (Nat.mod_lt _ (by decide)), dY_opp _ (Nat.mod_lt _ (by decide))]
  refine Prod.ext ?_ (Prod.ext ?_ ?_)
  · show a + dX ((q % 4 + 4 - t) % 4) + -dX ((q % 4 + 4 - t) % 4) = a
    omega
  · show b + dY ((q % 4 + 4 - t) % 4) + -dY ((q % 4 + 4 - t) % 4) = b
    omega
  · show (q % 4 + 6 - ((q % 4 + 4 - t) % 4 + 2) % 4) % 4 = t
    omega
theorem stp_t (f : Nat → Nat) (p : PLc) (q : Nat) : (stp f p q).2.2 < 4 := Nat.mod_lt _ (by decide)
theorem Coh.sym {f : Nat → Nat} {P : Nat → PLc} {q : Nat} (h : Coh f P q) (hf : f (f q) = q) (ht : (P (q / 4)).2.2 < 4) : Coh f P (f q) := by
  unfold Coh at h ⊢
  rw [hf, h, stp_back hf ht]
def rX (r : Nat) (a b : Int) : Int := if r = 0 then a else if r = 1 then -b else if r = 2 then -a else b
def rY (r : Nat) (a b : Int) : Int := if r = 0 then b else if r = 1 then a else if r = 2 then -b else -a
/-- a turn by r quarters and a shift -/
def mot (r : Nat) (u v : Int) (p : PLc) : PLc := (rX r p.1 p.2.1 + u, rY r p.1 p.2.1 + v, (p.2.2 + 4 - r) % 4)
theorem rX_add (r : Nat) (a b a' b' : Int) : rX r (a + a') (b + b') = rX r a b + rX r a' b' := by
  unfold rX
  split
  · rfl
  · split
    · omega
    · split <;> omega
theorem rY_add (r : Nat) (a b a' b' : Int) : rY r (a + a') (b + b') = rY r a b + rY r a' b' := by
  unfold rY
  split
  · rfl
  · split
    · omega
    · split <;> omega
theorem r_d : ∀ r, r < 4 → ∀ g, g < 4 → rX r (dX g) (dY g) = dX ((g + r) % 4) ∧ rY r (dX g) (dY g) = dY ((g + r) % 4) := by decide
theorem mot_stp {f : Nat → Nat} {p : PLc} {q r : Nat} {u v : Int} (hr : r < 4) (ht : p.2.2 < 4) : stp f (mot r u v p) q = mot r u v (stp f p q) := by
  obtain ⟨a, b, t⟩ := p
  simp only at ht
  unfold stp mot
  simp only
  have hg : (q % 4 + 4 - (t + 4 - r) % 4) % 4 = ((q % 4 + 4 - t) % 4 + r) % 4 := by omega
  obtain ⟨e1, e2⟩ := r_d r hr ((q % 4 + 4 - t) % 4) (Nat.mod_lt _ (by decide))
  rw [hg, rX_add, rY_add, e1, e2]
  refine Prod.ext ?_ (Prod.ext ?_ ?_)
  · simp only; omega
  · simp only; omega
  · simp only; omega
theorem mot_ex (p p' : PLc) (h : p.2.2 < 4) (h' : p'.2.2 < 4) : ∃ r u v, r < 4 ∧ mot r u v p = p' := by
  refine ⟨(p.2.2 + 4 - p'.2.2) % 4, p'.1 - rX ((p.2.2 + 4 - p'.2.2) % 4) p.1 p.2.1, p'.2.1 - rY ((p.2.2 + 4 - p'.2.2) % 4) p.1 p.2.1, Nat.mod_lt _ (by decide), ?_⟩
  unfold mot
  refine Prod.ext ?_ (Prod.ext ?_ ?_)
  · simp only; omega
  · simp only; omega
  · simp only; omega
/-! which cells hang together by the pairs that are joined -/
def mrg (lab : Nat → Nat) (a b : Nat) : Nat → Nat := fun i => if lab i = a ∨ lab i = b then min a b else lab i
def lbs (f : Nat → Nat) : List Nat → Nat → Nat
  | [], i => i
  | q :: l, i => mrg (lbs f l) (lbs f l (q / 4)) (lbs f l (f q / 4)) i
theorem lbs_c (f : Nat → Nat) (q : Nat) (l : List Nat) : lbs f (q :: l) = mrg (lbs f l) (lbs f l (q / 4)) (lbs f l (f q / 4)) := rfl
/-- each pair joins what did not hang together before -/
def Acy (f : Nat → Nat) (n : Nat) : List Nat → Prop
  | [] => True
  | q :: l => Acy f n l ∧ q < 4 * n ∧ lbs f l (q / 4) ≠ lbs f l (f q / 4)
theorem mrg_eq {lab : Nat → Nat} {a b i j : Nat} : mrg lab a b i = mrg lab a b j → lab i = lab j ∨ ((lab i = a ∨ lab i = b) ∧ (lab j = a ∨ lab j = b)) ∨ (lab i = a ∨ lab i = b) ∧ lab j = min a b ∨ (lab j = a ∨ lab j = b) ∧ lab i = min a b := by
  unfold mrg
  by_cases h1 : lab i = a ∨ lab i = b
  · by_cases h2 : lab j = a ∨ lab j = b
    · exact fun _ => Or.inr (Or.inl ⟨h1, h2⟩)
    · rw [if_pos h1, if_neg h2]
      exact fun e => Or.inr (Or.inr (Or.inl ⟨h1, e.symm⟩))
  · by_cases h2 : lab j = a ∨ lab j = b
    · rw [if_neg h1, if_pos h2]
      exact fun e => Or.inr (Or.inr (Or.inr ⟨h2, e⟩))
    · rw [if_neg h1, if_neg h2]
      exact Or.inl
/-- a set that no joined pair leaves holds with a cell all that hang together with it -/
theorem lbs_cl {f : Nat → Nat} {S : Nat → Prop} : ∀ (l : List Nat), (∀ q, q ∈ l → (S (q / 4) ↔ S (f q / 4))) → ∀ i j, lbs f l i = lbs f l j → (S i ↔ S j) := by
  intro l
  induction l with
  | nil => intro _ i j e; rw [show i = j from e]
  | cons q l ih =>
    intro hS i j e
    have ih' := ih (fun q' h => hS q' (List.mem_cons_of_mem _ h))
    have hq := hS q List.mem_cons_self
    have onB : ∀ k, lbs f l k = lbs f l (q / 4) ∨ lbs f l k = lbs f l (f q / 4) → (S k ↔ S (q / 4)) := by
      intro k hk
      rcases hk with hk | hk
      · exact ih' _ _ hk
      · exact (ih' _ _ hk).trans hq.symm
    have hmin : min (lbs f l (q / 4)) (lbs f l (f q / 4)) = lbs f l (q / 4) ∨ min (lbs f l (q / 4)) (lbs f l (f q / 4)) = lbs f l (f q / 4) := by omega
    rw [lbs_c] at e
    rcases mrg_eq e with h | ⟨h1, h2⟩ | ⟨h1, h2⟩ | ⟨h1, h2⟩
    · exact ih' _ _ h
    · exact (onB i h1).trans (onB j h2).symm
    · exact (onB i h1).trans (onB j (by rw [h2]; exact hmin)).symm
    · exact (onB i (by rw [h2]; exact hmin)).trans (onB j h1).symm
theorem lbs_le (f : Nat → Nat) : ∀ (l : List Nat) (i : Nat), lbs f l i ≤ i ∧ lbs f l (lbs f l i) = lbs f l i := by
  intro l
  induction l with
  | nil => exact fun i => ⟨Nat.le_refl _, rfl⟩
  | cons q l ih =>
    intro i
    rw [lbs_c]
    have ha := ih (q / 4)
    have hb := ih (f q / 4)
    have hi := ih i
    generalize hA : lbs f l (q / 4) = a at *
    generalize hB : lbs f l (f q / 4) = b at *
    have hm : ∀ k, mrg (lbs f l) a b k = if lbs f l k = a ∨ lbs f l k = b then min a b else lbs f l k := fun k => rfl
    rw [hm i]
    by_cases h : lbs f l i = a ∨ lbs f l i = b
    · rw [if_pos h]
      refine ⟨by omega, ?_⟩
      rw [hm]
      rcases Nat.le_total a b with w | w
      · rw [Nat.min_eq_left w, if_pos (Or.inl ha.2)]
      · rw [Nat.min_eq_right w, if_pos (Or.inr hb.2)]
    · rw [if_neg h]
      refine ⟨hi.1, ?_⟩
      rw [hm, hi.2, if_neg h]
theorem lbs_cnt {f : Nat → Nat} {n : Nat} (hf : ∀ q, q < 4 * n → f q < 4 * n) : ∀ (l : List Nat), Acy f n l → cnt (fun i => lbs f l i == i) n + l.length = n := by
  intro l
  induction l with
  | nil =>
    intro _
    have : ∀ k, cnt (fun i => lbs f [] i == i) k = k := by
      intro k
      induction k with
      | zero => rfl
      | succ k ih => rw [cnt_s, ih, show (lbs f [] k == k) = true from beq_self_eq_true k]; rfl
    exact this n
  | cons q l ih =>
    rintro ⟨h1, h2, h3⟩
    have ih' := ih h1
    have ha := lbs_le f l (q / 4)
    have hb := lbs_le f l (f q / 4)
    have hq := hf q h2
    rw [lbs_c]
    generalize hA : lbs f l (q / 4) = a at *
    generalize hB : lbs f l (f q / 4) = b at *
    have hk : max a b < n := by omega
    have hmx : lbs f l (max a b) = max a b := by
      rcases Nat.le_total a b with w | w
      · rw [Nat.max_eq_right w]; exact hb.2
      · rw [Nat.max_eq_left w]; exact ha.2
    have e1 := cnt_erase (p := fun i => lbs f l i == i) hk (by rw [hmx]; exact beq_self_eq_true _)
    have e2 : cnt (fun i => (lbs f l i == i) && !(i == max a b)) n = cnt (fun i => mrg (lbs f l) a b i == i) n := by
      refine cnt_congr (fun i _ => ?_)
      apply Bool.eq_iff_iff.mpr
      simp only [Bool.and_eq_true, Bool.not_eq_true', beq_iff_eq, beq_eq_false_iff_ne]
      unfold mrg
      by_cases h : lbs f l i = a ∨ lbs f l i = b
      · rw [if_pos h]
        constructor
        · rintro ⟨w1, w2⟩; omega
        · intro w
          have hmn : lbs f l (min a b) = min a b := by
            rcases Nat.le_total a b with w | w
            · rw [Nat.min_eq_left w]; exact ha.2
            · rw [Nat.min_eq_right w]; exact hb.2
          rw [← w, hmn]
          omega
      · rw [if_neg h]
        constructor
        · exact fun w => w.1
        · intro w
          refine ⟨w, fun e => h ?_⟩
          rw [w]
          omega
    rw [e2] at e1
    rw [List.length_cons]
    omega
/-- all hang together -/
theorem lbs_one {f : Nat → Nat} {n : Nat} (hf : ∀ q, q < 4 * n → f q < 4 * n) {l : List Nat} (hA : Acy f n l) (hl : l.length + 1 = n) : ∀ i, i < n → lbs f l i = 0 := by
  intro i hi
  have hc := lbs_cnt hf l hA
  refine Classical.byContradiction (fun h0 => ?_)
  have h := lbs_le f l i
  have hz := (lbs_le f l 0).1
  have := cnt_inj (N := n) (f := fun k => if k = 0 then 0 else lbs f l i) 2 (fun i => lbs f l i == i) (fun k hk => ?_) (fun k k' hk hk' e => ?_)
  · omega
  · by_cases e : k = 0
    · simp only [e, if_true]
      exact ⟨by omega, by rw [beq_iff_eq]; omega⟩
    · simp only [e, if_false]
      exact ⟨by omega, by rw [beq_iff_eq]; exact h.2⟩
  · by_cases e1 : k = 0 <;> by_cases e2 : k' = 0
    · omega
    · exfalso; simp only [e1, e2, if_true, if_false] at e; omega
    · exfalso; simp only [e1, e2, if_true, if_false] at e; omega
    · omega
theorem lbs_in {f : Nat → Nat} {q : Nat} : ∀ {l : List Nat}, q ∈ l → lbs f l (q / 4) = lbs f l (f q / 4) := by
  intro l
  induction l with
  | nil => exact fun h => by cases h
  | cons q' l ih =>
    intro h
    rw [lbs_c]
    unfold mrg
    rcases List.mem_cons.mp h with e | e
    · subst e
      rw [if_pos (Or.inl rfl), if_pos (Or.inr rfl)]
    · rw [ih e]
/-- so all can be laid flat -/
theorem plc_ex {f : Nat → Nat} {n : Nat} : ∀ (l : List Nat), Acy f n l → ∃ P : Nat → PLc, (∀ i, (P i).2.2 < 4) ∧ ∀ q, q ∈ l → Coh f P q := by
  intro l
  induction l with
  | nil => exact fun _ => ⟨fun _ => (0, 0, 0), fun _ => by show 0 < 4; omega, fun q h => by cases h⟩
  | cons q l ih =>
    rintro ⟨h1, h2, h3⟩
    obtain ⟨P, p1, p2⟩ := ih h1
    obtain ⟨r, u, v, hr, hm⟩ := mot_ex (P (f q / 4)) (stp f (P (q / 4)) q) (p1 _) (stp_t _ _ _)
    refine ⟨fun i => if lbs f l i = lbs f l (f q / 4) then mot r u v (P i) else P i, fun i => ?_, fun q' hq' => ?_⟩
    · dsimp only
      split
      · exact Nat.mod_lt _ (by decide)
      · exact p1 i
    · unfold Coh
      dsimp only
      rcases List.mem_cons.mp hq' with e | e
      · subst e
        rw [if_pos rfl, if_neg h3]
        exact hm
      · have hs := lbs_in (f := f) e
        by_cases c : lbs f l (q' / 4) = lbs f l (f q / 4)
        · rw [if_pos c, if_pos (hs ▸ c), p2 q' e, mot_stp hr (p1 _)]
        · rw [if_neg c, if_neg (hs ▸ c)]
          exact p2 q' e
/-- the first cell lies at 0, 0 and is not turned -/
theorem plc_ex0 {f : Nat → Nat} {n : Nat} {l : List Nat} (h : Acy f n l) : ∃ P : Nat → PLc, P 0 = (0, 0, 0) ∧ (∀ i, (P i).2.2 < 4) ∧ ∀ q, q ∈ l → Coh f P q := by
  obtain ⟨P, p1, p2⟩ := plc_ex l h
  obtain ⟨r, u, v, hr, hm⟩ := mot_ex (P 0) (0, 0, 0) (p1 0) (by show 0 < 4; omega)
  refine ⟨fun i => mot r u v (P i), hm, fun i => Nat.mod_lt _ (by decide), fun q hq => ?_⟩
  unfold Coh
  dsimp only
  rw [p2 q hq, mot_stp hr (p1 _)]
noncomputable def plc (f : Nat → Nat) (n : Nat) (l : List Nat) : Nat → PLc := @dite _ (Acy f n l) (Classical.propDecidable _) (fun h => Classical.choose (plc_ex0 h)) (fun _ _ => (0, 0, 0))
theorem plc_is {f : Nat → Nat} {n : Nat} {l : List Nat} (h : Acy f n l) : plc f n l 0 = (0, 0, 0) ∧ (∀ i, (plc f n l i).2.2 < 4) ∧ ∀ q, q ∈ l → Coh f (plc f n l) q := by
  unfold plc
  rw [dif_pos h]
  exact Classical.choose_spec (plc_ex0 h)
