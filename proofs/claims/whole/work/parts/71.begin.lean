/-! ===== the class's acts ===== -/
theorem layRow0 : ∀ r, r < 41 → layK[r + 30]? = some (r + 40, .inr (0, 22)) := by decide +kernel
theorem layRow (r : Nat) (h1 : 40 ≤ r) (h2 : r ≤ 80) : (r, (.inr (0, 22) : KD)) ∈ layK := by
  have := List.mem_of_getElem? (layRow0 (r - 40) (by omega))
  rw [show r - 40 + 40 = r by omega] at this
  exact this
theorem kdRow {s : PS} (h : Lay s) {r : Nat} (h1 : 40 ≤ r) (h2 : r ≤ 80) : kd s r = some (.inr (0, 22)) := h.1 _ (layRow r h1 h2)
/-- which array is which row of states -/
def RowsA (σ : PS) (ρ : Nat → Nat) : Prop := (∀ i, i ≤ 40 → mr σ 39 i = some (ρ i) ∧ 40 ≤ ρ i ∧ ρ i ≤ 80) ∧ ∀ i j, i ≤ 40 → j ≤ 40 → ρ i = ρ j → i = j
theorem mr_sq (σ : PS) (a i b j : Nat) (v : Option Nat) : mr (sq σ a i v) b j = if b = a ∧ j = i then v else mr σ b j := by
  show (if b = a then va_up (mr σ a) i v else mr σ b) j = _
  by_cases h : b = a
  · subst h
    by_cases h2 : j = i <;> simp [va_up, h2]
  · simp [h]
/-- what begin may change -/
def ChA (σ s : PS) : Prop := FrL σ s ∧ (∀ a, a ≠ 39 → mr s a = mr σ a) ∧ (∀ a k, ¬ (a = 38 ∧ (k = 1 ∨ k = 2) ∨ 40 ≤ a ∧ a ≤ 80) → mi s a k = mi σ a k) ∧ ml s = ml σ
theorem sp_begin {g : GV} {d at' : Nat} {ρ : Nat → Nat} {S : Nat → Mat} {σ : PS} (hL : Lay σ) (hR : RowsA σ ρ) (hat : mi σ 38 1 = nI at') (ha : at' ≤ 40) (hS : ∀ i, i ≤ at' → MA σ (ρ i) 22 (S i)) :
    CX0_begin g d [.ref 38] σ (fun v s => ∃ ρ', RowsA s ρ' ∧ v = ρ' (shD at') ∧ mi s 38 1 = nI (shD at') ∧ mi s 38 2 = nI (shD at') ∧ (∀ i, i < shD at' → MA s (ρ' i) 22 (shS S at' i)) ∧ MA s (ρ' (shD at')) 22 (S at') ∧ ChA σ s) := by
  generalize hPP : (fun (v : Nat) (s : PS) => ∃ ρ', RowsA s ρ' ∧ v = ρ' (shD at') ∧ mi s 38 1 = nI (shD at') ∧ mi s 38 2 = nI (shD at') ∧ (∀ i, i < shD at' → MA s (ρ' i) 22 (shS S at' i)) ∧ MA s (ρ' (shD at')) 22 (S at') ∧ ChA σ s) = P
  -- the common end, from a store with room behind row D - 1
  have fin : ∀ (D : Nat) (τ : PS) (ρ' : Nat → Nat) (S' : Nat → Mat), D < 40 → shD at' = D + 1 → Lay τ → RowsA τ ρ' → mi τ 38 1 = nI D → (∀ i, i ≤ D → MA τ (ρ' i) 22 (S' i)) → S' D = S at' → (∀ i, i ≤ D → shS S at' i = S' i) → ChA σ τ →
      vp_in (mi τ 38 1) 41 ∧ ∃ a28 : Nat, mr τ 39 (Int32.toNatClampNeg (mi τ 38 1)) = some a28 ∧ vp_in ((mi τ 38 1) + 1) 41 ∧ ∃ a31 : Nat, mr τ 39 (Int32.toNatClampNeg ((mi τ 38 1) + 1)) = some a31 ∧ ∃ n33, kd τ a28 = some (.inr (0, n33)) ∧ ∃ n35, kd τ a31 = some (.inr (0, n35)) ∧ (¬ (0 : Int32) < 0 ∧ ¬ (0 : Int32) < 0 ∧ ¬ (22 : Int32) < 0 ∧ Int32.toNatClampNeg (0 : Int32) + Int32.toNatClampNeg (22 : Int32) ≤ n33 ∧ Int32.toNatClampNeg (0 : Int32) + Int32.toNatClampNeg (22 : Int32) ≤ n35) ∧ ∀ s38 : PS, s38 = sa τ a31 (va_cpy (mi τ a28) (mi τ a31) (Int32.toNatClampNeg (0 : Int32)) (Int32.toNatClampNeg (0 : Int32)) (Int32.toNatClampNeg (22 : Int32))) → ∀ s40 : PS, s40 = si s38 38 1 ((mi s38 38 1) + 1) → ∀ s42 : PS, s42 = si s40 38 2 (mi s40 38 1) → vp_in (mi s42 38 1) 41 ∧ ∃ a45 : Nat, mr s42 39 (Int32.toNatClampNeg (mi s42 38 1)) = some a45 ∧ P a45 s42 := by
    intro D τ ρ' S' hD hsh hLt hRt h1 hSt hlast hsh2 hcha
    obtain ⟨r1, r2, r3⟩ := hRt.1 D (by omega)
    obtain ⟨r4, r5, r6⟩ := hRt.1 (D + 1) (by omega)
    have hne : ρ' (D + 1) ≠ ρ' D := fun w => by have := hRt.2 _ _ (by omega) (by omega) w; omega
    rw [h1, inc (show nI D + 1 = nI D + 1 from rfl)]
    simp (disch := omega) only [zIN, zCL]
    refine ⟨by omega, ρ' D, r1, by omega, ρ' (D + 1), r4, 22, kdRow hLt r2 r3, 22, kdRow hLt r5 r6, by decide, fun s38 e38 s40 e40 s42 e42 => ?_⟩
    rw [cl0, cl22] at e38
    have v38 : mi s38 38 1 = nI D := by rw [e38, mi_sa, if_neg (by omega)]; exact h1
    rw [v38, inc rfl] at e40
    have v40 : mi s40 38 1 = nI (D + 1) := by rw [e40, mi_si, if_pos ⟨rfl, rfl⟩]
    rw [v40] at e42
    have v42 : mi s42 38 1 = nI (D + 1) := by rw [e42, mi_si, if_neg (by omega)]; exact v40
    have hR42 : RowsA s42 ρ' := by rw [e42, e40, e38]; exact hRt
    have hL42 : Lay s42 := by rw [e42, e40, e38]; exact hLt.sa.si.si
    have hint : ∀ a k, a ≠ 38 → a ≠ ρ' (D + 1) → mi s42 a k = mi τ a k := fun a k q1 q2 => by
      rw [e42, mi_si, if_neg (fun w => q1 w.1), e40, mi_si, if_neg (fun w => q1 w.1), e38, mi_sa, if_neg q2]
    rw [v42]
    simp (disch := omega) only [zIN, zCL]
    refine ⟨by omega, ρ' (D + 1), (hR42.1 (D + 1) (by omega)).1, ?_⟩
    rw [← hPP]
    refine ⟨ρ', hR42, by rw [hsh], by rw [hsh]; exact v42, ?_, fun i hi => ?_, ?_, ?_⟩
    · rw [hsh, e42, mi_si, if_pos ⟨rfl, rfl⟩]
    · rw [hsh] at hi
      have hi2 := (hRt.1 i (by omega)).2
      intro e he
      rw [hint _ e (by omega) (fun w => by have := hRt.2 _ _ (by omega) (by omega) w; omega), hsh2 i (by omega)]
      exact hSt i (by omega) e he
    · rw [hsh]
      intro e he
      rw [e42, mi_si, if_neg (by omega), e40, mi_si, if_neg (by omega), e38, mi_sa, if_pos rfl, cpy0 (by omega)]
      rw [← hlast]
      exact hSt D (Nat.le_refl _) e he
    · obtain ⟨c1, c2, c3, c4⟩ := hcha
      refine ⟨⟨?_, hL42⟩, fun a hne2 => ?_, fun a k hk => ?_, ?_⟩
      · rw [e42, e40, e38]; exact c1.1
      · rw [e42, e40, e38]; exact c2 a hne2
      · by_cases w : a = 38
        · subst w
          rw [e42, mi_si, if_neg (by omega), e40, mi_si, if_neg (by omega), e38, mi_sa, if_neg (by omega)]
          exact c3 38 k hk
        · rw [hint a k w (by omega)]
          exact c3 a k hk
      · rw [e42, e40, e38]; exact c4
  refine vcX0_begin hL ?_
  rw [hat, lit32 40, zEQ (by omega) (by omega)]
  refine ⟨fun hne => ?_, fun heq => ?_⟩
  · have e1 : shD at' = at' + 1 := if_neg hne
    have e2 : shS S at' = S := if_neg hne
    have := fin at' σ ρ S (by omega) e1 hL hR hat hS rfl (fun i _ => by rw [e2]) ⟨⟨rfl, hL⟩, fun _ _ => rfl, fun _ _ _ => rfl, rfl⟩
    rw [hat] at this
    exact this
  · subst heq
    have e1 : shD 40 = 40 := if_pos rfl
    have e2 : shS S 40 = fun i => S (i + 1) := if_pos rfl
    obtain ⟨q1, q2, q3⟩ := hR.1 0 (by omega)
    rw [cl0]
    refine ⟨ρ 0, q1, ?_⟩
    -- the rows move down by one
    have loop : ∀ (z k : Nat) (τ : PS), z = 40 - k → k ≤ 40 → Lay τ → kd τ = kd σ → mi τ = mi σ → ml τ = ml σ → (∀ a, a ≠ 39 → mr τ a = mr σ a) → (∀ i, i ≤ 40 → mr τ 39 i = some (if i < k then ρ (i + 1) else ρ i)) → VX0_begin g d P 18 [some (.ref 38), some (.ref (ρ 0)), some (.int (nI k))] [] τ := by
      intro z
      induction z with
      | zero =>
        intro k τ hz hk hLt hkd hmi hml hmr hrows
        have e : k = 40 := by omega
        subst e
        refine vcX0_begin_18 hLt _ _ (kdRow hLt q2 q3) _ ⟨fun _ s23 e23 s25 e25 => ?_, fun h => absurd (show (40 : Int32) ≤ nI 40 by decide) h⟩
        have e40 : Int32.toNatClampNeg (40 : Int32) = 40 := by decide
        rw [e40] at e23
        have v23 : mi s23 38 1 = nI 40 := by rw [e23]; show mi τ 38 1 = _; rw [hmi]; exact hat
        have e39 : nI 40 - 1 = nI 39 := by decide
        rw [v23, e39] at e25
        have hL25 : Lay s25 := by rw [e25, e23]; exact hLt.sq39.si
        have hmr25 : ∀ i, i ≤ 40 → mr s25 39 i = some (if i = 40 then ρ 0 else ρ (i + 1)) := by
          intro i hi
          rw [e25]
          show mr s23 39 i = _
          rw [e23, mr_sq]
          by_cases w : i = 40
          · rw [if_pos ⟨rfl, w⟩, if_pos w]
          · rw [if_neg (fun z => w z.2), if_neg w, hrows i hi, if_pos (by omega)]
        have hR25 : RowsA s25 (fun i => if i = 40 then ρ 0 else ρ (i + 1)) := by
          refine ⟨fun i hi => ⟨hmr25 i hi, ?_⟩, fun i j hi hj hij => ?_⟩
          · by_cases w : i = 40
            · simp only [if_pos w]; exact ⟨q2, q3⟩
            · simp only [if_neg w]; exact (hR.1 (i + 1) (by omega)).2
          · by_cases w : i = 40
            · by_cases w2 : j = 40
              · omega
              · simp only [if_pos w, if_neg w2] at hij
                have := hR.2 _ _ (by omega) (by omega) hij
                omega
            · by_cases w2 : j = 40
              · simp only [if_pos w2, if_neg w] at hij
                have := hR.2 _ _ (by omega) (by omega) hij
                omega
              · simp only [if_neg w2, if_neg w] at hij
                have := hR.2 _ _ (by omega) (by omega) hij
                omega
        have hint : ∀ a k, a ≠ 38 → mi s25 a k = mi σ a k := fun a k w => by
          rw [e25, mi_si, if_neg (fun z => w z.1), e23]
          show mi τ a k = _
          rw [hmi]
        refine fin 39 s25 (fun i => if i = 40 then ρ 0 else ρ (i + 1)) (fun i => S (i + 1)) (by omega) e1 hL25 hR25 (by rw [e25, mi_si, if_pos ⟨rfl, rfl⟩]) (fun i hi => ?_) rfl (fun i _ => by rw [e2]) ⟨⟨?_, hL25⟩, fun a w => ?_, fun a k w => ?_, ?_⟩
        · have hw : ¬ i = 40 := by omega
          simp only [if_neg hw]
          intro e he
          rw [hint _ e (by have := (hR.1 (i + 1) (by omega)).2; omega)]
          exact hS (i + 1) (by omega) e he
        · rw [e25, e23]; exact hkd
        · rw [e25, e23]
          show mr (sq τ 39 40 _) a = _
          rw [show mr (sq τ 39 40 (some (ρ 0))) a = mr τ a from sr_mr_ne _ w]
          exact hmr a w
        · by_cases w2 : a = 38
          · subst w2
            rw [e25, mi_si, if_neg (by omega), e23]
            show mi τ 38 k = _
            rw [hmi]
          · exact hint a k w2
        · rw [e25, e23]; exact hml
      | succ z ih =>
        intro k τ hz hk hLt hkd hmi hml hmr hrows
        refine vcX0_begin_18 hLt _ _ (kdRow hLt q2 q3) _ ?_
        rw [lit32 40, inc (show nI k + 1 = nI k + 1 from rfl)]
        simp (disch := omega) only [zIN, zCL, zLE]
        have hk1 := hrows (k + 1) (by omega)
        rw [if_neg (by omega)] at hk1
        obtain ⟨p1, p2, p3⟩ := hR.1 (k + 1) (by omega)
        refine ⟨fun h => by omega, fun _ => ⟨by omega, ρ (k + 1), hk1, 22, kdRow hLt p2 p3, by omega, fun s53 e53 x55 e55 => ?_⟩⟩
        rw [e55]
        refine ih (k + 1) s53 (by omega) (by omega) (by rw [e53]; exact hLt.sq39) (by rw [e53]; exact hkd) (by rw [e53]; exact hmi) (by rw [e53]; exact hml) (fun a w => ?_) (fun i hi => ?_)
        · rw [e53, show mr (sq τ 39 k (some (ρ (k + 1)))) a = mr τ a from sr_mr_ne _ w]
          exact hmr a w
        · rw [e53, mr_sq]
          by_cases w : i = k
          · rw [if_pos ⟨rfl, w⟩, if_pos (by omega), w]
          · rw [if_neg (fun z => w z.2), hrows i hi]
            by_cases w2 : i < k
            · rw [if_pos w2, if_pos (by omega)]
            · rw [if_neg w2, if_neg (by omega)]
    exact loop 40 0 σ rfl (by omega) hL rfl rfl rfl (fun _ _ => rfl) (fun i hi => by rw [if_neg (by omega)]; exact (hR.1 i hi).1)
