/-! ===== the class's Figure ===== -/
abbrev chF (o : Nat) : Nat → Nat → Prop := fun a _ => o ≤ a ∧ a ≤ o + 8
def FC (σ : PS) (o n : Nat) (x y : Nat → Nat) : Prop := mi σ o 3 = nI n ∧ n ≤ 10 ∧ (∀ i, i < n → x i < 16 ∧ y i < 16) ∧ (∀ i, i < n → mi σ (o + 2) i = nI (x i)) ∧ ∀ i, i < n → mi σ (o + 3) i = nI (y i)
/-- next, edges none yet -/
def FN (σ : PS) (o n : Nat) (x y : Nat → Nat) : Prop := FC σ o n x y ∧ ∀ q, q < 4 * n → mi σ (o + 4) q = oI (bhd n x y (q / 4) (q % 4))
/-- a whole figure -/
def FF (σ : PS) (o n : Nat) (x y : Nat → Nat) (E : Nat) : Prop := FN σ o n x y ∧ mi σ o 6 = nI E ∧ (∀ j, j < E → mi σ (o + 6) j = nI (tr n x y j).1 ∧ mi σ (o + 7) j = nI (tr n x y j).2 ∧ mi σ (o + 8) j = nI (qt n x y E j)) ∧ ∀ q, q < 4 * n → mi σ (o + 5) q = oI (eAt n x y E q)
theorem sp_hasCell {g : GV} {d o n : Nat} {σ : PS} (hL : Lay σ) (io : isF o) (h0 : mi σ o 3 = nI n) (hn : n ≤ 10) (a : Int32) :
    CX4_hasCell g d [.ref o, .int a] σ (fun v s => v = (if 0 ≤ a ∧ a < nI n then 1 else 0) ∧ s = σ) := by
  refine vcX4_hasCell hL o io _ ?_
  rw [h0]
  refine ⟨fun h => ⟨?_, rfl⟩, fun h => ⟨fun h2 => ⟨?_, rfl⟩, fun h2 => ⟨?_, rfl⟩⟩⟩
  · rw [if_neg (fun q => Int32.not_lt.mpr q.1 h)]
  · rw [if_neg (fun q => Int32.not_le.mpr q.2 h2)]
  · rw [if_pos ⟨Int32.not_lt.mp h, Int32.not_le.mp h2⟩]
theorem sp_hasEdge {g : GV} {d o E : Nat} {σ : PS} (hL : Lay σ) (io : isF o) (h0 : mi σ o 6 = nI E) (a : Int32) :
    CX4_hasEdge g d [.ref o, .int a] σ (fun v s => v = (if 0 ≤ a ∧ a < nI E then 1 else 0) ∧ s = σ) := by
  refine vcX4_hasEdge hL o io _ ?_
  rw [h0]
  refine ⟨fun h => ⟨?_, rfl⟩, fun h => ⟨fun h2 => ⟨?_, rfl⟩, fun h2 => ⟨?_, rfl⟩⟩⟩
  · rw [if_neg (fun q => Int32.not_lt.mpr q.1 h)]
  · rw [if_neg (fun q => Int32.not_le.mpr q.2 h2)]
  · rw [if_pos ⟨Int32.not_lt.mp h, Int32.not_le.mp h2⟩]
theorem sp_cellAt4 {g : GV} {d o n : Nat} {x y : Nat → Nat} {σ : PS} (hL : Lay σ) (io : isF o) (hM : FC σ o n x y) (a b : Int32) :
    CX4_cellAt g d [.ref o, .int a, .int b] σ (fun v s => v = oI (fnd (fun k => decide (nI (x k) = a) && decide (nI (y k) = b)) n) ∧ s = σ) := by
  obtain ⟨h0, hn, hb, h1, h2⟩ := hM
  have loop : ∀ (z k : Nat), z = n - k → k ≤ n → (∀ j, j < k → (decide (nI (x j) = a) && decide (nI (y j) = b)) = false) → VX4_cellAt g d (fun v s => v = oI (fnd (fun k => decide (nI (x k) = a) && decide (nI (y k) = b)) n) ∧ s = σ) 2 [some (.ref o), some (.int a), some (.int b), some (.int (nI k))] [] σ := by
    intro z
    induction z with
    | zero =>
      intro k hz hk hp
      have hkn : k = n := by omega
      subst hkn
      refine vcX4_cellAt_2 hL o io _ _ _ ⟨fun _ => ⟨by rw [fnd_no hp]; rfl, rfl⟩, fun hc => ?_⟩
      exact absurd (by rw [h0]; simp (disch := omega) only [zLE]; omega) hc
    | succ z ih =>
      intro k hz hk hp
      have e1 := h1 k (by omega)
      have e2 := h2 k (by omega)
      have hi := ih (k + 1) (by omega) (by omega)
      refine vcX4_cellAt_2 hL o io _ _ _ ⟨fun hc => ?_, fun _ => ?_⟩
      · rw [h0] at hc
        simp (disch := omega) only [zLE] at hc
        omega
      · simp (disch := omega) only [zIN, zCL, e1, e2]
        refine ⟨by omega, fun hne x2 q2 => ?_, fun heq => ⟨by omega, fun hne x5 q5 => ?_, fun heq2 => ⟨?_, trivial⟩⟩⟩
        · rw [inc q2]
          exact hi (fun j hj => by
            by_cases e : j = k
            · subst e; simp [hne]
            · exact hp j (by omega))
        · rw [inc q5]
          exact hi (fun j hj => by
            by_cases e : j = k
            · subst e; simp [hne]
            · exact hp j (by omega))
        · rw [fnd_is (k := k) (by omega) (by simp [heq, heq2]) hp]
          rfl
  exact vcX4_cellAt hL o io _ _ (loop n 0 rfl (Nat.zero_le _) (fun j hj => by omega))
theorem FC.ch {σ s : PS} {o n : Nat} {x y : Nat → Nat} {Pm Pl : Nat → Nat → Prop} (h : FC σ o n x y) (c : Ch Pm Pl σ s) (h0 : ¬ Pm o 3) (h1 : ∀ i, i < n → ¬ Pm (o + 2) i) (h2 : ∀ i, i < n → ¬ Pm (o + 3) i) : FC s o n x y :=
  ⟨by rw [c.i h0]; exact h.1, h.2.1, h.2.2.1, fun i hi => by rw [c.i (h1 i hi)]; exact h.2.2.2.1 i hi, fun i hi => by rw [c.i (h2 i hi)]; exact h.2.2.2.2 i hi⟩
theorem sp_linkCells {g : GV} {d o n : Nat} {x y : Nat → Nat} {σ : PS} (hL : Lay σ) (io : isF o) (hM : FC σ o n x y) :
    CX4_linkCells g (d + 1) [.ref o] σ (fun v s => v = nI (opc n x y) ∧ FN s o n x y ∧ (∀ q, q < 4 * n → mi s (o + 5) q = -1) ∧ Ch (fun a _ => a = o + 4 ∨ a = o + 5) noL σ s) := by
  have hn := hM.2.1
  generalize hP : (fun (v : Int32) (s : PS) => v = nI (opc n x y) ∧ FN s o n x y ∧ (∀ q, q < 4 * n → mi s (o + 5) q = -1) ∧ Ch (fun a _ => a = o + 4 ∨ a = o + 5) noL σ s) = P
  have fcs : ∀ s, Ch (fun a _ => a = o + 4 ∨ a = o + 5) noL σ s → FC s o n x y := fun s c => hM.ch c (by omega) (fun i _ => by omega) (fun i _ => by omega)
  have l14 : ∀ (c : Nat), c < n → (∀ s, Ch (fun a _ => a = o + 4 ∨ a = o + 5) noL σ s → (∀ q, q < 4 * (c + 1) → mi s (o + 4) q = oI (bhd n x y (q / 4) (q % 4)) ∧ mi s (o + 5) q = -1) → VX4_linkCells g (d + 1) P 4 [some (.ref o), some (.int (nI (cnt (fun q => (bhd n x y (q / 4) (q % 4)).isNone) (4 * (c + 1))))), some (.int (nI (c + 1))), none, none] [] s) →
      ∀ (z t : Nat) (s : PS), z = 4 - t → t ≤ 4 → Ch (fun a _ => a = o + 4 ∨ a = o + 5) noL σ s → (∀ q, q < 4 * c + t → mi s (o + 4) q = oI (bhd n x y (q / 4) (q % 4)) ∧ mi s (o + 5) q = -1) →
        VX4_linkCells g (d + 1) P 14 [some (.ref o), some (.int (nI (cnt (fun q => (bhd n x y (q / 4) (q % 4)).isNone) (4 * c + t)))), some (.int (nI c)), some (.int (nI t)), none] [] s := by
    intro c hc K z
    induction z with
    | zero =>
      intro t s hz ht cs hq
      have e : t = 4 := by omega
      subst e
      refine vcX4_linkCells_14 (cs.lay hL) o io _ _ _ ⟨fun _ x3 e3 => ?_, fun hc => absurd (show (4 : Int32) ≤ nI 4 by decide) hc⟩
      rw [inc e3]
      exact K s cs hq
    | succ z ih =>
      intro t s hz ht cs hq
      have hF := fcs s cs
      have hcn := cnt_le (fun q => (bhd n x y (q / 4) (q % 4)).isNone) (4 * c + t)
      have e4 : cnt (fun q => (bhd n x y (q / 4) (q % 4)).isNone) (4 * c + (t + 1)) = cnt (fun q => (bhd n x y (q / 4) (q % 4)).isNone) (4 * c + t) + (if (bhd n x y c t).isNone then 1 else 0) := by
        show cnt _ (4 * c + t + 1) = _
        simp only [cnt, show (4 * c + t) / 4 = c by omega, show (4 * c + t) % 4 = t by omega]
      have em : nI c * 4 + nI t = nI (4 * c + t) := by rw [lit32 4, pk_mul, nI_add, Nat.mul_comm]
      refine vcX4_linkCells_14 (cs.lay hL) o io _ _ _ ⟨fun hc => ?_, fun _ => ?_⟩
      · rw [lit32 4, zLE (by omega) (by omega)] at hc
        omega
      · rw [em]
        simp (disch := omega) only [zIN, zCL, hF.2.2.2.1 c hc, hF.2.2.2.2 c hc]
        refine ⟨by omega, by omega, by omega, by omega, Ct.imp (sp_cellAt4 (cs.lay hL) io hF _ _) (fun r s1 q => ?_)⟩
        obtain ⟨v, rfl, rfl, rfl⟩ := q
        rw [bhd_I hF.2.2.1 hc (by omega)]
        refine ⟨_, rfl, Fr.rf, by omega, fun s10 e10 => ⟨by omega, fun s13 e13 => ?_⟩⟩
        have c2 : Ch (fun a _ => a = o + 4 ∨ a = o + 5) noL σ s13 := by rw [e13, e10]; exact (cs.si (Or.inl rfl)).si (Or.inr rfl)
        have hi := ih (t + 1) s13 (by omega) (by omega) c2 (fun q hq2 => by
          rw [e13, e10]
          simp only [mi_si]
          by_cases e : q = 4 * c + t
          · subst e
            simp [show (4 * c + t) / 4 = c by omega, show (4 * c + t) % 4 = t by omega]
          · have := hq q (by omega)
            simp [e, this.1, this.2])
        rw [e4] at hi
        rw [oI_m1 bhd_lt (by omega)]
        refine ⟨fun hv x15 e15 x17 e17 => ?_, fun hv x19 e19 x21 e21 => ?_⟩
        · rw [show (bhd n x y c t).isNone = false by cases hb : bhd n x y c t <;> simp_all] at hi
          rw [inc e17, e15, lit32 0, nI_add]
          exact hi
        · rw [show (bhd n x y c t).isNone = true by rw [hv]; rfl] at hi
          rw [inc e21, inc e19]
          exact hi
  have l4 : ∀ (z c : Nat) (s : PS), z = n - c → c ≤ n → Ch (fun a _ => a = o + 4 ∨ a = o + 5) noL σ s → (∀ q, q < 4 * c → mi s (o + 4) q = oI (bhd n x y (q / 4) (q % 4)) ∧ mi s (o + 5) q = -1) →
      VX4_linkCells g (d + 1) P 4 [some (.ref o), some (.int (nI (cnt (fun q => (bhd n x y (q / 4) (q % 4)).isNone) (4 * c)))), some (.int (nI c)), none, none] [] s := by
    intro z
    induction z with
    | zero =>
      intro c s hz hc cs hq
      have e : c = n := by omega
      subst e
      refine vcX4_linkCells_4 (cs.lay hL) o io _ _ ⟨fun _ => ?_, fun hc => ?_⟩
      · rw [← hP]
        exact ⟨rfl, ⟨fcs s cs, fun q h => (hq q h).1⟩, fun q h => (hq q h).2, cs⟩
      · exact absurd (by rw [(fcs s cs).1]; simp (disch := omega) only [zLE]; omega) hc
    | succ z ih =>
      intro c s hz hc cs hq
      refine vcX4_linkCells_4 (cs.lay hL) o io _ _ ⟨fun hcc => ?_, fun _ => ?_⟩
      · rw [(fcs s cs).1, zLE (by omega) (by omega)] at hcc
        omega
      · exact l14 c (by omega) (fun s2 c2 h2 => ih (c + 1) s2 (by omega) (by omega) c2 h2) 4 0 s rfl (by omega) cs hq
  exact vcX4_linkCells hL o io (l4 n 0 σ rfl (by omega) Ch.rf (fun q hq => by omega))
theorem swf_q {n q m : Nat} {x y : Nat → Nat} : swf n x y (q + 1) m = if (swf n x y q m).testBit (q / 4) then (match bhd n x y (q / 4) (q % 4) with
      | some b => swf n x y q m ||| 2 ^ b
      | none => swf n x y q m) else swf n x y q m := rfl
theorem sp_hangs4 {g : GV} {d o n : Nat} {x y : Nat → Nat} {σ : PS} (hL : Lay σ) (io : isF o) (hM : FN σ o n x y) (hn0 : 0 < n) :
    CX4_hangsTogether g d [.ref o] σ (fun v t => v = (if itr n x y n = 2 ^ n - 1 then 1 else 0) ∧ t = σ) := by
  have hn := hM.1.2.1
  have h0 := hM.1.1
  have hp := p2_10 hn
  generalize hP : (fun (v : Int32) (t : PS) => v = (if itr n x y n = 2 ^ n - 1 then (1 : Int32) else 0) ∧ t = σ) = P
  have l14 : ∀ (r : Nat), VX4_hangsTogether g d P 4 [some (.ref o), some (.int (nI (itr n x y (r + 1)))), some (.int (nI (r + 1))), none] [] σ →
      ∀ (z q : Nat), z = 4 * n - q → q ≤ 4 * n → VX4_hangsTogether g d P 14 [some (.ref o), some (.int (nI (swf n x y q (itr n x y r)))), some (.int (nI r)), some (.int (nI q))] [] σ := by
    intro r K z
    induction z with
    | zero =>
      intro q hz hq
      have e : q = 4 * n := by omega
      subst e
      refine vcX4_hangsTogether_14 hL o io _ _ _ ⟨fun _ x1 e1 => ?_, fun hc => ?_⟩
      · rw [inc e1]; exact K
      · exact absurd (by rw [h0, lit32 4, pk_mul, zLE (by omega) (by omega)]; omega) hc
    | succ z ih =>
      intro q hz hq
      have hm : swf n x y q (itr n x y r) < 2 ^ n := swf_lt (itr_lt hn0 r)
      have hi := ih (q + 1) (by omega) (by omega)
      rw [swf_q] at hi
      have e1 := hM.2 q (by omega)
      refine vcX4_hangsTogether_14 hL o io _ _ _ ⟨fun hc => ?_, fun _ => ?_⟩
      · rw [h0, lit32 4, pk_mul, zLE (by omega) (by omega)] at hc
        omega
      · rw [lit32 4, zDIV (by omega) (by omega) (by omega), zBIT (by omega) (by omega)]
        simp (disch := omega) only [zIN, zCL, e1, oI_m1 (bhd_lt (n := n) (x := x) (y := y)) (show n < 1000 by omega)]
        refine ⟨fun hf x3 e3 => ?_, fun hf => ⟨by omega, fun hb x6 e6 => ?_, fun hb => ⟨by omega, fun x9 e9 x11 e11 => ?_⟩⟩⟩
        · have : ¬ (swf n x y q (itr n x y r)).testBit (q / 4) = true := fun z => by rw [if_pos z] at hf; exact absurd hf (by decide)
          rw [if_neg this] at hi
          rw [inc e3]; exact hi
        · have : (swf n x y q (itr n x y r)).testBit (q / 4) = true := Classical.byContradiction fun z => hf (by rw [if_neg z])
          rw [if_pos this, hb] at hi
          rw [inc e6]; exact hi
        · have : (swf n x y q (itr n x y r)).testBit (q / 4) = true := Classical.byContradiction fun z => hf (by rw [if_neg z])
          rw [if_pos this] at hi
          cases hb2 : bhd n x y (q / 4) (q % 4) with
          | none => exact absurd hb2 hb
          | some b =>
            rw [hb2] at hi e9
            have hbn := bhd_lt b hb2
            have e9' : x9 = nI (swf n x y q (itr n x y r) ||| 2 ^ b) := by rw [e9]; exact zOR1 (by omega)
            rw [inc e11, e9']
            exact hi
  have l4 : ∀ (z r : Nat), z = n - r → r ≤ n → VX4_hangsTogether g d P 4 [some (.ref o), some (.int (nI (itr n x y r))), some (.int (nI r)), none] [] σ := by
    intro z
    induction z with
    | zero =>
      intro r hz hr
      have e : r = n := by omega
      subst e
      have hlt := itr_lt (x := x) (y := y) hn0 r
      refine vcX4_hangsTogether_4 hL o io _ _ ⟨fun _ => ?_, fun hc => ?_⟩
      · rw [h0, zFULL (by omega), zEQ (by omega) (by omega), ← hP]
        exact ⟨fun hne => ⟨by rw [if_neg hne], rfl⟩, fun heq => ⟨by rw [if_pos heq], rfl⟩⟩
      · exact absurd (by rw [h0, zLE (by omega) (by omega)]; omega) hc
    | succ z ih =>
      intro r hz hr
      refine vcX4_hangsTogether_4 hL o io _ _ ⟨fun hc => ?_, fun _ => ?_⟩
      · rw [h0, zLE (by omega) (by omega)] at hc
        omega
      · exact l14 r (ih (r + 1) (by omega) (by omega)) (4 * n) 0 rfl (by omega)
  exact vcX4_hangsTogether hL o io (l4 n 0 rfl (by omega))
