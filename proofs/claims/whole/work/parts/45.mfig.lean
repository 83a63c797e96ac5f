/-! ===== the reference's figure: cells, what lies behind, the rim ===== -/
def MC (σ : PS) (n : Nat) (x y : Nat → Nat) : Prop := mi σ 179 35 = nI n ∧ n ≤ 10 ∧ (∀ i, i < n → x i < 16 ∧ y i < 16) ∧ (∀ i, i < n → mi σ 201 i = nI (x i)) ∧ ∀ i, i < n → mi σ 202 i = nI (y i)
theorem MC.ch {σ s : PS} {n : Nat} {x y : Nat → Nat} {Pm Pl : Nat → Nat → Prop} (h : MC σ n x y) (c : Ch Pm Pl σ s) (h0 : ¬ Pm 179 35) (h1 : ∀ i, i < n → ¬ Pm 201 i) (h2 : ∀ i, i < n → ¬ Pm 202 i) : MC s n x y :=
  ⟨by rw [c.i h0]; exact h.1, h.2.1, h.2.2.1, fun i hi => by rw [c.i (h1 i hi)]; exact h.2.2.2.1 i hi, fun i hi => by rw [c.i (h2 i hi)]; exact h.2.2.2.2 i hi⟩
theorem sp_cellAt12 {g : GV} {d n : Nat} {x y : Nat → Nat} {σ : PS} (hL : Lay σ) (hM : MC σ n x y) (a b : Int32) :
    CX12_cellAt g d [.ref 179, .int a, .int b] σ (fun v s => v = oI (fnd (fun k => decide (nI (x k) = a) && decide (nI (y k) = b)) n) ∧ s = σ) := by
  obtain ⟨h0, hn, hb, h1, h2⟩ := hM
  have loop : ∀ (z k : Nat), z = n - k → k ≤ n → (∀ j, j < k → (decide (nI (x j) = a) && decide (nI (y j) = b)) = false) → VX12_cellAt g d (fun v s => v = oI (fnd (fun k => decide (nI (x k) = a) && decide (nI (y k) = b)) n) ∧ s = σ) 2 [some (.ref 179), some (.int a), some (.int b), some (.int (nI k))] [] σ := by
    intro z
    induction z with
    | zero =>
      intro k hz hk hp
      have hkn : k = n := by omega
      subst hkn
      refine vcX12_cellAt_2 hL _ _ _ ⟨fun _ => ⟨by rw [fnd_no hp]; rfl, rfl⟩, fun hc => ?_⟩
      exact absurd (by rw [h0]; simp (disch := omega) only [zLE]; omega) hc
    | succ z ih =>
      intro k hz hk hp
      have e1 := h1 k (by omega)
      have e2 := h2 k (by omega)
      have hi := ih (k + 1) (by omega) (by omega)
      refine vcX12_cellAt_2 hL _ _ _ ⟨fun hc => ?_, fun _ => ?_⟩
      · rw [h0] at hc
        simp (disch := omega) only [zLE] at hc
        omega
      · simp (disch := omega) only [zIN, zCL, e1, e2]
        refine ⟨by omega, fun hne x2 q2 => ?_, fun heq => ⟨by omega, fun hne x5 q5 => ?_, fun heq2 => ⟨?_, trivial⟩⟩⟩
        · rw [q2, lit32, nI_add]
          exact hi (fun j hj => by
            by_cases e : j = k
            · subst e; simp [hne]
            · exact hp j (by omega))
        · rw [q5, lit32, nI_add]
          exact hi (fun j hj => by
            by_cases e : j = k
            · subst e; simp [hne]
            · exact hp j (by omega))
        · rw [fnd_is (k := k) (by omega) (by simp [heq, heq2]) hp]
          rfl
  exact vcX12_cellAt hL _ _ (loop n 0 rfl (Nat.zero_le _) (fun j hj => by omega))
theorem sp_east {g : GV} {d s : Nat} {σ : PS} (hL : Lay σ) (hs : s < 4) : CX12_east g d [.int (nI s)] σ (fun v t => v = stepX s ∧ t = σ) := by
  refine vcX12_east hL _ ?_
  rcases four hs with rfl | rfl | rfl | rfl <;> simp (disch := omega) [lit32, zEQ, stepX] <;> decide
theorem sp_north {g : GV} {d s : Nat} {σ : PS} (hL : Lay σ) (hs : s < 4) : CX12_north g d [.int (nI s)] σ (fun v t => v = stepY s ∧ t = σ) := by
  refine vcX12_north hL _ ?_
  rcases four hs with rfl | rfl | rfl | rfl <;> simp (disch := omega) [lit32, zEQ, stepY] <;> decide
theorem sp_behind {g : GV} {d n c s : Nat} {x y : Nat → Nat} {σ : PS} (hL : Lay σ) (hM : MC σ n x y) (hc : c < n) (hs : s < 4) :
    CX12_behind g (d + 1) [.ref 179, .int (nI c), .int (nI s)] σ (fun v t => v = oI (bhd n x y c s) ∧ t = σ) := by
  have hn := hM.2.1
  refine vcX12_behind hL _ _ ?_
  simp (disch := omega) only [zIN, zCL]
  refine ⟨by omega, Ct.imp (sp_east hL hs) (fun r t q => ?_)⟩
  obtain ⟨v, rfl, rfl, rfl⟩ := q
  refine ⟨_, rfl, Fr.rf, by omega, Ct.imp (sp_north hL hs) (fun r t q => ?_)⟩
  obtain ⟨v, rfl, rfl, rfl⟩ := q
  refine ⟨_, rfl, Fr.rf, Ct.imp (sp_cellAt12 hL hM _ _) (fun r t q => ?_)⟩
  obtain ⟨v, rfl, rfl, rfl⟩ := q
  refine ⟨_, rfl, Fr.rf, ?_, rfl⟩
  rw [hM.2.2.2.1 c hc, hM.2.2.2.2 c hc, bhd_I hM.2.2.1 hc hs]
theorem swf_at {n c s m : Nat} {x y : Nat → Nat} (hs : s < 4) : swf n x y (4 * c + s + 1) m = if (swf n x y (4 * c + s) m).testBit c then (match bhd n x y c s with
      | some b => swf n x y (4 * c + s) m ||| 2 ^ b
      | none => swf n x y (4 * c + s) m) else swf n x y (4 * c + s) m := by
  show (if (swf n x y (4 * c + s) m).testBit ((4 * c + s) / 4) then (match bhd n x y ((4 * c + s) / 4) ((4 * c + s) % 4) with
      | some b => swf n x y (4 * c + s) m ||| 2 ^ b
      | none => swf n x y (4 * c + s) m) else swf n x y (4 * c + s) m) = _
  rw [show (4 * c + s) / 4 = c by omega, show (4 * c + s) % 4 = s by omega]
theorem sp_hangs {g : GV} {d n : Nat} {x y : Nat → Nat} {σ : PS} (hL : Lay σ) (hM : MC σ n x y) (hn0 : 0 < n) :
    CX12_hangs g (d + 2) [.ref 179] σ (fun v t => v = (if itr n x y 10 = 2 ^ n - 1 then 1 else 0) ∧ t = σ) := by
  have hn := hM.2.1
  have h0 := hM.1
  have hp := p2_10 hn
  generalize hP : (fun (v : Int32) (t : PS) => v = (if itr n x y 10 = 2 ^ n - 1 then (1 : Int32) else 0) ∧ t = σ) = P
  have l23 : ∀ (r c : Nat), c < n → VX12_hangs g (d + 2) P 12 [some (.ref 179), some (.int (nI (swf n x y (4 * (c + 1)) (itr n x y r)))), some (.int (nI r)), some (.int (nI (c + 1))), none] [] σ →
      ∀ (z s : Nat), z = 4 - s → s ≤ 4 → VX12_hangs g (d + 2) P 23 [some (.ref 179), some (.int (nI (swf n x y (4 * c + s) (itr n x y r)))), some (.int (nI r)), some (.int (nI c)), some (.int (nI s))] [] σ := by
    intro r c hc K z
    induction z with
    | zero =>
      intro s hz hs
      have e : s = 4 := by omega
      subst e
      refine vcX12_hangs_23 hL _ _ _ _ ⟨fun _ x3 e3 => ?_, fun hc => absurd (show (4 : Int32) ≤ nI 4 by decide) hc⟩
      rw [e3, lit32 1, nI_add]
      exact K
    | succ z ih =>
      intro s hz hs
      have hm : swf n x y (4 * c + s) (itr n x y r) < 2 ^ n := swf_lt (itr_lt hn0 r)
      have hi := ih (s + 1) (by omega) (by omega)
      rw [← Nat.add_assoc, swf_at (by omega)] at hi
      refine vcX12_hangs_23 hL _ _ _ _ ⟨fun hc => ?_, fun _ => ?_⟩
      · rw [lit32 4, zLE (by omega) (by omega)] at hc
        omega
      · rw [zBIT (by omega) (by omega)]
        refine ⟨fun hne x5 e5 => ?_, fun heq => ?_⟩
        · have : ¬ (swf n x y (4 * c + s) (itr n x y r)).testBit c = true := fun q => hne (by rw [if_pos q])
          rw [if_neg this] at hi
          rw [e5, lit32 1, nI_add]
          exact hi
        · have : (swf n x y (4 * c + s) (itr n x y r)).testBit c = true := by
            cases hb : (swf n x y (4 * c + s) (itr n x y r)).testBit c with
            | true => rfl
            | false => rw [hb] at heq; exact absurd heq (by decide)
          rw [if_pos this] at hi
          refine Ct.imp (sp_behind hL hM hc (by omega)) (fun rr t q => ?_)
          obtain ⟨v, rfl, rfl, rfl⟩ := q
          refine ⟨_, rfl, Fr.rf, fun hv x9 e9 => ?_, fun hv => ?_⟩
          · rw [oI_neg (bhd_lt) (by omega)] at hv
            rw [hv] at hi
            rw [e9, lit32 1, nI_add]
            exact hi
          · rw [oI_neg (bhd_lt) (by omega)] at hv
            refine Ct.imp (sp_behind hL hM hc (by omega)) (fun rr t q => ?_)
            obtain ⟨v, rfl, rfl, rfl⟩ := q
            refine ⟨_, rfl, Fr.rf, fun x13 e13 x15 e15 => ?_⟩
            cases hb : bhd n x y c s with
            | none => exact absurd hb hv
            | some b =>
              rw [hb] at hi e13
              have hbn := bhd_lt b hb
              rw [e13, e15, lit32 1 , nI_add]
              show VX12_hangs g (d + 2) P 23 [some (.ref 179), some (.int (nI _ ||| jshl (nI 1) (nI b))), _, _, _] [] _
              rw [← lit32 1, zOR1 (by omega)]
              exact hi
  have l12 : ∀ (r : Nat), VX12_hangs g (d + 2) P 4 [some (.ref 179), some (.int (nI (itr n x y (r + 1)))), some (.int (nI (r + 1))), none, none] [] σ → r < 10 →
      ∀ (z c : Nat), z = n - c → c ≤ n → VX12_hangs g (d + 2) P 12 [some (.ref 179), some (.int (nI (swf n x y (4 * c) (itr n x y r)))), some (.int (nI r)), some (.int (nI c)), none] [] σ := by
    intro r K hr z
    induction z with
    | zero =>
      intro c hz hc
      have e : c = n := by omega
      subst e
      refine vcX12_hangs_12 hL _ _ _ ⟨fun _ x1 e1 => ?_, fun hc => ?_⟩
      · rw [e1, lit32 1, nI_add]
        exact K
      · exact absurd (by rw [h0]; simp (disch := omega) only [zLE]; omega) hc
    | succ z ih =>
      intro c hz hc
      refine vcX12_hangs_12 hL _ _ _ ⟨fun hcc => ?_, fun _ => ?_⟩
      · rw [h0, zLE (by omega) (by omega)] at hcc
        omega
      · have := l23 r c (by omega) (ih (c + 1) (by omega) (by omega)) 4 0 rfl (by omega)
        exact this
  have l4 : ∀ (z r : Nat), z = 10 - r → r ≤ 10 → VX12_hangs g (d + 2) P 4 [some (.ref 179), some (.int (nI (itr n x y r))), some (.int (nI r)), none, none] [] σ := by
    intro z
    induction z with
    | zero =>
      intro r hz hr
      have e : r = 10 := by omega
      subst e
      have hlt := itr_lt (x := x) (y := y) hn0 10
      refine vcX12_hangs_4 hL _ _ ⟨fun _ => ?_, fun hc => absurd (show (10 : Int32) ≤ nI 10 by decide) hc⟩
      rw [h0, zFULL (by omega), zEQ (by omega) (by omega), ← hP]
      refine ⟨fun hne => ⟨by rw [if_neg hne], rfl⟩, fun heq => ⟨by rw [if_pos heq], rfl⟩⟩
    | succ z ih =>
      intro r hz hr
      refine vcX12_hangs_4 hL _ _ ⟨fun hc => ?_, fun _ => ?_⟩
      · rw [lit32 10, zLE (by omega) (by omega)] at hc
        omega
      · exact l12 r (ih (r + 1) (by omega) (by omega)) (by omega) n 0 rfl (by omega)
  exact vcX12_hangs hL (l4 10 0 rfl (by omega))
theorem sp_openSides {g : GV} {d n : Nat} {x y : Nat → Nat} {σ : PS} (hL : Lay σ) (hM : MC σ n x y) :
    CX12_openSides g (d + 2) [.ref 179] σ (fun v t => v = nI (opc n x y) ∧ t = σ) := by
  have hn := hM.2.1
  have h0 := hM.1
  generalize hP : (fun (v : Int32) (t : PS) => v = nI (opc n x y) ∧ t = σ) = P
  have l14 : ∀ (c : Nat), c < n → VX12_openSides g (d + 2) P 4 [some (.ref 179), some (.int (nI (cnt (fun q => (bhd n x y (q / 4) (q % 4)).isNone) (4 * (c + 1))))), some (.int (nI (c + 1))), none] [] σ →
      ∀ (z s : Nat), z = 4 - s → s ≤ 4 → VX12_openSides g (d + 2) P 14 [some (.ref 179), some (.int (nI (cnt (fun q => (bhd n x y (q / 4) (q % 4)).isNone) (4 * c + s)))), some (.int (nI c)), some (.int (nI s))] [] σ := by
    intro c hc K z
    induction z with
    | zero =>
      intro s hz hs
      have e : s = 4 := by omega
      subst e
      refine vcX12_openSides_14 hL _ _ _ ⟨fun _ x3 e3 => ?_, fun hc => absurd (show (4 : Int32) ≤ nI 4 by decide) hc⟩
      rw [e3, lit32 1, nI_add]
      exact K
    | succ z ih =>
      intro s hz hs
      have hi := ih (s + 1) (by omega) (by omega)
      have hcn := cnt_le (fun q => (bhd n x y (q / 4) (q % 4)).isNone) (4 * c + s)
      refine vcX12_openSides_14 hL _ _ _ ⟨fun hc => ?_, fun _ => ?_⟩
      · rw [lit32 4, zLE (by omega) (by omega)] at hc
        omega
      · refine Ct.imp (sp_behind hL hM hc (by omega)) (fun rr t q => ?_)
        obtain ⟨v, rfl, rfl, rfl⟩ := q
        have e4 : cnt (fun q => (bhd n x y (q / 4) (q % 4)).isNone) (4 * c + (s + 1)) = cnt (fun q => (bhd n x y (q / 4) (q % 4)).isNone) (4 * c + s) + (if (bhd n x y c s).isNone then 1 else 0) := by
          show cnt _ (4 * c + s + 1) = _
          simp only [cnt, show (4 * c + s) / 4 = c by omega, show (4 * c + s) % 4 = s by omega]
        rw [e4] at hi
        refine ⟨_, rfl, Fr.rf, ?_⟩
        rw [oI_pos bhd_lt (by omega)]
        refine ⟨fun hv x5 e5 x7 e7 => ?_, fun hv x9 e9 x11 e11 => ?_⟩
        · cases hb : bhd n x y c s with
          | none => exact absurd hb hv
          | some b =>
            rw [hb] at hi
            rw [e5, e7, lit32 0, lit32 1, nI_add, nI_add]
            exact hi
        · cases hb : bhd n x y c s with
          | some b => exact absurd (by rw [hb]; intro q; cases q) hv
          | none =>
            rw [hb] at hi
            rw [e9, e11, lit32 1, nI_add, nI_add]
            exact hi
  have l4 : ∀ (z c : Nat), z = n - c → c ≤ n → VX12_openSides g (d + 2) P 4 [some (.ref 179), some (.int (nI (cnt (fun q => (bhd n x y (q / 4) (q % 4)).isNone) (4 * c)))), some (.int (nI c)), none] [] σ := by
    intro z
    induction z with
    | zero =>
      intro c hz hc
      have e : c = n := by omega
      subst e
      refine vcX12_openSides_4 hL _ _ ⟨fun _ => by rw [← hP]; exact ⟨rfl, rfl⟩, fun hc => ?_⟩
      exact absurd (by rw [h0]; simp (disch := omega) only [zLE]; omega) hc
    | succ z ih =>
      intro c hz hc
      refine vcX12_openSides_4 hL _ _ ⟨fun hcc => ?_, fun _ => l14 c (by omega) (ih (c + 1) (by omega) (by omega)) 4 0 rfl (by omega)⟩
      rw [h0, zLE (by omega) (by omega)] at hcc
      omega
  exact vcX12_openSides hL (l4 n 0 rfl (by omega))
