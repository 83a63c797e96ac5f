/-! ===== the reference's shortest ways; what is told of them ===== -/
def SH (σ : PS) (a : Acc) : Prop := mi σ 179 63 = nI a.1 ∧ mi σ 179 64 = nI a.2.1 ∧ (0 < a.2.1 → mi σ 179 65 = dI a.2.2.1 ∧ mi σ 179 66 = dI a.2.2.2)
abbrev chS : Nat → Nat → Prop := fun a k => a = 179 ∧ 61 ≤ k ∧ k ≤ 66
theorem SH.ch {σ s : PS} {a : Acc} {Pm Pl : Nat → Nat → Prop} (h : SH σ a) (c : Ch Pm Pl σ s) (hn : ∀ k, 63 ≤ k → k ≤ 66 → ¬ Pm 179 k) : SH s a := by
  unfold SH
  rw [c.i (hn 63 (by omega) (by omega)), c.i (hn 64 (by omega) (by omega)), c.i (hn 65 (by omega) (by omega)), c.i (hn 66 (by omega) (by omega))]
  exact h
theorem sp_shortests {g : GV} {d n c to r : Nat} {f : Nat → Nat} {σ : PS} (hL : Lay σ) (hB : BY σ n f) (hi : ∀ a b, a < 4 * n → b < 4 * n → f (nxs a) = f (nxs b) → a = b) (hc : c < n) (ht : to < n) (hr : r < 2) (hrt : r = 1 → to = c) :
    CX12_shortests g (d + 2) [.ref 179, .int (nI c), .int (nI to), .int (nI r)] σ (fun s => SH s (acc (hit f (orb (fun z => f (nxs z)) (4 * n)) c (if r = 1 then 10 else to)) 625) ∧ Ch chS noL σ s) := by
  have hn := hB.1
  generalize hTT : orb (fun z => f (nxs z)) (4 * n) = t
  generalize hS : (if r = 1 then 10 else to) = slot
  generalize hP : (fun (s : PS) => SH s (acc (hit f t c slot) 625) ∧ Ch chS noL σ s) = P
  have h12 : ∀ k, k ≤ 25 → ((12 : Int32) < dI k ↔ k = 25) := by decide +kernel
  have hinc : ∀ k, k < 25 → dI k + 1 = dI (k + 1) := by decide +kernel
  have hsq : ∀ k, k < 25 → dI k * dI k = nI (wd k * wd k) := by decide +kernel
  have l27 : ∀ (kx : Nat), kx < 25 → (∀ s, Ch chS noL σ s → SH s (acc (hit f t c slot) (25 * (kx + 1))) → VX12_shortests g (d + 2) P 16 [some (.ref 179), some (.int (nI c)), some (.int (nI to)), some (.int (nI r)), some (.int (dI (kx + 1))), none, none] [] s) →
      ∀ (z ky : Nat) (s : PS), z = 25 - ky → ky ≤ 25 → Ch chS noL σ s → SH s (acc (hit f t c slot) (25 * kx + ky)) → VX12_shortests g (d + 2) P 27 [some (.ref 179), some (.int (nI c)), some (.int (nI to)), some (.int (nI r)), some (.int (dI kx)), some (.int (dI ky)), none] [] s := by
    intro kx hx K z
    induction z with
    | zero =>
      intro ky s hz hy cs hk
      have e : ky = 25 := by omega
      subst e
      refine vcX12_shortests_27 (cs.lay hL) _ _ _ _ _ ⟨fun _ x5 e5 => ?_, fun h => absurd ((h12 25 (by omega)).mpr rfl) h⟩
      rw [e5, hinc kx hx]
      exact K s cs hk
    | succ z ih =>
      intro ky s hz hy cs hk
      have hL2 := cs.lay hL
      have hy2 : ky < 25 := by omega
      have q1 : (25 * kx + ky) / 25 = kx := by omega
      have q2 : (25 * kx + ky) % 25 = ky := by omega
      have hlen := len2_le (i := 25 * kx + ky) (by omega)
      obtain ⟨ok1, ok2, ok3, ok4⟩ := acc_ok (hit f t c slot) (fun i _ h => hit_le h) (25 * kx + ky) (by omega)
      have eacc : acc (hit f t c slot) (25 * kx + ky + 1) = if hit f t c slot (25 * kx + ky) then kp (acc (hit f t c slot) (25 * kx + ky)) (25 * kx + ky) else acc (hit f t c slot) (25 * kx + ky) := rfl
      generalize acc (hit f t c slot) (25 * kx + ky) = A at *
      have nxt : ∀ s', Ch chS noL σ s' → SH s' (acc (hit f t c slot) (25 * kx + ky + 1)) → ∀ x : Int32, x = dI ky + 1 → VX12_shortests g (d + 2) P 27 [some (.ref 179), some (.int (nI c)), some (.int (nI to)), some (.int (nI r)), some (.int (dI kx)), some (.int x), none] [] s' := by
        intro s' c' hk' x ex
        rw [ex, hinc ky hy2]
        exact ih (ky + 1) s' (by omega) (by omega) c' hk'
      have same : hit f t c slot (25 * kx + ky) = false ∨ A.1 < len2 (25 * kx + ky) → ∀ s', Ch chS noL σ s' → SH s' A → ∀ x : Int32, x = dI ky + 1 → VX12_shortests g (d + 2) P 27 [some (.ref 179), some (.int (nI c)), some (.int (nI to)), some (.int (nI r)), some (.int (dI kx)), some (.int x), none] [] s' := by
        intro hh s' c' hk' x ex
        refine nxt s' c' ?_ x ex
        rw [eacc]
        rcases hh with hh | hh
        · rw [hh, if_neg (by decide)]
          exact hk'
        · have : kp A (25 * kx + ky) = A := by unfold kp; rw [if_neg (by omega), if_neg (by omega)]
          rw [this]
          split <;> exact hk'
      obtain ⟨a1, a2, a3⟩ := hk
      have l73 : len2 (25 * kx + ky) ≤ 144 → len2 (25 * kx + ky) ≤ A.1 → (r = 1 → 0 < len2 (25 * kx + ky)) → VX12_shortests g (d + 2) P 73 [some (.ref 179), some (.int (nI c)), some (.int (nI to)), some (.int (nI r)), some (.int (dI kx)), some (.int (dI ky)), some (.int (nI (len2 (25 * kx + ky))))] [] s := by
        intro h144 hA hr0
        have hB2 : BY s n f := hB.ch cs (by simp [chS])
        refine vcX12_shortests_73 hL2 _ _ _ _ _ _ (Ct.imp (sp_leads hL2 hB2 hi hc hx hy2) (fun rr s1 w1 => ?_))
        obtain ⟨v, rfl, cw, hgo⟩ := w1
        rw [hTT] at hgo
        have c1 : Ch chS noL σ s1 := cs.trans (cw.mono (fun a k h => by simp only [chG] at h; simp only [chS]; omega) (fun _ _ h => h))
        have hk1 : SH s1 A := (show SH s A from ⟨a1, a2, a3⟩).ch cw (fun k _ _ => by simp only [chG]; omega)
        obtain ⟨b1, b2, b3⟩ := hk1
        have eh : hit f t c slot (25 * kx + ky) = (match way' f t c kx ky with
          | none => false
          | some p => if slot = 10 then decide (0 < len2 (25 * kx + ky)) && (p == (c, 0)) else p.1 == slot) := by
          unfold hit
          rw [q1, q2, decide_eq_true (by omega), Bool.true_and]
          rfl
        refine ⟨_, rfl, cw.fr, ?_⟩
        cases hw : way' f t c kx ky with
        | none =>
          rw [hw] at hgo eh
          have hr0 : v = 0 := hgo
          exact ⟨fun _ => same (Or.inl eh) s1 c1 ⟨b1, b2, b3⟩, fun h => absurd hr0 h⟩
        | some p =>
          rw [hw] at hgo eh
          obtain ⟨hv, p1, p2, m1, m2⟩ := hgo
          simp only at eh
          refine ⟨fun h => absurd h (by rw [hv]; decide), fun _ => ?_⟩
          have more : hit f t c slot (25 * kx + ky) = true → A.1 ≤ len2 (25 * kx + ky) → ∀ s2 : PS, s2 = si s1 179 64 (mi s1 179 64 + 1) → ∀ x : Int32, x = dI ky + 1 → VX12_shortests g (d + 2) P 27 [some (.ref 179), some (.int (nI c)), some (.int (nI to)), some (.int (nI r)), some (.int (dI kx)), some (.int x), none] [] s2 := by
            intro hh hge s2 e2
            rw [b2, inc rfl] at e2
            refine nxt s2 (by rw [e2]; exact c1.si (by simp [chS])) ?_
            rw [eacc, if_pos hh]
            unfold kp
            rw [if_neg (by omega), if_pos (by omega), e2]
            refine ⟨?_, ?_, fun _ => ?_⟩
            · rw [mi_si, if_neg (by omega)]; exact b1
            · rw [mi_si, if_pos ⟨rfl, rfl⟩]
            · have hpos : 0 < A.2.1 := by omega
              rw [mi_si, if_neg (by omega), mi_si, if_neg (by omega)]
              exact b3 hpos
          have new : hit f t c slot (25 * kx + ky) = true → ¬ A.1 ≤ len2 (25 * kx + ky) → ∀ s2 : PS, s2 = si s1 179 63 (nI (len2 (25 * kx + ky))) → ∀ s3 : PS, s3 = si s2 179 64 0 → ∀ s4 : PS, s4 = si s3 179 65 (dI kx) → ∀ s5 : PS, s5 = si s4 179 66 (dI ky) → ∀ s6 : PS, s6 = si s5 179 64 (mi s5 179 64 + 1) → ∀ x : Int32, x = dI ky + 1 → VX12_shortests g (d + 2) P 27 [some (.ref 179), some (.int (nI c)), some (.int (nI to)), some (.int (nI r)), some (.int (dI kx)), some (.int x), none] [] s6 := by
            intro hh hge s2 e2 s3 e3 s4 e4 s5 e5 s6 e6
            have v64 : mi s5 179 64 = nI 0 := by rw [e5, mi_si, if_neg (by omega), e4, mi_si, if_neg (by omega), e3, mi_si, if_pos ⟨rfl, rfl⟩]; rfl
            rw [v64, inc rfl] at e6
            refine nxt s6 (by rw [e6, e5, e4, e3, e2]; exact ((((c1.si (by simp [chS])).si (by simp [chS])).si (by simp [chS])).si (by simp [chS])).si (by simp [chS])) ?_
            rw [eacc, if_pos hh]
            unfold kp
            rw [if_pos (by omega), q1, q2]
            refine ⟨?_, ?_, fun _ => ⟨?_, ?_⟩⟩
            · rw [e6, mi_si, if_neg (by omega), e5, mi_si, if_neg (by omega), e4, mi_si, if_neg (by omega), e3, mi_si, if_neg (by omega), e2, mi_si, if_pos ⟨rfl, rfl⟩]
            · rw [e6, mi_si, if_pos ⟨rfl, rfl⟩]
            · rw [e6, mi_si, if_neg (by omega), e5, mi_si, if_neg (by omega), e4, mi_si, if_pos ⟨rfl, rfl⟩]
            · rw [e6, mi_si, if_neg (by omega), e5, mi_si, if_pos ⟨rfl, rfl⟩]
          have pne : ¬ p = (c, 0) → (p == (c, 0)) = false := fun h => by
            cases hb : (p == (c, 0)) with
            | false => rfl
            | true => exact absurd (eq_of_beq hb) h
          rw [m1, m2, b1, lit32 0]
          simp (disch := omega) only [zEQ, zLE]
          refine ⟨fun hne => same (Or.inl ?_) s1 c1 ⟨b1, b2, b3⟩, fun heq => ⟨fun hr1 => ?_, fun hr1 => ⟨fun h0 => ?_, fun h0 => same (Or.inl ?_) s1 c1 ⟨b1, b2, b3⟩⟩⟩⟩
          · rw [eh]
            by_cases e : r = 1
            · rw [if_pos e] at hS
              rw [if_pos hS.symm, pne (fun q => hne (by rw [q, hrt e])), Bool.and_false]
            · rw [if_neg e] at hS
              rw [if_neg (by omega)]
              simp only [beq_eq_false_iff_ne]
              omega
          · have hh : hit f t c slot (25 * kx + ky) = true := by
              rw [eh]
              rw [if_neg (by omega)] at hS
              rw [if_neg (by omega)]
              simp only [beq_iff_eq]
              omega
            exact ⟨more hh, new hh⟩
          · have hh : hit f t c slot (25 * kx + ky) = true := by
              have e : r = 1 := by omega
              rw [if_pos e] at hS
              rw [eh, if_pos hS.symm, decide_eq_true (hr0 e), Bool.true_and]
              exact beq_iff_eq.mpr (Prod.ext (by rw [heq, hrt e]) h0)
            exact ⟨more hh, new hh⟩
          · have e : r = 1 := by omega
            rw [if_pos e] at hS
            rw [eh, if_pos hS.symm, pne (fun q => h0 (by rw [q])), Bool.and_false]
      refine vcX12_shortests_27 hL2 _ _ _ _ _ ⟨fun h => absurd ((h12 ky (by omega)).mp h) (by omega), fun _ x7 e7 => ?_⟩
      have ex7 : x7 = nI (len2 (25 * kx + ky)) := by rw [e7, hsq kx hx, hsq ky hy2, nI_add]; unfold len2; rw [q1, q2]
      subst ex7
      rw [a1, lit32 144, lit32 0]
      simp (disch := omega) only [zLT, zEQ]
      refine ⟨fun hbig => same (Or.inl ?_) s cs ⟨a1, a2, a3⟩, fun h144 => ⟨fun hlt => same (Or.inr hlt) s cs ⟨a1, a2, a3⟩, fun hge => ⟨fun h0 => l73 (by omega) (by omega) (fun h => by omega), fun h0 => ⟨fun hz0 => same (Or.inl ?_) s cs ⟨a1, a2, a3⟩, fun hz0 => l73 (by omega) (by omega) (fun _ => by omega)⟩⟩⟩⟩
      · unfold hit
        rw [decide_eq_false (by omega)]
        rfl
      · rw [if_pos (by omega)] at hS
        unfold hit
        rw [← hS, hz0]
        cases way' f t c ((25 * kx + ky) / 25) ((25 * kx + ky) % 25) <;> simp
  have l16 : ∀ (z kx : Nat) (s : PS), z = 25 - kx → kx ≤ 25 → Ch chS noL σ s → SH s (acc (hit f t c slot) (25 * kx)) → VX12_shortests g (d + 2) P 16 [some (.ref 179), some (.int (nI c)), some (.int (nI to)), some (.int (nI r)), some (.int (dI kx)), none, none] [] s := by
    intro z
    induction z with
    | zero =>
      intro kx s hz hx cs hk
      have e : kx = 25 := by omega
      subst e
      refine vcX12_shortests_16 (cs.lay hL) _ _ _ _ ⟨fun _ => ?_, fun h => absurd ((h12 25 (by omega)).mpr rfl) h⟩
      rw [← hP]
      exact ⟨hk, cs⟩
    | succ z ih =>
      intro kx s hz hx cs hk
      refine vcX12_shortests_16 (cs.lay hL) _ _ _ _ ⟨fun h => absurd ((h12 kx (by omega)).mp h) (by omega), fun _ => ?_⟩
      exact l27 kx (by omega) (fun s2 c2 hk2 => ih (kx + 1) s2 (by omega) (by omega) c2 hk2) 25 0 s rfl (by omega) cs hk
  refine vcX12_shortests hL _ _ _ (fun s1 e1 s3 e3 => l16 25 0 s3 rfl (by omega) ?_ ⟨?_, ?_, fun h => absurd h (by simp [acc])⟩)
  · rw [e3, e1]; exact (Ch.rf.si (by simp [chS])).si (by simp [chS])
  · rw [e3, mi_si, if_neg (by omega), e1, mi_si, if_pos ⟨rfl, rfl⟩]; rfl
  · rw [e3, mi_si, if_pos ⟨rfl, rfl⟩]; rfl
/-- what is told of an account: 0 square, 1 how many, 2, 3 the first -/
def told (a : Acc) (w : Nat) : Int32 := if w = 0 then nI a.1 else if w = 1 then nI a.2.1 else if w = 2 then dI a.2.2.1 else dI a.2.2.2
theorem sp_told0 {g : GV} {d w : Nat} {a : Acc} {σ : PS} (hL : Lay σ) (h : SH σ a) (h1 : a.1 ≤ 145) (h2 : a.2.1 = 0 ↔ a.1 = 145) (hw : w < 4) :
    CX12_told0 g d [.ref 179, .int (nI w)] σ (fun v s => (a.1 = 145 → v = 0 ∧ s = si σ 179 0 1) ∧ (¬ a.1 = 145 → v = told a w ∧ s = si σ 179 0 0)) := by
  obtain ⟨a1, a2, a3⟩ := h
  refine vcX12_told0 hL _ ?_
  rw [a1, lit32 145, zLE (by omega) (by omega)]
  refine ⟨fun h145 s1 e1 => ?_, fun h145 s1 e1 => ?_⟩
  · have e : mi s1 179 0 = 1 := by rw [e1, mi_si, if_pos ⟨rfl, rfl⟩]
    rw [e]
    refine ⟨fun h => absurd rfl h, fun _ => ?_⟩
    exact ⟨fun _ => ⟨rfl, e1⟩, fun h => absurd (show a.1 = 145 by omega) h⟩
  · have e : mi s1 179 0 = 0 := by rw [e1, mi_si, if_pos ⟨rfl, rfl⟩]
    have hpos : 0 < a.2.1 := by omega
    obtain ⟨b1, b2⟩ := a3 hpos
    rw [e]
    refine ⟨fun _ => ?_, fun h => absurd h (by decide)⟩
    have v63 : mi s1 179 63 = nI a.1 := by rw [e1, mi_si, if_neg (by omega)]; exact a1
    have v64 : mi s1 179 64 = nI a.2.1 := by rw [e1, mi_si, if_neg (by omega)]; exact a2
    have v65 : mi s1 179 65 = dI a.2.2.1 := by rw [e1, mi_si, if_neg (by omega)]; exact b1
    have v66 : mi s1 179 66 = dI a.2.2.2 := by rw [e1, mi_si, if_neg (by omega)]; exact b2
    rw [v63, v64, v65, v66]
    unfold told
    refine ⟨fun g0 => ⟨fun g1 => ⟨fun g2 => ⟨fun h => by omega, fun _ => ⟨?_, e1⟩⟩, fun g2 => ⟨fun h => by omega, fun _ => ⟨?_, e1⟩⟩⟩, fun g1 => ⟨fun h => by omega, fun _ => ⟨?_, e1⟩⟩⟩, fun g0 => ⟨fun h => by omega, fun _ => ⟨?_, e1⟩⟩⟩
    all_goals
      rw [lit32 0, zEQ (by omega) (by omega)] at g0
      try rw [lit32 1, zEQ (by omega) (by omega)] at g1
      try rw [lit32 2, zEQ (by omega) (by omega)] at g2
      try rw [if_neg g0]
      try rw [if_neg g1]
      try rw [if_neg g2]
      try rw [if_pos g0]
      try rw [if_pos g1]
      try rw [if_pos g2]
theorem sp_tell10 {g : GV} {d slot w : Nat} {a : Acc} {σ : PS} (hL : Lay σ) (h : KS σ slot a) (hs : slot < 11) (hp : 0 < a.2.1) (hw : w < 4) :
    CX10_tell g d [.ref 144, .int (nI slot), .int (nI w)] σ (fun v s => v = told a w ∧ s = σ) := by
  obtain ⟨a1, a2⟩ := h
  obtain ⟨b1, b2, b3⟩ := a2 hp
  refine vcX10_tell hL _ _ ?_
  rw [lit32 0, lit32 1, lit32 2]
  simp (disch := omega) only [zEQ, zIN, zCL, a1, b1, b2, b3]
  unfold told
  refine ⟨fun g0 => ⟨hs, ?_, trivial⟩, fun g1 => ⟨hs, ?_, trivial⟩, fun g2 => ⟨hs, ?_, trivial⟩, fun g3 => ⟨hs, ?_, trivial⟩⟩
  · rw [if_pos g0]
  · rw [if_neg (by omega), if_pos g1]
  · rw [if_neg (by omega), if_neg (by omega), if_pos g2]
  · rw [if_neg (by omega), if_neg (by omega), if_neg (by omega)]
def ltO : Option (Nat × Nat) → Nat → Bool
  | none, _ => true
  | some p, b => decide (p.2 < b)
/-- the farthest of the accounts, the least of several -/
def far (A : Nat → Acc) : Nat → Option (Nat × Nat)
  | 0 => none
  | i + 1 => if 0 < (A i).2.1 ∧ ltO (far A i) (A i).1 = true then some (i, (A i).1) else far A i
theorem far_s (A : Nat → Acc) (i : Nat) : far A (i + 1) = if 0 < (A i).2.1 ∧ ltO (far A i) (A i).1 = true then some (i, (A i).1) else far A i := rfl
def fO : Option (Nat × Nat) → Int32
  | none => -1
  | some p => nI p.1
def fM : Option (Nat × Nat) → Int32
  | none => -1
  | some p => nI p.2
theorem far_ok {A : Nat → Acc} (hA : ∀ i, (A i).1 ≤ 145) : ∀ i p, far A i = some p → p.1 < i ∧ p.2 ≤ 145 := by
  intro i
  induction i with
  | zero => intro p h; cases h
  | succ i ih =>
    intro p h
    unfold far at h
    split at h
    · cases h
      exact ⟨by simp only; omega, hA i⟩
    · have := ih p h
      omega
theorem fM_lt {A : Nat → Acc} (hA : ∀ i, (A i).1 ≤ 145) (i : Nat) {b : Nat} (hb : b ≤ 145) : fM (far A i) < nI b ↔ ltO (far A i) b = true := by
  cases h : far A i with
  | none =>
    refine ⟨fun _ => rfl, fun _ => ?_⟩
    refine Int32.lt_iff_toInt_lt.mpr ?_
    rw [nI_toInt (by omega)]
    have : (fM none).toInt = -1 := by decide
    omega
  | some p =>
    have := far_ok hA i p h
    show nI p.2 < nI b ↔ decide (p.2 < b) = true
    rw [zLT (by omega) (by omega), decide_eq_true_eq]
theorem sp_farthestEnd {g : GV} {d n : Nat} {A : Nat → Acc} {σ : PS} (hL : Lay σ) (h0 : mi σ 129 0 = nI n) (hn : n ≤ 10) (hK : ∀ i, i < n → KS σ i (A i)) (hA : ∀ i, (A i).1 ≤ 145) (hA2 : ∀ i, (A i).2.1 ≤ 625) :
    CX10_farthestEnd g d [.ref 144] σ (fun v s => v = fO (far A n) ∧ s = σ) := by
  have loop : ∀ (z i : Nat), z = n - i → i ≤ n → VX10_farthestEnd g d (fun v s => v = fO (far A n) ∧ s = σ) 6 [some (.ref 144), some (.int (fO (far A i))), some (.int (fM (far A i))), some (.int (nI i))] [] σ := by
    intro z
    induction z with
    | zero =>
      intro i hz hi
      have e : i = n := by omega
      subst e
      refine vcX10_farthestEnd_6 hL _ _ _ ?_
      rw [h0]
      exact ⟨fun _ => ⟨rfl, rfl⟩, fun h => absurd (by rw [zLE (by omega) (by omega)]; omega) h⟩
    | succ z ih =>
      intro i hz hi
      obtain ⟨k1, k2⟩ := hK i (by omega)
      have := hA i
      have := hA2 i
      have step := ih (i + 1) (by omega) (by omega)
      refine vcX10_farthestEnd_6 hL _ _ _ ?_
      rw [h0]
      simp (disch := omega) only [zIN, zCL, zLE, k1]
      rw [lit32 0, zLE (by omega) (by omega)]
      refine ⟨fun h => by omega, fun _ => ⟨by omega, fun hz0 x2 e2 => ?_, fun hpos => ?_⟩⟩
      · have e : far A (i + 1) = far A i := by rw [far_s, if_neg (fun q => by have := q.1; omega)]
        rw [e] at step
        rw [inc e2]
        exact step
      · obtain ⟨j1, -, -⟩ := k2 (by omega)
        rw [j1]
        refine ⟨by omega, fun hle x5 e5 => ?_, fun hlt => ⟨by omega, fun x8 e8 x10 e10 => ?_⟩⟩
        · have e : far A (i + 1) = far A i := by
            rw [far_s, if_neg (fun q => Int32.not_lt.mpr hle ((fM_lt hA i (hA i)).mpr q.2))]
          rw [e] at step
          rw [inc e5]
          exact step
        · have e : far A (i + 1) = some (i, (A i).1) := by
            rw [far_s, if_pos ⟨by omega, (fM_lt hA i (hA i)).mp (Int32.not_le.mp hlt)⟩]
          rw [e] at step
          rw [inc e10, e8]
          exact step
  exact vcX10_farthestEnd hL (loop n 0 rfl (by omega))
theorem sp_isNear {g : GV} {d : Nat} {a : Int32} {σ : PS} (hL : Lay σ) :
    CX10_isNear g d [.int a] σ (fun v s => v = (if -12 ≤ a ∧ a ≤ 12 then 1 else 0) ∧ s = σ) := by
  refine vcX10_isNear hL _ ⟨fun h => ⟨?_, rfl⟩, fun h => ⟨fun h2 => ⟨?_, rfl⟩, fun h2 => ⟨?_, rfl⟩⟩⟩
  · rw [if_neg (fun q => Int32.not_lt.mpr q.1 h)]
  · rw [if_neg (fun q => Int32.not_lt.mpr q.2 h2)]
  · rw [if_pos ⟨Int32.not_lt.mp h, Int32.not_lt.mp h2⟩]
