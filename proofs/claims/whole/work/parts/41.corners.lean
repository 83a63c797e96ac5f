/-! ===== Corners: classes of corners by their least, and their sums ===== -/
def Cor (σ : PS) (o E : Nat) (lf qf : Nat → Nat) : Prop := mi σ o 0 = nI E ∧ E ≤ 22 ∧ (∀ i, i < E → mi σ (o + 1) i = nI (lf i)) ∧ ∀ i, i < E → mi σ (o + 2) i = nI (qf i)
def Prt (E : Nat) (lf : Nat → Nat) : Prop := ∀ i, i < E → lf i ≤ i ∧ lf (lf i) = lf i
def uL (lf : Nat → Nat) (a b : Nat) : Nat → Nat := fun i => if lf i = max (lf a) (lf b) then min (lf a) (lf b) else lf i
def uQ (lf qf : Nat → Nat) (a b : Nat) : Nat → Nat := fun i => if ¬ lf a = lf b ∧ i = min (lf a) (lf b) then qf (min (lf a) (lf b)) + qf (max (lf a) (lf b)) else qf i
abbrev chC (o : Nat) : Nat → Nat → Prop := fun x _ => x = o + 1 ∨ x = o + 2
theorem Cor.ch {σ s : PS} {o E : Nat} {lf qf : Nat → Nat} {Pm Pl : Nat → Nat → Prop} (h : Cor σ o E lf qf) (c : Ch Pm Pl σ s) (h0 : ¬ Pm o 0) (h1 : ∀ i, i < E → ¬ Pm (o + 1) i) (h2 : ∀ i, i < E → ¬ Pm (o + 2) i) : Cor s o E lf qf :=
  ⟨by rw [c.i h0]; exact h.1, h.2.1, fun i hi => by rw [c.i (h1 i hi)]; exact h.2.2.1 i hi, fun i hi => by rw [c.i (h2 i hi)]; exact h.2.2.2 i hi⟩
theorem sp_unite_loop {g : GV} {d o E lo hi : Nat} {lf qf : Nat → Nat} {P : Int32 → PS → Prop} (io : isC o) (hlo : lo < hi) (hhi : hi < E) (hq : ∀ i, i < E → qf i ≤ 1000) :
    ∀ (n k : Nat) (σ : PS), n = E - k → k ≤ E → Lay σ → mi σ o 0 = nI E → E ≤ 22 → (∀ i, i < E → lf i ≤ i) → (∀ i, i < E → mi σ (o + 1) i = nI (if i < k ∧ lf i = hi then lo else lf i)) → (∀ i, i < E → mi σ (o + 2) i = nI (qf i)) →
      (∀ s, mi s o 0 = nI E → (∀ i, i < E → mi s (o + 1) i = nI (if lf i = hi then lo else lf i)) → (∀ i, i < E → mi s (o + 2) i = nI (if i = lo then qf lo + qf hi else qf i)) → Ch (chC o) noL σ s → P (nI (qf lo + qf hi)) s) →
      VX3_unite g d P 43 [some (.ref o), none, none, some (.int (nI lo)), some (.int (nI hi)), some (.int (nI k))] [] σ := by
  intro n
  induction n with
  | zero =>
    intro k σ hn hk hL h0 hE hlf h1 h2 hp
    have hkE : k = E := by omega
    subst hkE
    have e1 := h2 lo (by omega)
    have e2 := h2 hi hhi
    have b1 := hq lo (by omega)
    have b2 := hq hi hhi
    refine vcX3_unite_43 hL o io _ _ _ ⟨fun _ => ?_, fun hc => ?_⟩
    · simp (disch := omega) only [zIN, zCL, e1, e2, nI_add]
      refine ⟨by omega, by omega, by omega, fun s es => ⟨by omega, ?_⟩⟩
      have hv : mi s (o + 2) lo = nI (qf lo + qf hi) := by rw [es, mi_si, if_pos ⟨rfl, rfl⟩]
      rw [hv]
      refine hp s ?_ ?_ ?_ ?_
      · rw [es, mi_si, if_neg (by omega)]; exact h0
      · intro i hi'
        rw [es, mi_si, if_neg (by omega), h1 i hi']
        congr 1
        by_cases q : lf i = hi <;> simp [q, hi']
      · intro i hi'
        rw [es, mi_si]
        by_cases q : i = lo
        · subst q; simp
        · rw [if_neg (by omega), if_neg q]; exact h2 i hi'
      · rw [es]; exact Ch.rf.si (Or.inr rfl)
    · exact absurd (by rw [h0]; simp (disch := omega) only [zLE]; omega) hc
  | succ n ih =>
    intro k σ hn hk hL h0 hE hlf h1 h2 hp
    have e1 := h1 k (by omega)
    have hlk := hlf k (by omega)
    rw [if_neg (by omega)] at e1
    refine vcX3_unite_43 hL o io _ _ _ ⟨fun hc => ?_, fun _ => ?_⟩
    · rw [h0] at hc
      simp (disch := omega) only [zLE] at hc
      omega
    · simp (disch := omega) only [zIN, zCL, e1, zEQ]
      refine ⟨by omega, fun hne => ⟨by omega, by omega, fun s es x ex => ?_⟩, fun heq => ⟨by omega, fun s es x ex => ?_⟩⟩
      · rw [ex, lit32, nI_add]
        refine ih (k + 1) s (by omega) (by omega) (by rw [es]; exact hL.si) (by rw [es, mi_si, if_neg (by omega)]; exact h0) hE hlf ?_ ?_ (fun s2 a1 a2 a3 a4 => hp s2 a1 a2 a3 ((by rw [es]; exact Ch.rf.si (Or.inl rfl) : Ch (chC o) noL σ s).trans a4))
        · intro i hi'
          rw [es, mi_si]
          by_cases q : i = k
          · subst q
            rw [if_pos ⟨rfl, rfl⟩, if_neg (by omega)]
          · rw [if_neg (by omega), h1 i hi']
            congr 1
            by_cases q2 : i < k
            · simp [q2, show i < k + 1 by omega]
            · simp [q2, show ¬ i < k + 1 by omega]
        · intro i hi'
          rw [es, mi_si, if_neg (by omega)]
          exact h2 i hi'
      · rw [ex, lit32, nI_add]
        refine ih (k + 1) s (by omega) (by omega) (by rw [es]; exact hL.si) (by rw [es, mi_si, if_neg (by omega)]; exact h0) hE hlf ?_ ?_ (fun s2 a1 a2 a3 a4 => hp s2 a1 a2 a3 ((by rw [es]; exact Ch.rf.si (Or.inl rfl) : Ch (chC o) noL σ s).trans a4))
        · intro i hi'
          rw [es, mi_si]
          by_cases q : i = k
          · subst q
            rw [if_pos ⟨rfl, rfl⟩, if_pos ⟨by omega, heq⟩]
          · rw [if_neg (by omega), h1 i hi']
            congr 1
            by_cases q2 : i < k
            · simp [q2, show i < k + 1 by omega]
            · simp [q2, show ¬ i < k + 1 by omega]
        · intro i hi'
          rw [es, mi_si, if_neg (by omega)]
          exact h2 i hi'
theorem uL_le {E : Nat} {lf : Nat → Nat} {a b : Nat} (h : ∀ i, i < E → lf i ≤ i) : ∀ i, i < E → uL lf a b i ≤ i := by
  intro i hi
  have := h i hi
  unfold uL
  split <;> omega
theorem Prt.uL {E : Nat} {lf : Nat → Nat} {a b : Nat} (h : Prt E lf) (ha : a < E) (hb : b < E) : Prt E (uL lf a b) := by
  intro i hi
  obtain ⟨h1, h2⟩ := h i hi
  obtain ⟨a1, a2⟩ := h a ha
  obtain ⟨b1, b2⟩ := h b hb
  refine ⟨uL_le (fun i hi => (h i hi).1) i hi, ?_⟩
  have ca : min (lf a) (lf b) = lf a ∨ min (lf a) (lf b) = lf b := by omega
  have hm : lf (min (lf a) (lf b)) = min (lf a) (lf b) := by rcases ca with q | q <;> rw [q] <;> assumption
  unfold _root_.Jvm.Pilot.CGluedPaperLaw_law_r5622_34d44b.uL
  by_cases q : lf i = max (lf a) (lf b)
  · rw [if_pos q, hm]
    split
    · rfl
    · rfl
  · rw [if_neg q, h2, if_neg q]
theorem sp_unite {g : GV} {d o E a b : Nat} {lf qf : Nat → Nat} {σ : PS} (hL : Lay σ) (io : isC o) (hC : Cor σ o E lf qf) (hP : Prt E lf) (hq : ∀ i, i < E → qf i ≤ 1000) (ha : a < E) (hb : b < E) :
    CX3_unite g d [.ref o, .int (nI a), .int (nI b)] σ (fun v s => v = nI (uQ lf qf a b (min (lf a) (lf b))) ∧ Cor s o E (uL lf a b) (uQ lf qf a b) ∧ Ch (chC o) noL σ s) := by
  obtain ⟨h0, hE, h1, h2⟩ := id hC
  have e1 := h1 a ha
  have e2 := h1 b hb
  have l1 := hP a ha
  have l2 := hP b hb
  refine vcX3_unite hL o io _ _ ?_
  simp (disch := omega) only [zIN, zCL, e1, e2, zMIN, zMAX]
  refine ⟨by omega, by omega, fun x3 e3 => ⟨by omega, by omega, fun x7 e7 => ⟨fun hc => ?_, fun hc => ?_⟩⟩⟩
  · rw [e3, e7] at hc
    simp (disch := omega) only [zEQ] at hc
    have e := h2 (min (lf a) (lf b)) (by omega)
    rw [e3]
    simp (disch := omega) only [zIN, zCL, e]
    have hab : lf a = lf b := by omega
    refine ⟨by omega, ?_, ⟨h0, hE, fun i hi => ?_, fun i hi => ?_⟩, Ch.rf⟩
    · unfold uQ; rw [if_neg (by omega)]
    · rw [h1 i hi]; unfold uL; congr 1; split <;> omega
    · rw [h2 i hi]; unfold uQ; rw [if_neg (by omega)]
  · rw [e3, e7] at hc ⊢
    simp (disch := omega) only [zEQ] at hc
    have hab : ¬ lf a = lf b := fun q => hc (by omega)
    refine sp_unite_loop io (by omega) (by omega) hq (E - max (lf a) (lf b)) (max (lf a) (lf b)) σ rfl (by omega) hL h0 hE (fun i hi => (hP i hi).1) (fun i hi => ?_) h2 (fun s a0 a1 a2 a3 => ⟨?_, ⟨a0, hE, fun i hi => ?_, fun i hi => ?_⟩, a3⟩)
    · rw [h1 i hi, if_neg (fun q => by have := (hP i hi).1; omega)]
    · unfold uQ; rw [if_pos ⟨hab, rfl⟩]
    · rw [a1 i hi]; rfl
    · rw [a2 i hi]
      unfold uQ
      by_cases q : i = min (lf a) (lf b)
      · rw [if_pos q, if_pos ⟨hab, q⟩]
      · rw [if_neg q, if_neg (fun z => q z.2)]
/-- the corner behind: the next place, round E -/
def nxE (E a : Nat) : Nat := if a + 1 < E then a + 1 else 0
def pL (E : Nat) (lf : Nat → Nat) (a b : Nat) : Nat → Nat := uL (uL lf a (nxE E b)) (nxE E a) b
def pQ (E : Nat) (lf qf : Nat → Nat) (a b : Nat) : Nat → Nat := uQ (uL lf a (nxE E b)) (uQ lf qf a (nxE E b)) (nxE E a) b
/-- the sums that a pair makes -/
def pS1 (E : Nat) (lf qf : Nat → Nat) (a b : Nat) : Nat := uQ lf qf a (nxE E b) (min (lf a) (lf (nxE E b)))
def pS2 (E : Nat) (lf qf : Nat → Nat) (a b : Nat) : Nat := pQ E lf qf a b (min (uL lf a (nxE E b) (nxE E a)) (uL lf a (nxE E b) b))
theorem uQ_le {E M : Nat} {lf qf : Nat → Nat} {a b : Nat} (hlf : ∀ i, i < E → lf i ≤ i) (ha : a < E) (hb : b < E) (h : ∀ i, i < E → qf i ≤ M) : ∀ i, i < E → uQ lf qf a b i ≤ M + M := by
  intro i hi
  have h1 := h i hi
  have h2 := hlf a ha
  have h3 := hlf b hb
  have h4 := h (min (lf a) (lf b)) (by omega)
  have h5 := h (max (lf a) (lf b)) (by omega)
  unfold uQ
  split <;> omega
theorem nxE_lt {E a : Nat} (h : 0 < E) : nxE E a < E := by unfold nxE; split <;> omega
theorem sp_pair {g : GV} {d o E a b : Nat} {lf qf : Nat → Nat} {σ : PS} (hL : Lay σ) (io : isC o) (hC : Cor σ o E lf qf) (hP : Prt E lf) (hq : ∀ i, i < E → qf i ≤ 500) (ha : a < E) (hb : b < E) :
    CX3_pair g (d + 1) [.ref o, .int (nI a), .int (nI b)] σ (fun v s => Ch (chC o) noL σ s ∧ (v = if pS1 E lf qf a b ≤ 4 ∧ pS2 E lf qf a b ≤ 4 then 1 else 0) ∧ (pS1 E lf qf a b ≤ 4 ∧ pS2 E lf qf a b ≤ 4 → Cor s o E (pL E lf a b) (pQ E lf qf a b))) := by
  have h0 := hC.1
  have hE := hC.2.1
  have ea : nI a + 1 = nI (a + 1) := nI_1 a
  have eb : nI b + 1 = nI (b + 1) := nI_1 b
  have key : CX3_unite g d [.ref o, .int (nI a), .int (nI (nxE E b))] σ (fun (v : Int32) (s : PS) => Fr σ s ∧ (4 < v → (Ch (chC o) noL σ s ∧ ((0 : Int32) = if pS1 E lf qf a b ≤ 4 ∧ pS2 E lf qf a b ≤ 4 then 1 else 0) ∧ (pS1 E lf qf a b ≤ 4 ∧ pS2 E lf qf a b ≤ 4 → Cor s o E (pL E lf a b) (pQ E lf qf a b)))) ∧ (¬ 4 < v → CX3_unite g d [.ref o, .int (nI (nxE E a)), .int (nI b)] s (fun (w : Int32) (t : PS) => Fr s t ∧ (4 < w → (Ch (chC o) noL σ t ∧ ((0 : Int32) = if pS1 E lf qf a b ≤ 4 ∧ pS2 E lf qf a b ≤ 4 then 1 else 0) ∧ (pS1 E lf qf a b ≤ 4 ∧ pS2 E lf qf a b ≤ 4 → Cor t o E (pL E lf a b) (pQ E lf qf a b)))) ∧ (¬ 4 < w → (Ch (chC o) noL σ t ∧ ((1 : Int32) = if pS1 E lf qf a b ≤ 4 ∧ pS2 E lf qf a b ≤ 4 then 1 else 0) ∧ (pS1 E lf qf a b ≤ 4 ∧ pS2 E lf qf a b ≤ 4 → Cor t o E (pL E lf a b) (pQ E lf qf a b))))))) := by
    have hx := nxE_lt (a := b) (show 0 < E by omega)
    have hy := nxE_lt (a := a) (show 0 < E by omega)
    refine Ct.imp (sp_unite hL io hC hP (fun i hi => by have := hq i hi; omega) ha hx) (fun r s q => ?_)
    obtain ⟨v, rfl, rfl, hC1, hc1⟩ := q
    have b1 : pS1 E lf qf a b ≤ 1000 := uQ_le (fun i hi => (hP i hi).1) ha hx hq _ (by have := (hP a ha).1; omega)
    refine ⟨_, rfl, hc1.fr, fun h4 => ?_, fun h4 => ?_⟩
    · have h4' : ¬ pS1 E lf qf a b ≤ 4 := by
        have : 4 < nI (pS1 E lf qf a b) := h4
        rw [lit32] at this
        simp (disch := omega) only [zLT] at this
        omega
      exact ⟨hc1, by rw [if_neg (fun z => h4' z.1)], fun z => absurd z.1 h4'⟩
    · have h4' : pS1 E lf qf a b ≤ 4 := by
        have : ¬ 4 < nI (pS1 E lf qf a b) := h4
        rw [lit32] at this
        simp (disch := omega) only [zLT] at this
        omega
      have hP1 := hP.uL ha hx
      have hq1 : ∀ i, i < E → uQ lf qf a (nxE E b) i ≤ 1000 := uQ_le (fun i hi => (hP i hi).1) ha hx hq
      refine Ct.imp (sp_unite (hc1.lay hL) io hC1 hP1 hq1 hy hb) (fun r t q => ?_)
      obtain ⟨w, rfl, rfl, hC2, hc2⟩ := q
      have b2 : pS2 E lf qf a b ≤ 2000 := uQ_le (fun i hi => (hP1 i hi).1) hy hb hq1 _ (by have := (hP1 b hb).1; omega)
      refine ⟨_, rfl, hc2.fr, fun h5 => ?_, fun h5 => ?_⟩
      · have h5' : ¬ pS2 E lf qf a b ≤ 4 := by
          have : 4 < nI (pS2 E lf qf a b) := h5
          rw [lit32] at this
          simp (disch := omega) only [zLT] at this
          omega
        exact ⟨hc1.trans hc2, by rw [if_neg (fun z => h5' z.2)], fun z => absurd z.2 h5'⟩
      · have h5' : pS2 E lf qf a b ≤ 4 := by
          have : ¬ 4 < nI (pS2 E lf qf a b) := h5
          rw [lit32] at this
          simp (disch := omega) only [zLT] at this
          omega
        exact ⟨hc1.trans hc2, by rw [if_pos ⟨h4', h5'⟩], fun _ => hC2⟩
  refine vcX3_pair hL o io _ _ ?_
  simp (disch := omega) only [ea, eb, h0, zLE]
  refine ⟨fun h1 => ⟨fun h2 => ?_, fun h2 x ex => ?_⟩, fun h1 x ex => ⟨fun h2 => ?_, fun h2 y ey => ?_⟩⟩
  · rw [show nxE E b = 0 from if_neg (by omega), show nxE E a = 0 from if_neg (by omega)] at key
    exact key
  · rw [ex]
    rw [show nxE E b = b + 1 from if_pos (by omega), show nxE E a = 0 from if_neg (by omega)] at key
    exact key
  · rw [ex]
    rw [show nxE E b = 0 from if_neg (by omega), show nxE E a = a + 1 from if_pos (by omega)] at key
    exact key
  · rw [ex, ey]
    rw [show nxE E b = b + 1 from if_pos (by omega), show nxE E a = a + 1 from if_pos (by omega)] at key
    exact key
theorem Prt.pL {E : Nat} {lf : Nat → Nat} {a b : Nat} (h : Prt E lf) (ha : a < E) (hb : b < E) : Prt E (pL E lf a b) :=
  (h.uL ha (nxE_lt (by omega))).uL (nxE_lt (by omega)) hb
theorem isC_F {o p : Nat} (hC : isC o) (hF : isF p) : ∀ i j, i ≤ 2 → j ≤ 8 → o + i ≠ p + j := by
  unfold isC at hC
  unfold isF at hF
  simp only [List.mem_cons, List.not_mem_nil, or_false] at hC hF
  omega
theorem isC_C {o p : Nat} (hC : isC o) (hF : isC p) (h : o ≠ p) : ∀ i j, i ≤ 2 → j ≤ 2 → o + i ≠ p + j := by
  unfold isC at hC hF
  simp only [List.mem_cons, List.not_mem_nil, or_false] at hC hF
  omega
abbrev chC0 (o : Nat) : Nat → Nat → Prop := fun x _ => x = o ∨ x = o + 1 ∨ x = o + 2
theorem sp_start_loop {g : GV} {d o p E : Nat} {q : Nat → Nat} {P : PS → Prop} (io : isC o) (ip : isF p) :
    ∀ (n k : Nat) (σ : PS), n = E - k → k ≤ E → E ≤ 22 → Lay σ → mi σ o 0 = nI E → (∀ i, i < E → mi σ (p + 8) i = nI (q i)) → (∀ i, i < k → mi σ (o + 1) i = nI i) → (∀ i, i < k → mi σ (o + 2) i = nI (q i)) →
      (∀ s, Cor s o E (fun i => i) q → Ch (chC0 o) noL σ s → P s) →
      VX3_start g d P 10 [some (.ref o), some (.ref p), some (.int (nI k))] [] σ := by
  intro n
  induction n with
  | zero =>
    intro k σ hn hk hE hL h0 hq h1 h2 hp
    have hkE : k = E := by omega
    subst hkE
    refine vcX3_start_10 hL o io p ip _ ⟨fun _ => hp σ ⟨h0, hE, h1, h2⟩ Ch.rf, fun hc => ?_⟩
    exact absurd (by rw [h0]; simp (disch := omega) only [zLE]; omega) hc
  | succ n ih =>
    intro k σ hn hk hE hL h0 hq h1 h2 hp
    have hne := isC_F io ip
    have n1 := hne 1 8 (by omega) (by omega)
    have n2 := hne 2 8 (by omega) (by omega)
    have e1 := hq k (by omega)
    refine vcX3_start_10 hL o io p ip _ ⟨fun hc => ?_, fun _ => ?_⟩
    · rw [h0] at hc
      simp (disch := omega) only [zLE] at hc
      omega
    · simp (disch := omega) only [zIN, zCL]
      refine ⟨by omega, fun s4 e4 => ⟨by omega, by omega, fun s8 e8 x10 e10 => ?_⟩⟩
      have e5 : mi s4 (p + 8) k = nI (q k) := by rw [e4, mi_si, if_neg (by omega)]; exact e1
      rw [e5] at e8
      have c8 : Ch (chC0 o) noL σ s8 := by rw [e8, e4]; exact (Ch.rf.si (Or.inr (Or.inl rfl))).si (Or.inr (Or.inr rfl))
      rw [e10, lit32, nI_add]
      refine ih (k + 1) s8 (by omega) (by omega) hE (c8.lay hL) ?_ ?_ ?_ ?_ (fun s a1 a2 => hp s a1 (c8.trans a2))
      · rw [e8, mi_si, if_neg (by omega), e4, mi_si, if_neg (by omega)]; exact h0
      · intro i hi
        rw [e8, mi_si, if_neg (by omega), e4, mi_si, if_neg (by omega)]; exact hq i hi
      · intro i hi
        rw [e8, mi_si, if_neg (by omega), e4, mi_si]
        by_cases z : i = k
        · rw [if_pos ⟨rfl, z⟩, z]
        · rw [if_neg (by omega)]; exact h1 i (by omega)
      · intro i hi
        rw [e8, mi_si]
        by_cases z : i = k
        · rw [if_pos ⟨rfl, z⟩, z]
        · rw [if_neg (by omega), e4, mi_si, if_neg (by omega)]; exact h2 i (by omega)
theorem sp_start {g : GV} {d o p E : Nat} {q : Nat → Nat} {σ : PS} (hL : Lay σ) (io : isC o) (ip : isF p) (hE : E ≤ 22) (h0 : mi σ p 6 = nI E) (hq : ∀ i, i < E → mi σ (p + 8) i = nI (q i)) :
    CX3_start g d [.ref o, .ref p] σ (fun s => Cor s o E (fun i => i) q ∧ Ch (chC0 o) noL σ s) := by
  have hne := isC_F io ip
  have n0 := hne 0 8 (by omega) (by omega)
  refine vcX3_start hL o io p ip (fun s1 e1 => ?_)
  have c1 : Ch (chC0 o) noL σ s1 := by rw [e1]; exact Ch.rf.si (Or.inl rfl)
  refine sp_start_loop io ip E 0 s1 (by omega) (by omega) hE (c1.lay hL) (by rw [e1, mi_si, if_pos ⟨rfl, rfl⟩]; exact h0) (fun i hi => by rw [e1, mi_si, if_neg (by omega)]; exact hq i hi) (fun i hi => by omega) (fun i hi => by omega) (fun s a b => ⟨a, c1.trans b⟩)
theorem cpy0 {f g : Nat → Int32} {z i : Nat} (h : i < z) : va_cpy f g 0 0 z i = f i := by
  rw [pk_cpy_in (by omega) (by omega)]
  congr 1
  omega
theorem cpy0n {f g : Nat → Int32} {z i : Nat} (h : z ≤ i) : va_cpy f g 0 0 z i = g i := pk_cpy_out (by omega)
theorem cl0 : Int32.toNatClampNeg (0 : Int32) = 0 := by decide
theorem cl16 : Int32.toNatClampNeg (16 : Int32) = 16 := by decide
theorem cl22 : Int32.toNatClampNeg (22 : Int32) = 22 := by decide
theorem sp_copy {g : GV} {d o p E : Nat} {lf qf : Nat → Nat} {σ : PS} (hL : Lay σ) (io : isC o) (ip : isC p) (hop : o ≠ p) (hC : Cor σ p E lf qf) :
    CX3_copy g d [.ref o, .ref p] σ (fun s => Cor s o E lf qf ∧ Ch (chC0 o) noL σ s) := by
  have hne := isC_C io ip hop
  have n1 := hne 0 1 (by omega) (by omega)
  have n2 := hne 0 2 (by omega) (by omega)
  have n3 := hne 1 1 (by omega) (by omega)
  have n4 := hne 1 2 (by omega) (by omega)
  have n5 := hne 2 2 (by omega) (by omega)
  have n6 := hne 2 1 (by omega) (by omega)
  obtain ⟨h0, hE, h1, h2⟩ := hC
  refine vcX3_copy hL o io p ip (fun s1 e1 => ⟨by decide, fun s4 e4 => ⟨by decide, fun s7 e7 => ?_⟩⟩)
  rw [cl0, cl22] at e4 e7
  have c1 : Ch (chC0 o) noL σ s1 := by rw [e1]; exact Ch.rf.si (Or.inl rfl)
  have c4 : Ch (chC0 o) noL σ s4 := by rw [e4]; exact c1.sa (fun k => Or.inl (Or.inr (Or.inl rfl)))
  have c7 : Ch (chC0 o) noL σ s7 := by rw [e7]; exact c4.sa (fun k => Or.inl (Or.inr (Or.inr rfl)))
  refine ⟨⟨?_, hE, fun i hi => ?_, fun i hi => ?_⟩, c7⟩
  · rw [e7, mi_sa, if_neg (by omega), e4, mi_sa, if_neg (by omega), e1, mi_si, if_pos ⟨rfl, rfl⟩]
    exact h0
  · rw [e7, mi_sa, if_neg (by omega), e4, mi_sa, if_pos rfl, cpy0 (by omega), e1, mi_si, if_neg (by omega)]
    exact h1 i hi
  · rw [e7, mi_sa, if_pos rfl, cpy0 (by omega), e4, mi_sa, if_neg (by omega), e1, mi_si, if_neg (by omega)]
    exact h2 i hi
/-- how many below n, and sums -/
def cnt (p : Nat → Bool) : Nat → Nat
  | 0 => 0
  | n + 1 => cnt p n + (if p n then 1 else 0)
def sumN (f : Nat → Nat) : Nat → Nat
  | 0 => 0
  | n + 1 => sumN f n + f n
theorem cnt_le (p : Nat → Bool) (n : Nat) : cnt p n ≤ n := by
  induction n with
  | zero => exact Nat.le_refl _
  | succ n ih => unfold cnt; split <;> omega
theorem sp_howMany {g : GV} {d o E r : Nat} {lf qf : Nat → Nat} {σ : PS} (hL : Lay σ) (io : isC o) (hC : Cor σ o E lf qf) (hP : Prt E lf) (hr : r < E) :
    CX3_howMany g d [.ref o, .int (nI r)] σ (fun v s => v = nI (cnt (fun i => lf i == r) E) ∧ s = σ) := by
  obtain ⟨h0, hE, h1, h2⟩ := hC
  have loop : ∀ (n k : Nat), n = E - k → k ≤ E → VX3_howMany g d (fun v s => v = nI (cnt (fun i => lf i == r) E) ∧ s = σ) 4 [some (.ref o), some (.int (nI r)), some (.int (nI (cnt (fun i => lf i == r) k))), some (.int (nI k))] [] σ := by
    intro n
    induction n with
    | zero =>
      intro k hn hk
      have hkE : k = E := by omega
      subst hkE
      refine vcX3_howMany_4 hL o io _ _ _ ⟨fun _ => ⟨rfl, rfl⟩, fun hc => ?_⟩
      exact absurd (by rw [h0]; simp (disch := omega) only [zLE]; omega) hc
    | succ n ih =>
      intro k hn hk
      have e1 := h1 k (by omega)
      have l1 := (hP k (by omega)).1
      have hc9 := cnt_le (fun i => lf i == r) k
      refine vcX3_howMany_4 hL o io _ _ _ ⟨fun hc => ?_, fun _ => ?_⟩
      · rw [h0] at hc
        simp (disch := omega) only [zLE] at hc
        omega
      · simp (disch := omega) only [zIN, zCL, e1, zEQ]
        refine ⟨by omega, fun hne x2 e2 x4 e4 => ?_, fun heq x6 e6 x8 e8 => ?_⟩
        · have := ih (k + 1) (by omega) (by omega)
          rw [show cnt (fun i => lf i == r) (k + 1) = cnt (fun i => lf i == r) k + 0 by simp [cnt, hne]] at this
          rw [e2, e4, lit32, lit32, nI_add, nI_add]
          exact this
        · have := ih (k + 1) (by omega) (by omega)
          rw [show cnt (fun i => lf i == r) (k + 1) = cnt (fun i => lf i == r) k + 1 by simp [cnt, heq]] at this
          rw [e6, e8, lit32, nI_add, nI_add]
          exact this
  exact vcX3_howMany hL o io _ (loop E 0 rfl (Nat.zero_le _))
theorem sp_howManyOf {g : GV} {d o E t : Nat} {lf qf : Nat → Nat} {σ : PS} (hL : Lay σ) (io : isC o) (hC : Cor σ o E lf qf) (hP : Prt E lf) (hq : ∀ i, i < E → qf i ≤ 1000) (ht : t < 1000) :
    CX3_howManyOf g d [.ref o, .int (nI t)] σ (fun v s => v = nI (cnt (fun i => lf i == i && qf i == t) E) ∧ s = σ) := by
  obtain ⟨h0, hE, h1, h2⟩ := hC
  have loop : ∀ (n k : Nat), n = E - k → k ≤ E → VX3_howManyOf g d (fun v s => v = nI (cnt (fun i => lf i == i && qf i == t) E) ∧ s = σ) 4 [some (.ref o), some (.int (nI t)), some (.int (nI (cnt (fun i => lf i == i && qf i == t) k))), some (.int (nI k))] [] σ := by
    intro n
    induction n with
    | zero =>
      intro k hn hk
      have hkE : k = E := by omega
      subst hkE
      refine vcX3_howManyOf_4 hL o io _ _ _ ⟨fun _ => ⟨rfl, rfl⟩, fun hc => ?_⟩
      exact absurd (by rw [h0]; simp (disch := omega) only [zLE]; omega) hc
    | succ n ih =>
      intro k hn hk
      have e1 := h1 k (by omega)
      have e2 := h2 k (by omega)
      have l1 := (hP k (by omega)).1
      have q1 := hq k (by omega)
      have hc9 := cnt_le (fun i => lf i == i && qf i == t) k
      have hi := ih (k + 1) (by omega) (by omega)
      refine vcX3_howManyOf_4 hL o io _ _ _ ⟨fun hc => ?_, fun _ => ?_⟩
      · rw [h0] at hc
        simp (disch := omega) only [zLE] at hc
        omega
      · simp (disch := omega) only [zIN, zCL, e1, e2, zEQ]
        refine ⟨by omega, fun hne x2 a2 x4 a4 => ?_, fun heq => ⟨by omega, fun hne x2 a2 x4 a4 => ?_, fun heq2 x2 a2 x4 a4 => ?_⟩⟩
        · rw [show cnt (fun i => lf i == i && qf i == t) (k + 1) = cnt (fun i => lf i == i && qf i == t) k + 0 by simp [cnt, hne]] at hi
          rw [a2, a4, lit32, lit32, nI_add, nI_add]
          exact hi
        · rw [show cnt (fun i => lf i == i && qf i == t) (k + 1) = cnt (fun i => lf i == i && qf i == t) k + 0 by simp [cnt, hne]] at hi
          rw [a2, a4, lit32, lit32, nI_add, nI_add]
          exact hi
        · rw [show cnt (fun i => lf i == i && qf i == t) (k + 1) = cnt (fun i => lf i == i && qf i == t) k + 1 by simp [cnt, heq, heq2]] at hi
          rw [a2, a4, lit32, nI_add, nI_add]
          exact hi
  exact vcX3_howManyOf hL o io _ (loop E 0 rfl (Nat.zero_le _))
