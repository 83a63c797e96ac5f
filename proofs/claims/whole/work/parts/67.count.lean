/-! ===== counting along a map; how many pairs ===== -/
theorem cnt_le_inj {N : Nat} {p : Nat → Bool} {f : Nat → Nat} : ∀ (k : Nat) (r : Nat → Bool), (∀ i, i < k → p i = true → f i < N ∧ r (f i) = true) → (∀ i j, i < k → j < k → p i = true → p j = true → f i = f j → i = j) → cnt p k ≤ cnt r N := by
  intro k
  induction k with
  | zero => intro r _ _; exact Nat.zero_le _
  | succ k ih =>
    intro r h1 h2
    rw [cnt_s]
    by_cases hp : p k = true
    · obtain ⟨a, b⟩ := h1 k (by omega) hp
      rw [cnt_erase a b, if_pos hp]
      refine Nat.add_le_add_right (ih (fun i => r i && !(i == f k)) (fun i hi hpi => ?_) (fun i j hi hj => h2 i j (by omega) (by omega))) 1
      obtain ⟨c, e⟩ := h1 i (by omega) hpi
      refine ⟨c, ?_⟩
      have : f i ≠ f k := fun w => by have := h2 i k (by omega) (by omega) hpi hp w; omega
      show (r (f i) && !(f i == f k)) = true
      rw [e, beq_false_of_ne this]
      rfl
    · rw [if_neg hp, Nat.add_zero]
      exact ih r (fun i hi => h1 i (by omega)) (fun i j hi hj => h2 i j (by omega) (by omega))
theorem cnt_split {p q r : Nat → Bool} {n : Nat} (h : ∀ i, i < n → (if p i then 1 else 0) = (if q i then 1 else 0) + (if r i then (1 : Nat) else 0)) : cnt p n = cnt q n + cnt r n := by
  induction n with
  | zero => rfl
  | succ n ih =>
    rw [cnt_s, cnt_s, cnt_s, ih (fun i hi => h i (by omega)), h n (by omega)]
    omega
/-- pairs of edges -/
def Inv (E : Nat) (m : Mat) : Prop := ∀ e b, m e = some b → e < E ∧ b < E ∧ b ≠ e ∧ m b = some e
def cls1 (m : Mat) (i : Nat) : Bool := match m i with
  | some b => decide (b < i)
  | none => false
theorem opn1_is {m : Mat} {i : Nat} : opn1 m i = true ↔ ∃ b, m i = some b ∧ i < b := by
  unfold opn1
  cases m i with
  | none => exact ⟨fun h => (by cases h), fun ⟨b, h, _⟩ => (by cases h)⟩
  | some b => exact ⟨fun h => ⟨b, rfl, of_decide_eq_true h⟩, fun ⟨c, h, h2⟩ => by cases h; exact decide_eq_true h2⟩
theorem cls1_is {m : Mat} {i : Nat} : cls1 m i = true ↔ ∃ b, m i = some b ∧ b < i := by
  unfold cls1
  cases m i with
  | none => exact ⟨fun h => (by cases h), fun ⟨b, h, _⟩ => (by cases h)⟩
  | some b => exact ⟨fun h => ⟨b, rfl, of_decide_eq_true h⟩, fun ⟨c, h, h2⟩ => by cases h; exact decide_eq_true h2⟩
theorem gcn_opn {E : Nat} {m : Mat} (h : Inv E m) : gcn E m = 2 * cnt (opn1 m) E := by
  have e1 : gcn E m = cnt (opn1 m) E + cnt (cls1 m) E := by
    refine cnt_split (fun i hi => ?_)
    cases hm : m i with
    | none =>
      have a : opn1 m i = false := by unfold opn1; rw [hm]
      have b : cls1 m i = false := by unfold cls1; rw [hm]
      rw [a, b]
      rfl
    | some b =>
      have hne := (h i b hm).2.2.1
      rcases Nat.lt_or_ge i b with w | w
      · have a : opn1 m i = true := opn1_is.mpr ⟨b, hm, w⟩
        have c : cls1 m i = false := by unfold cls1; rw [hm]; exact decide_eq_false (by omega)
        rw [a, c]
        rfl
      · have a : opn1 m i = false := by unfold opn1; rw [hm]; exact decide_eq_false (by omega)
        have c : cls1 m i = true := cls1_is.mpr ⟨b, hm, by omega⟩
        rw [a, c]
        rfl
  have mate : ∀ i b, m i = some b → (m i).getD 0 = b := fun i b h => by rw [h]; rfl
  have a1 : cnt (opn1 m) E ≤ cnt (cls1 m) E := by
    refine cnt_le_inj (f := fun i => (m i).getD 0) E _ (fun i hi hp => ?_) (fun i j _ _ hp hq he => ?_)
    · obtain ⟨b, hb, hlt⟩ := opn1_is.mp hp
      have := h i b hb
      simp only [mate i b hb]
      exact ⟨this.2.1, cls1_is.mpr ⟨i, this.2.2.2, hlt⟩⟩
    · obtain ⟨b, hb, -⟩ := opn1_is.mp hp
      obtain ⟨c, hc, -⟩ := opn1_is.mp hq
      simp only [mate i b hb, mate j c hc] at he
      subst he
      exact Option.some.inj ((h i b hb).2.2.2.symm.trans (h j b hc).2.2.2)
  have a2 : cnt (cls1 m) E ≤ cnt (opn1 m) E := by
    refine cnt_le_inj (f := fun i => (m i).getD 0) E _ (fun i hi hp => ?_) (fun i j _ _ hp hq he => ?_)
    · obtain ⟨b, hb, hlt⟩ := cls1_is.mp hp
      have := h i b hb
      simp only [mate i b hb]
      exact ⟨this.2.1, opn1_is.mpr ⟨i, this.2.2.2, hlt⟩⟩
    · obtain ⟨b, hb, -⟩ := cls1_is.mp hp
      obtain ⟨c, hc, -⟩ := cls1_is.mp hq
      simp only [mate i b hb, mate j c hc] at he
      subst he
      exact Option.some.inj ((h i b hb).2.2.2.symm.trans (h j b hc).2.2.2)
  omega
theorem gcn_full {E : Nat} {m : Mat} : gcn E m = E ↔ ∀ e, e < E → (m e).isSome = true := by
  constructor
  · intro h e he
    cases hm : m e with
    | none => have := gcn_lt he hm; omega
    | some b => rfl
  · intro h
    have : ∀ n, n ≤ E → cnt (fun e => (m e).isSome) n = n := by
      intro n
      induction n with
      | zero => intro _; rfl
      | succ n ih => intro hn; rw [cnt_s, ih (by omega), h n (by omega), if_pos rfl]
    exact this E (Nat.le_refl _)
/-- a full map as a matching -/
def mt (m : Mat) (e : Nat) : Nat := (m e).getD 0
theorem mt_is {m : Mat} {e b : Nat} (h : m e = some b) : mt m e = b := by unfold mt; rw [h]; rfl
theorem Inv.mt {E : Nat} {m : Mat} (h : Inv E m) (hf : gcn E m = E) : Mt E (mt m) := by
  intro e he
  have := gcn_full.mp hf e he
  cases hm : m e with
  | none => rw [hm] at this; cases this
  | some b =>
    obtain ⟨-, h2, h3, h4⟩ := h e b hm
    rw [mt_is hm, mt_is h4]
    exact ⟨h2, rfl, h3⟩
theorem FM.inv {E : Nat} {q : Nat → Nat} {m : Mat} (h : FM E q m) : Inv E m := h.1.inv
theorem FM.full {E : Nat} {q : Nat → Nat} {m : Mat} (h : FM E q m) : gcn E m = E := gcn_full.mpr h.1.all
theorem sp_pairsNow {g : GV} {d E : Nat} {m : Mat} {σ : PS} (hL : Lay σ) (hE : E ≤ 22) (h0 : mi σ 179 38 = nI E) (hM : MA σ 209 24 m) (hm : Inv E m) :
    CX12_pairsNow g d [.ref 179] σ (fun v s => v = nI (cnt (opn1 m) E) ∧ s = σ) := by
  have hg := gcn_opn hm
  have hgE : gcn E m ≤ E := cnt_le _ E
  have loop : ∀ (z k : Nat), z = E - k → k ≤ E → VX12_pairsNow g d (fun v s => v = nI (cnt (opn1 m) E) ∧ s = σ) 4 [some (.ref 179), some (.int (nI (cnt (fun e => (m e).isSome) k))), some (.int (nI k))] [] σ := by
    intro z
    induction z with
    | zero =>
      intro k hz hk
      have e : k = E := by omega
      subst e
      refine vcX12_pairsNow_4 hL _ _ ?_
      rw [h0]
      refine ⟨fun _ => ⟨?_, rfl⟩, fun h => absurd (by rw [zLE (by omega) (by omega)]; omega) h⟩
      rw [show cnt (fun e => (m e).isSome) k = 2 * cnt (opn1 m) k from hg, lit32 2]
      rw [zDIV (by unfold gcn at *; omega) (by omega) (by omega)]
      congr 1
      omega
    | succ z ih =>
      intro k hz hk
      have nxt := ih (k + 1) (by omega) (by omega)
      rw [cnt_s] at nxt
      refine vcX12_pairsNow_4 hL _ _ ?_
      rw [h0]
      simp (disch := omega) only [zLE, zIN, zCL, hM k (by omega)]
      rw [oI_lt0 (m k) (fun j hj => by have := (hm k j hj).2.1; omega)]
      refine ⟨fun h => by omega, fun _ => ⟨by omega, fun hn x2 e2 x4 e4 => ?_, fun hn x6 e6 x8 e8 => ?_⟩⟩
      · rw [hn, if_neg (by decide), Nat.add_zero] at nxt
        rw [inc e4, e2, lit32 0, nI_add, Nat.add_zero]
        exact nxt
      · rw [if_pos (by cases h : m k with | none => exact absurd h hn | some b => rfl)] at nxt
        rw [inc e8, inc e6]
        exact nxt
  exact vcX12_pairsNow hL (loop E 0 rfl (by omega))
