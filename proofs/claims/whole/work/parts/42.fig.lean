/-! ===== figures: cells by their places, what lies behind a side, the rim (numbers alone) ===== -/
def fnd (p : Nat → Bool) : Nat → Option Nat
  | 0 => none
  | n + 1 => match fnd p n with
    | some k => some k
    | none => if p n then some n else none
theorem fnd_some {p : Nat → Bool} {n k : Nat} (h : fnd p n = some k) : k < n ∧ p k = true ∧ ∀ j, j < k → p j = false := by
  induction n with
  | zero => cases h
  | succ n ih =>
    unfold fnd at h
    cases hq : fnd p n with
    | some z =>
      rw [hq] at h
      have e : z = k := Option.some.inj h
      subst e
      obtain ⟨a, b, c⟩ := ih hq
      exact ⟨by omega, b, c⟩
    | none =>
      rw [hq] at h
      have hn : ∀ j, j < n → p j = false := by
        clear ih h
        induction n with
        | zero => intro j hj; omega
        | succ n ih2 =>
          intro j hj
          unfold fnd at hq
          cases hq2 : fnd p n with
          | some z => rw [hq2] at hq; cases hq
          | none =>
            rw [hq2] at hq
            by_cases e : j = n
            · subst e
              cases hp : p j with
              | false => rfl
              | true => simp [hp] at hq
            · exact ih2 hq2 j (by omega)
      by_cases hp : p n = true
      · simp only [hp, if_true] at h
        have e : n = k := Option.some.inj h
        subst e
        exact ⟨by omega, hp, hn⟩
      · simp [hp] at h
theorem fnd_none {p : Nat → Bool} {n : Nat} (h : fnd p n = none) : ∀ j, j < n → p j = false := by
  induction n with
  | zero => intro j hj; omega
  | succ n ih2 =>
    intro j hj
    unfold fnd at h
    cases hq2 : fnd p n with
    | some z => rw [hq2] at h; cases h
    | none =>
      rw [hq2] at h
      by_cases e : j = n
      · subst e
        cases hp : p j with
        | false => rfl
        | true => simp [hp] at h
      · exact ih2 hq2 j (by omega)
theorem fnd_is {p : Nat → Bool} {n k : Nat} (hk : k < n) (hp : p k = true) (hl : ∀ j, j < k → p j = false) : fnd p n = some k := by
  cases h : fnd p n with
  | none => have := fnd_none h k hk; rw [hp] at this; cases this
  | some z =>
    obtain ⟨a, b, c⟩ := fnd_some h
    rcases Nat.lt_trichotomy z k with q | q | q
    · have := hl z q; rw [b] at this; cases this
    · rw [q]
    · have := c k q; rw [hp] at this; cases this
theorem fnd_no {p : Nat → Bool} {n : Nat} (h : ∀ j, j < n → p j = false) : fnd p n = none := by
  cases hq : fnd p n with
  | none => rfl
  | some z =>
    obtain ⟨a, b, c⟩ := fnd_some hq
    rw [h z a] at b
    cases b
def dX (s : Nat) : Int := if s = 1 then 1 else if s = 3 then -1 else 0
def dY (s : Nat) : Int := if s = 2 then 1 else if s = 0 then -1 else 0
def Adj (x y : Nat → Nat) (c s k : Nat) : Prop := (x k : Int) = x c + dX s ∧ (y k : Int) = y c + dY s
def bhd (n : Nat) (x y : Nat → Nat) (c s : Nat) : Option Nat := fnd (fun k => decide ((x k : Int) = x c + dX s) && decide ((y k : Int) = y c + dY s)) n
def Dst (n : Nat) (x y : Nat → Nat) : Prop := ∀ i j, i < n → j < n → x i = x j → y i = y j → i = j
theorem bhd_s {n c s k : Nat} {x y : Nat → Nat} (h : bhd n x y c s = some k) : k < n ∧ Adj x y c s k := by
  obtain ⟨a, b, -⟩ := fnd_some h
  simp only [Bool.and_eq_true, decide_eq_true_eq] at b
  exact ⟨a, b⟩
theorem bhd_n {n c s k : Nat} {x y : Nat → Nat} (h : bhd n x y c s = none) (hk : k < n) : ¬ Adj x y c s k := by
  have := fnd_none h k hk
  intro q
  simp [q.1, q.2] at this
theorem bhd_is {n c s k : Nat} {x y : Nat → Nat} (hD : Dst n x y) (hk : k < n) (h : Adj x y c s k) : bhd n x y c s = some k := by
  refine fnd_is hk (by simp [h.1, h.2]) (fun j hj => ?_)
  cases hq : (decide ((x j : Int) = x c + dX s) && decide ((y j : Int) = y c + dY s)) with
  | false => rfl
  | true =>
    simp only [Bool.and_eq_true, decide_eq_true_eq] at hq
    obtain ⟨h1, h2⟩ := h
    have := hD j k (by omega) hk (by omega) (by omega)
    omega
theorem four {s : Nat} (h : s < 4) : s = 0 ∨ s = 1 ∨ s = 2 ∨ s = 3 := by omega
theorem Adj.back {x y : Nat → Nat} {c s k : Nat} (hs : s < 4) (h : Adj x y c s k) : Adj x y k ((s + 2) % 4) c := by
  obtain ⟨h1, h2⟩ := h
  rcases four hs with rfl | rfl | rfl | rfl <;> simp [dX, dY, Adj] at * <;> omega
theorem bhd_back {n c s k : Nat} {x y : Nat → Nat} (hD : Dst n x y) (hc : c < n) (hs : s < 4) (h : bhd n x y c s = some k) : bhd n x y k ((s + 2) % 4) = some c := bhd_is hD hc ((bhd_s h).2.back hs)
theorem bhd_ne {n c s k : Nat} {x y : Nat → Nat} (hs : s < 4) (h : bhd n x y c s = some k) : k ≠ c := by
  intro e
  subst e
  obtain ⟨-, h1, h2⟩ := bhd_s h
  rcases four hs with rfl | rfl | rfl | rfl <;> simp [dX, dY] at h1 h2 <;> omega
def Opn (n : Nat) (x y : Nat → Nat) (q : Nat × Nat) : Prop := q.1 < n ∧ q.2 < 4 ∧ bhd n x y q.1 q.2 = none
def rimS (n : Nat) (x y : Nat → Nat) (q : Nat × Nat) : (Nat × Nat) × Nat := match bhd n x y q.1 ((q.2 + 1) % 4) with
  | none => ((q.1, (q.2 + 1) % 4), 1)
  | some a => match bhd n x y a q.2 with
    | none => ((a, q.2), 2)
    | some b => ((b, (q.2 + 3) % 4), 3)
/-- the three ways of the rim at a corner -/
theorem rim_cases (n : Nat) (x y : Nat → Nat) (c s : Nat) : (bhd n x y c ((s + 1) % 4) = none ∧ rimS n x y (c, s) = ((c, (s + 1) % 4), 1)) ∨ (∃ a, bhd n x y c ((s + 1) % 4) = some a ∧ bhd n x y a s = none ∧ rimS n x y (c, s) = ((a, s), 2)) ∨ (∃ a b, bhd n x y c ((s + 1) % 4) = some a ∧ bhd n x y a s = some b ∧ rimS n x y (c, s) = ((b, (s + 3) % 4), 3)) := by
  unfold rimS
  cases h1 : bhd n x y c ((s + 1) % 4) with
  | none => exact Or.inl ⟨rfl, by simp only [h1]⟩
  | some a =>
    cases h2 : bhd n x y a s with
    | none => exact Or.inr (Or.inl ⟨a, rfl, h2, by simp only [h1, h2]⟩)
    | some b => exact Or.inr (Or.inr ⟨a, b, rfl, h2, by simp only [h1, h2]⟩)
theorem rimS_open {n : Nat} {x y : Nat → Nat} {c s : Nat} (hD : Dst n x y) (h : Opn n x y (c, s)) : Opn n x y (rimS n x y (c, s)).1 := by
  obtain ⟨hc, hs, ho⟩ := h
  simp only at hc hs ho
  rcases rim_cases n x y c s with ⟨h1, e⟩ | ⟨a, h1, h2, e⟩ | ⟨a, b, h1, h2, e⟩ <;> rw [e]
  · exact ⟨hc, by simp only; omega, h1⟩
  · exact ⟨(bhd_s h1).1, hs, h2⟩
  · refine ⟨(bhd_s h2).1, by simp only; omega, ?_⟩
    obtain ⟨ha, a1, a2⟩ := bhd_s h1
    obtain ⟨hb, b1, b2⟩ := bhd_s h2
    cases hq : bhd n x y b ((s + 3) % 4) with
    | none => rfl
    | some d =>
      obtain ⟨hd, d1, d2⟩ := bhd_s hq
      exfalso
      refine bhd_n ho hd ⟨?_, ?_⟩
      · rcases four hs with rfl | rfl | rfl | rfl <;> simp [dX, dY] at * <;> omega
      · rcases four hs with rfl | rfl | rfl | rfl <;> simp [dX, dY] at * <;> omega
theorem rimS_inj {n : Nat} {x y : Nat → Nat} {c s c' s' : Nat} (hD : Dst n x y) (h : Opn n x y (c, s)) (h' : Opn n x y (c', s')) (e : (rimS n x y (c, s)).1 = (rimS n x y (c', s')).1) : c = c' ∧ s = s' := by
  obtain ⟨hc, hs, ho⟩ := h
  obtain ⟨hc', hs', ho'⟩ := h'
  simp only at hc hs ho hc' hs' ho'
  have m1 : (s + 1) % 4 < 4 := by omega
  have m2 : (s' + 1) % 4 < 4 := by omega
  rcases rim_cases n x y c s with ⟨h1, e1⟩ | ⟨a, h1, h2, e1⟩ | ⟨a, b, h1, h2, e1⟩ <;> rcases rim_cases n x y c' s' with ⟨g1, e2⟩ | ⟨a', g1, g2, e2⟩ | ⟨a', b', g1, g2, e2⟩ <;> rw [e1, e2] at e <;> simp only [Prod.mk.injEq] at e <;> obtain ⟨ee, es⟩ := e
  · exact ⟨ee, by omega⟩
  · exfalso
    have k1 := bhd_back hD hc' m2 g1
    rw [← ee, show ((s' + 1) % 4 + 2) % 4 = s by omega, ho] at k1
    cases k1
  · exfalso
    have ha := (bhd_s g1).1
    have k1 := bhd_back hD ha hs' g2
    rw [← ee, show (s' + 2) % 4 = s by omega, ho] at k1
    cases k1
  · exfalso
    have k1 := bhd_back hD hc m1 h1
    rw [ee, show ((s + 1) % 4 + 2) % 4 = s' by omega, ho'] at k1
    cases k1
  · have k1 := bhd_back hD hc m1 h1
    have k2 := bhd_back hD hc' m2 g1
    rw [ee, es] at k1
    rw [k1] at k2
    exact ⟨Option.some.inj k2, es⟩
  · exfalso
    have ha := (bhd_s g1).1
    have k1 := bhd_back hD hc m1 h1
    have k2 := bhd_back hD ha hs' g2
    rw [← ee, show (s' + 2) % 4 = ((s + 1) % 4 + 2) % 4 by omega, k1] at k2
    have k3 : c = a' := Option.some.inj k2
    have k4 := bhd_back hD hc' m2 g1
    rw [← k3, show ((s' + 1) % 4 + 2) % 4 = s by omega, ho] at k4
    cases k4
  · exfalso
    have ha := (bhd_s h1).1
    have k1 := bhd_back hD ha hs h2
    rw [ee, show (s + 2) % 4 = s' by omega, ho'] at k1
    cases k1
  · exfalso
    have ha := (bhd_s h1).1
    have k1 := bhd_back hD hc' m2 g1
    have k2 := bhd_back hD ha hs h2
    rw [ee, show (s + 2) % 4 = ((s' + 1) % 4 + 2) % 4 by omega, k1] at k2
    have k3 : c' = a := Option.some.inj k2
    have k4 := bhd_back hD hc m1 h1
    rw [← k3, show ((s + 1) % 4 + 2) % 4 = s' by omega, ho'] at k4
    cases k4
  · have ha := (bhd_s h1).1
    have ha' := (bhd_s g1).1
    have es2 : s = s' := by omega
    have k1 := bhd_back hD ha hs h2
    have k2 := bhd_back hD ha' hs' g2
    rw [ee, es2] at k1
    rw [k1] at k2
    have k3 : a = a' := Option.some.inj k2
    have k4 := bhd_back hD hc m1 h1
    have k5 := bhd_back hD hc' m2 g1
    rw [k3, es2] at k4
    rw [k4] at k5
    exact ⟨Option.some.inj k5, es2⟩
def tr (n : Nat) (x y : Nat → Nat) : Nat → Nat × Nat
  | 0 => (0, 0)
  | k + 1 => (rimS n x y (tr n x y k)).1
def wy (n : Nat) (x y : Nat → Nat) (k : Nat) : Nat := (rimS n x y (tr n x y k)).2
theorem tr_open {n : Nat} {x y : Nat → Nat} (hD : Dst n x y) (h0 : Opn n x y (0, 0)) : ∀ k, Opn n x y (tr n x y k) := by
  intro k
  induction k with
  | zero => exact h0
  | succ k ih => exact rimS_open (c := (tr n x y k).1) (s := (tr n x y k).2) hD ih
theorem tr_back {n : Nat} {x y : Nat → Nat} (hD : Dst n x y) (h0 : Opn n x y (0, 0)) {i j : Nat} (h : tr n x y (i + 1) = tr n x y (j + 1)) : tr n x y i = tr n x y j := by
  have := rimS_inj (c := (tr n x y i).1) (s := (tr n x y i).2) (c' := (tr n x y j).1) (s' := (tr n x y j).2) hD (tr_open hD h0 i) (tr_open hD h0 j) h
  exact Prod.ext this.1 this.2
/-- the first return -/
theorem tr_ret {n : Nat} {x y : Nat → Nat} (hD : Dst n x y) (h0 : Opn n x y (0, 0)) {i j : Nat} (hij : i < j) (h : tr n x y i = tr n x y j) : tr n x y (j - i) = (0, 0) := by
  induction i generalizing j with
  | zero => exact h.symm
  | succ i ih =>
    obtain ⟨j, rfl⟩ : ∃ z, j = z + 1 := ⟨j - 1, by omega⟩
    have := ih (by omega) (tr_back hD h0 h)
    rw [show j + 1 - (i + 1) = j - i by omega]
    exact this
/-! counting -/
theorem cnt_mono {p q : Nat → Bool} {n : Nat} (h : ∀ i, i < n → p i = true → q i = true) : cnt p n ≤ cnt q n := by
  induction n with
  | zero => exact Nat.le_refl _
  | succ n ih =>
    have h1 := ih (fun i hi => h i (by omega))
    have h2 := h n (by omega)
    unfold cnt
    cases hp : p n with
    | false => simp; omega
    | true => rw [h2 hp]; simp; omega
theorem cnt_congr {p q : Nat → Bool} {n : Nat} (h : ∀ i, i < n → p i = q i) : cnt p n = cnt q n := by
  induction n with
  | zero => rfl
  | succ n ih =>
    unfold cnt
    rw [ih (fun i hi => h i (by omega)), h n (by omega)]
theorem cnt_or {p q : Nat → Bool} {n : Nat} : cnt (fun i => p i || q i) n ≤ cnt p n + cnt q n := by
  induction n with
  | zero => exact Nat.le_refl _
  | succ n ih =>
    unfold cnt
    cases p n <;> cases q n <;> simp <;> omega
theorem cnt_erase {p : Nat → Bool} {n k : Nat} (hk : k < n) (hp : p k = true) : cnt p n = cnt (fun i => p i && !(i == k)) n + 1 := by
  induction n with
  | zero => omega
  | succ n ih =>
    unfold cnt
    by_cases e : k = n
    · subst e
      have : cnt (fun i => p i && !(i == k)) k = cnt p k := cnt_congr (fun i hi => by simp [show i ≠ k by omega])
      rw [this]
      simp [hp]
    · rw [ih (by omega)]
      simp only [show (n == k) = false by simp; omega, Bool.not_false, Bool.and_true]
      omega
/-- m different numbers that p takes -/
theorem cnt_inj {N : Nat} {f : Nat → Nat} : ∀ (m : Nat) (p : Nat → Bool), (∀ i, i < m → f i < N ∧ p (f i) = true) → (∀ i j, i < m → j < m → f i = f j → i = j) → m ≤ cnt p N := by
  intro m
  induction m with
  | zero => intro p _ _; exact Nat.zero_le _
  | succ m ih =>
    intro p h1 h2
    have a := h1 m (by omega)
    rw [cnt_erase a.1 a.2]
    refine Nat.succ_le_succ (ih (fun i => p i && !(i == f m)) (fun i hi => ⟨(h1 i (by omega)).1, ?_⟩) (fun i j hi hj => h2 i j (by omega) (by omega)))
    have : f i ≠ f m := fun e => by have := h2 i m (by omega) (by omega) e; omega
    simp [(h1 i (by omega)).2, this]
def opc (n : Nat) (x y : Nat → Nat) : Nat := cnt (fun q => (bhd n x y (q / 4) (q % 4)).isNone) (4 * n)
/-- the rim comes back to its start, within as many steps as there are open sides -/
theorem rim_period {n : Nat} {x y : Nat → Nat} (hD : Dst n x y) (h0 : Opn n x y (0, 0)) : ∃ E, 0 < E ∧ E ≤ opc n x y ∧ tr n x y E = (0, 0) ∧ (∀ j, 0 < j → j < E → tr n x y j ≠ (0, 0)) ∧ ∀ i j, i < E → j < E → tr n x y i = tr n x y j → i = j := by
  have hex : ∃ E, 0 < E ∧ tr n x y E = (0, 0) := by
    refine Classical.byContradiction fun hno => ?_
    have hinj : ∀ i j, i < 4 * n + 1 → j < 4 * n + 1 → (4 * (tr n x y i).1 + (tr n x y i).2) = (4 * (tr n x y j).1 + (tr n x y j).2) → i = j := by
      intro i j hi hj e
      have a := tr_open hD h0 i
      have b := tr_open hD h0 j
      have e2 : tr n x y i = tr n x y j := Prod.ext (by have := a.2.1; have := b.2.1; omega) (by have := a.2.1; have := b.2.1; omega)
      rcases Nat.lt_trichotomy i j with q | q | q
      · exact absurd ⟨j - i, by omega, tr_ret hD h0 q e2⟩ hno
      · exact q
      · exact absurd ⟨i - j, by omega, tr_ret hD h0 q e2.symm⟩ hno
    have := cnt_inj (N := 4 * n) (4 * n + 1) (fun _ => true) (fun i _ => ⟨by have a := tr_open hD h0 i; have := a.1; have := a.2.1; omega, rfl⟩) hinj
    have := cnt_le (fun _ => true) (4 * n)
    omega
  obtain ⟨E, ⟨h1, h2⟩, hmin⟩ := pk_least _ hex
  have hinj : ∀ i j, i < E → j < E → tr n x y i = tr n x y j → i = j := by
    intro i j hi hj e
    rcases Nat.lt_trichotomy i j with q | q | q
    · exact absurd ⟨by omega, tr_ret hD h0 q e⟩ (hmin (j - i) (by omega))
    · exact q
    · exact absurd ⟨by omega, tr_ret hD h0 q e.symm⟩ (hmin (i - j) (by omega))
  refine ⟨E, h1, ?_, h2, fun j a b c => hmin j b ⟨a, c⟩, hinj⟩
  refine cnt_inj (f := fun i => 4 * (tr n x y i).1 + (tr n x y i).2) E _ (fun i hi => ?_) (fun i j hi hj e => ?_)
  · obtain ⟨a, b, c⟩ := tr_open hD h0 i
    refine ⟨by omega, ?_⟩
    show (bhd n x y ((4 * (tr n x y i).1 + (tr n x y i).2) / 4) ((4 * (tr n x y i).1 + (tr n x y i).2) % 4)).isNone = true
    rw [show (4 * (tr n x y i).1 + (tr n x y i).2) / 4 = (tr n x y i).1 by omega, show (4 * (tr n x y i).1 + (tr n x y i).2) % 4 = (tr n x y i).2 by omega, c]
    rfl
  · have a := (tr_open hD h0 i).2.1
    have b := (tr_open hD h0 j).2.1
    exact hinj i j hi hj (Prod.ext (by omega) (by omega))
