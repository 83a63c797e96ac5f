/-! ===== whether the cells hang together: sweeps over a set of bits; how long a rim can be ===== -/
def swf (n : Nat) (x y : Nat → Nat) : Nat → Nat → Nat
  | 0, m => m
  | k + 1, m => if (swf n x y k m).testBit (k / 4) then (match bhd n x y (k / 4) (k % 4) with
      | some b => swf n x y k m ||| 2 ^ b
      | none => swf n x y k m) else swf n x y k m
def itr (n : Nat) (x y : Nat → Nat) : Nat → Nat
  | 0 => 1
  | r + 1 => swf n x y (4 * n) (itr n x y r)
theorem or_bit (m b i : Nat) : (m ||| 2 ^ b).testBit i = (m.testBit i || decide (b = i)) := by
  rw [Nat.testBit_or, Nat.testBit_two_pow]
theorem swf_lt {n k m : Nat} {x y : Nat → Nat} (h : m < 2 ^ n) : swf n x y k m < 2 ^ n := by
  induction k with
  | zero => exact h
  | succ k ih =>
    unfold swf
    split
    · cases hb : bhd n x y (k / 4) (k % 4) with
      | none => simp only [hb]; exact ih
      | some b =>
        simp only [hb]
        exact Nat.or_lt_two_pow ih (Nat.pow_lt_pow_right (by omega) (bhd_s hb).1)
    · exact ih
theorem swf_mono {n k m i : Nat} {x y : Nat → Nat} (h : m.testBit i = true) : (swf n x y k m).testBit i = true := by
  induction k with
  | zero => exact h
  | succ k ih =>
    unfold swf
    split
    · cases hb : bhd n x y (k / 4) (k % 4) with
      | none => simp only [hb]; exact ih
      | some b => simp only [hb]; rw [or_bit, ih]; rfl
    · exact ih
theorem bits_eq {n a b : Nat} (ha : a < 2 ^ n) (hb : b < 2 ^ n) (h : ∀ i, i < n → a.testBit i = b.testBit i) : a = b := by
  refine Nat.eq_of_testBit_eq fun i => ?_
  by_cases hi : i < n
  · exact h i hi
  · rw [Nat.testBit_lt_two_pow (Nat.lt_of_lt_of_le ha (Nat.pow_le_pow_right (by omega) (by omega))), Nat.testBit_lt_two_pow (Nat.lt_of_lt_of_le hb (Nat.pow_le_pow_right (by omega) (by omega)))]
theorem full_bit {n i : Nat} (hi : i < n) : (2 ^ n - 1).testBit i = true := by
  rw [Nat.testBit_two_pow_sub_one]
  exact decide_eq_true hi
theorem itr_lt {n : Nat} {x y : Nat → Nat} (hn : 0 < n) : ∀ r, itr n x y r < 2 ^ n := by
  intro r
  induction r with
  | zero =>
    show 1 < 2 ^ n
    exact Nat.one_lt_two_pow (by omega)
  | succ r ih => exact swf_lt ih
theorem itr_full {n : Nat} {x y : Nat → Nat} (hn : 0 < n) {r : Nat} (h : itr n x y r = 2 ^ n - 1) : ∀ j, itr n x y (r + j) = 2 ^ n - 1 := by
  intro j
  induction j with
  | zero => exact h
  | succ j ih =>
    show swf n x y (4 * n) (itr n x y (r + j)) = _
    rw [ih]
    have hp : 0 < 2 ^ n := Nat.two_pow_pos n
    exact bits_eq (swf_lt (by omega)) (by omega) (fun i hi => by rw [swf_mono (full_bit hi), full_bit hi])
theorem itr_fix {n : Nat} {x y : Nat → Nat} {r : Nat} (h : itr n x y (r + 1) = itr n x y r) : ∀ j, itr n x y (r + j) = itr n x y r := by
  intro j
  induction j with
  | zero => rfl
  | succ j ih =>
    show swf n x y (4 * n) (itr n x y (r + j)) = _
    rw [ih]
    exact h
theorem cnt_lt {p q : Nat → Bool} {n k : Nat} (h : ∀ i, i < n → p i = true → q i = true) (hk : k < n) (hp : p k = false) (hq : q k = true) : cnt p n < cnt q n := by
  have h1 : cnt p n ≤ cnt (fun i => q i && !(i == k)) n := cnt_mono (fun i hi hpi => by
    have : i ≠ k := fun e => by rw [e, hp] at hpi; cases hpi
    simp [h i hi hpi, this])
  rw [cnt_erase hk hq]
  omega
theorem itr_grow {n : Nat} {x y : Nat → Nat} (hn : 0 < n) : ∀ r, itr n x y (r + 1) = itr n x y r ∨ r + 2 ≤ cnt (fun i => (itr n x y (r + 1)).testBit i) n := by
  have step : ∀ r, itr n x y (r + 1) = itr n x y r ∨ cnt (fun i => (itr n x y r).testBit i) n < cnt (fun i => (itr n x y (r + 1)).testBit i) n := by
    intro r
    by_cases e : itr n x y (r + 1) = itr n x y r
    · exact Or.inl e
    · refine Or.inr ?_
      have : ∃ i, i < n ∧ (itr n x y (r + 1)).testBit i ≠ (itr n x y r).testBit i := by
        refine Classical.byContradiction fun hno => e (bits_eq (itr_lt hn _) (itr_lt hn _) (fun i hi => Classical.byContradiction fun hne => hno ⟨i, hi, hne⟩))
      obtain ⟨i, hi, hne⟩ := this
      have hm : (itr n x y r).testBit i = false := by
        cases hb : (itr n x y r).testBit i with
        | false => rfl
        | true => exact absurd ((swf_mono hb : (itr n x y (r + 1)).testBit i = true).trans hb.symm) hne
      refine cnt_lt (fun j _ hj => swf_mono hj) hi hm ?_
      cases hb : (itr n x y (r + 1)).testBit i with
      | true => rfl
      | false => rw [hb, hm] at hne; exact absurd rfl hne
  intro r
  induction r with
  | zero =>
    rcases step 0 with h | h
    · exact Or.inl h
    · refine Or.inr ?_
      have h1 : 1 ≤ cnt (fun i => (itr n x y 0).testBit i) n := by
        show 1 ≤ cnt (fun i => Nat.testBit 1 i) n
        rw [cnt_erase (k := 0) hn (show Nat.testBit 1 0 = true by decide)]
        omega
      omega
  | succ r ih =>
    rcases step (r + 1) with h | h
    · exact Or.inl h
    · rcases ih with g | g
      · refine Or.inl ?_
        show swf n x y (4 * n) (itr n x y (r + 1)) = _
        rw [g]
        exact g
      · exact Or.inr (by omega)
theorem hang_any {n : Nat} {x y : Nat → Nat} (hn : 0 < n) {r : Nat} (hr : n ≤ r) : itr n x y n = 2 ^ n - 1 ↔ itr n x y r = 2 ^ n - 1 := by
  obtain ⟨j, rfl⟩ : ∃ j, r = n + j := ⟨r - n, by omega⟩
  refine ⟨fun h => itr_full hn h j, fun h => ?_⟩
  rcases itr_grow (x := x) (y := y) hn n with g | g
  · rw [← itr_fix g j]; exact h
  · have := cnt_le (fun i => (itr n x y (n + 1)).testBit i) n
    omega
/-! open sides of a set of cells -/
def opS (n : Nat) (x y : Nat → Nat) (m : Nat) (q : Nat) : Bool := m.testBit (q / 4) && !(match bhd n x y (q / 4) (q % 4) with
  | some k => m.testBit k
  | none => false)
theorem cnt4 (b : Nat) : ∀ n, cnt (fun q => q / 4 == b) (4 * n) ≤ if b < n then 4 else 0 := by
  intro n
  induction n with
  | zero => simp [cnt]
  | succ n ih =>
    show cnt _ (4 * n + 3 + 1) ≤ _
    simp only [cnt, show (4 * n + 3) / 4 = n by omega, show (4 * n + 2) / 4 = n by omega, show (4 * n + 1) / 4 = n by omega, show 4 * n / 4 = n by omega]
    by_cases e : n = b
    · subst e
      simp only [Nat.lt_irrefl, if_false] at ih
      simp
      omega
    · simp only [show (n == b) = false by simp [e], Bool.false_eq_true, if_false, Nat.add_zero]
      split at ih <;> split <;> omega
theorem op_step {n : Nat} {x y : Nat → Nat} {m b c s : Nat} (hD : Dst n x y) (hc : c < n) (hs : s < 4) (hcm : m.testBit c = true) (hb : bhd n x y c s = some b) (hnb : m.testBit b = false) : cnt (opS n x y (m ||| 2 ^ b)) (4 * n) ≤ cnt (opS n x y m) (4 * n) + 2 ∧ cnt (fun i => (m ||| 2 ^ b).testBit i) n = cnt (fun i => m.testBit i) n + 1 := by
  have hbn := (bhd_s hb).1
  have hback := bhd_back hD hc hs hb
  constructor
  · have h1 : cnt (opS n x y (m ||| 2 ^ b)) (4 * n) ≤ cnt (fun q => (opS n x y m q && !(q == 4 * c + s)) || ((q / 4 == b) && !(q == 4 * b + (s + 2) % 4))) (4 * n) := by
      refine cnt_mono fun q hq h => ?_
      unfold opS at h
      simp only [Bool.and_eq_true, or_bit, Bool.or_eq_true, decide_eq_true_eq] at h
      obtain ⟨ha, hn⟩ := h
      by_cases e : q / 4 = b
      · have : q ≠ 4 * b + (s + 2) % 4 := by
          intro e2
          rw [show q / 4 = b by omega, show q % 4 = (s + 2) % 4 by omega, hback] at hn
          simp [or_bit, hcm] at hn
        simp [e, this]
      · have hm : m.testBit (q / 4) = true := ha.elim id (fun z => absurd z.symm e)
        have : q ≠ 4 * c + s := by
          intro e2
          rw [show q / 4 = c by omega, show q % 4 = s by omega, hb] at hn
          simp [or_bit] at hn
        have hn2 : opS n x y m q = true := by
          unfold opS
          rw [hm]
          cases hq2 : bhd n x y (q / 4) (q % 4) with
          | none => rfl
          | some k =>
            rw [hq2] at hn
            simp only [or_bit] at hn
            cases hk : m.testBit k with
            | false => simp [hk]
            | true => simp [hk] at hn
        simp [hn2, this]
    have h2 := cnt_or (p := fun q => opS n x y m q && !(q == 4 * c + s)) (q := fun q => (q / 4 == b) && !(q == 4 * b + (s + 2) % 4)) (n := 4 * n)
    have h3 : opS n x y m (4 * c + s) = true := by
      unfold opS
      rw [show (4 * c + s) / 4 = c by omega, show (4 * c + s) % 4 = s by omega, hb]
      simp [hcm, hnb]
    have h4 := cnt_erase (p := opS n x y m) (n := 4 * n) (k := 4 * c + s) (by omega) h3
    have h5 := cnt_erase (p := fun q => q / 4 == b) (n := 4 * n) (k := 4 * b + (s + 2) % 4) (by omega) (by simp; omega)
    have h6 := cnt4 b n
    rw [if_pos hbn] at h6
    omega
  · rw [cnt_erase (p := fun i => (m ||| 2 ^ b).testBit i) (k := b) hbn (by simp [or_bit])]
    congr 1
    refine cnt_congr fun i hi => ?_
    by_cases e : i = b
    · subst e; simp [hnb]
    · simp [or_bit, e, show ¬ b = i by omega]
theorem swf_op {n : Nat} {x y : Nat → Nat} (hD : Dst n x y) : ∀ (k m : Nat), k ≤ 4 * n → cnt (opS n x y m) (4 * n) ≤ 2 * cnt (fun i => m.testBit i) n + 2 → cnt (opS n x y (swf n x y k m)) (4 * n) ≤ 2 * cnt (fun i => (swf n x y k m).testBit i) n + 2 := by
  intro k
  induction k with
  | zero => intro m _ h; exact h
  | succ k ih =>
    intro m hk h
    have h1 := ih m (by omega) h
    unfold swf
    split
    · rename_i hc
      cases hb : bhd n x y (k / 4) (k % 4) with
      | none => simp only [hb]; exact h1
      | some b =>
        simp only [hb]
        cases hbm : (swf n x y k m).testBit b with
        | true =>
          have : swf n x y k m ||| 2 ^ b = swf n x y k m := by
            refine Nat.eq_of_testBit_eq fun i => ?_
            rw [or_bit]
            by_cases e : b = i
            · subst e; simp [hbm]
            · simp [e]
          rw [this]
          exact h1
        | false =>
          obtain ⟨a1, a2⟩ := op_step hD (by omega) (by omega) hc hb hbm
          omega
    · exact h1
theorem opc_le {n : Nat} {x y : Nat → Nat} (hn : 0 < n) (hD : Dst n x y) {r : Nat} (h : itr n x y r = 2 ^ n - 1) : opc n x y ≤ 2 * n + 2 := by
  have h0 : ∀ r, cnt (opS n x y (itr n x y r)) (4 * n) ≤ 2 * cnt (fun i => (itr n x y r).testBit i) n + 2 := by
    intro r
    induction r with
    | zero =>
      have a : cnt (opS n x y 1) (4 * n) ≤ cnt (fun q => q / 4 == 0) (4 * n) := cnt_mono fun q _ hq => by
        unfold opS at hq
        simp only [Bool.and_eq_true] at hq
        have := hq.1
        cases e : q / 4 with
        | zero => rfl
        | succ z => rw [e, Nat.testBit_succ] at this; simp at this
      have b := cnt4 0 n
      rw [if_pos hn] at b
      have c : 1 ≤ cnt (fun i => (1 : Nat).testBit i) n := by
        rw [cnt_erase (k := 0) hn (show Nat.testBit 1 0 = true by decide)]
        omega
      show cnt (opS n x y 1) (4 * n) ≤ 2 * cnt (fun i => (1 : Nat).testBit i) n + 2
      omega
    | succ r ih => exact swf_op hD (4 * n) _ (Nat.le_refl _) ih
  have h1 := h0 r
  rw [h] at h1
  have h2 : opc n x y = cnt (opS n x y (2 ^ n - 1)) (4 * n) := by
    refine cnt_congr fun q hq => ?_
    unfold opS
    rw [full_bit (by omega)]
    cases hb : bhd n x y (q / 4) (q % 4) with
    | none => rfl
    | some k => simp [full_bit (bhd_s hb).1]
  have := cnt_le (fun i => (2 ^ n - 1).testBit i) n
  omega
