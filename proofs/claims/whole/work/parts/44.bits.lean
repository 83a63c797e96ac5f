/-! ===== bits of small numbers; steps beside a cell ===== -/
theorem s_l : ∀ n, n < 32 → ((nI n &&& 31).toBitVec.smod 32).toNat = n := by decide +kernel
theorem s_u : ∀ n, n < 32 → (((nI n).toUInt32 &&& Int32.toUInt32 31).toBitVec % 32).toNat = n := by decide +kernel
theorem fa_and (a b : Nat) : nI a &&& nI b = nI (a &&& b) := by
  apply Int32.toBitVec_inj.1
  show BitVec.ofNat 32 a &&& BitVec.ofNat 32 b = BitVec.ofNat 32 (a &&& b)
  apply BitVec.eq_of_getLsbD_eq
  intro i hi
  simp [hi]
theorem fa_or (a b : Nat) : nI a ||| nI b = nI (a ||| b) := by
  apply Int32.toBitVec_inj.1
  show BitVec.ofNat 32 a ||| BitVec.ofNat 32 b = BitVec.ofNat 32 (a ||| b)
  apply BitVec.eq_of_getLsbD_eq
  intro i hi
  simp [hi]
theorem zSHR {m c : Nat} (hm : m < 2147483648) (hc : c < 32) : jshr (nI m) (nI c) = nI (m / 2 ^ c) := pk_shrN hm _ c (s_l c hc)
theorem zSHL1 {c : Nat} (hc : c < 32) : jshl 1 (nI c) = nI (2 ^ c) := by
  have h1 : (2 : Nat) ^ c ≤ 2 ^ 31 := Nat.pow_le_pow_right (by decide) (by omega)
  have := pk_shlN (n := 1) (nI c &&& 31) c (s_l c hc) (by rw [Nat.one_mul]; exact Nat.lt_of_le_of_lt h1 (by decide))
  rw [Nat.one_mul] at this
  exact this
theorem zBIT {m c : Nat} (hm : m < 2147483648) (hc : c < 32) : jshr (nI m) (nI c) &&& 1 = if m.testBit c then 1 else 0 := by
  rw [zSHR hm hc, lit32 1, fa_and, Nat.testBit_eq_decide_div_mod_eq, Nat.and_one_is_mod]
  have h : m / 2 ^ c % 2 = 0 ∨ m / 2 ^ c % 2 = 1 := by omega
  rcases h with h | h <;> simp [h] <;> rfl
theorem zFULL {n : Nat} (hn : n < 31) : jshl 1 (nI n) - 1 = nI (2 ^ n - 1) := by
  rw [zSHL1 (by omega), lit32 1, pk_sub (Nat.one_le_two_pow)]
theorem zOR1 {m b : Nat} (hb : b < 32) : nI m ||| jshl 1 (nI b) = nI (m ||| 2 ^ b) := by rw [zSHL1 hb, fa_or]
theorem p2_10 {n : Nat} (h : n ≤ 10) : 2 ^ n ≤ 1024 := Nat.pow_le_pow_right (by decide) h
theorem zDX : ∀ u, u < 16 → ∀ v, v < 16 → ∀ s, s < 4 → (decide (nI u = nI v + stepX s) = decide ((u : Int) = v + dX s)) := by decide +kernel
theorem zDY : ∀ u, u < 16 → ∀ v, v < 16 → ∀ s, s < 4 → (decide (nI u = nI v + stepY s) = decide ((u : Int) = v + dY s)) := by decide +kernel
def oI : Option Nat → Int32
  | none => -1
  | some k => nI k
theorem oI_neg {o : Option Nat} {n : Nat} (h : ∀ k, o = some k → k < n) (hn : n < 1000) : (oI o < 0) = (o = none) := by
  cases o with
  | none => exact propext ⟨fun _ => rfl, fun _ => m1_lt⟩
  | some k =>
    have := h k rfl
    simp only [oI]
    rw [lit32 0, zLT (by omega) (by omega)]
    simp
theorem oI_pos {o : Option Nat} {n : Nat} (h : ∀ k, o = some k → k < n) (hn : n < 1000) : (0 ≤ oI o) = (o ≠ none) := by
  cases o with
  | none => exact propext ⟨fun h => absurd h (by decide), fun h => absurd rfl h⟩
  | some k =>
    have := h k rfl
    simp only [oI]
    rw [lit32 0, zLE (by omega) (by omega)]
    simp
theorem oI_m1 {o : Option Nat} {n : Nat} (h : ∀ k, o = some k → k < n) (hn : n < 1000) : (oI o = -1) = (o = none) := by
  cases o with
  | none => simp [oI]
  | some k =>
    have := h k rfl
    simp only [oI]
    exact propext ⟨fun h => absurd h (m1_ne (by omega)), fun h => by cases h⟩
theorem fnd_lt {p : Nat → Bool} {n k : Nat} (h : fnd p n = some k) : k < n := (fnd_some h).1
theorem bhd_lt {n c s : Nat} {x y : Nat → Nat} : ∀ k, bhd n x y c s = some k → k < n := fun _ h => fnd_lt h
/-- the place by Int32 as by numbers -/
theorem bhd_I {n c s : Nat} {x y : Nat → Nat} (hx : ∀ i, i < n → x i < 16 ∧ y i < 16) (hc : c < n) (hs : s < 4) : fnd (fun k => decide (nI (x k) = nI (x c) + stepX s) && decide (nI (y k) = nI (y c) + stepY s)) n = bhd n x y c s := by
  have key : ∀ m, m ≤ n → fnd (fun k => decide (nI (x k) = nI (x c) + stepX s) && decide (nI (y k) = nI (y c) + stepY s)) m = fnd (fun k => decide ((x k : Int) = x c + dX s) && decide ((y k : Int) = y c + dY s)) m := by
    intro m
    induction m with
    | zero => intro _; rfl
    | succ m ih =>
      intro hm
      unfold fnd
      rw [ih (by omega)]
      have e1 := zDX (x m) (hx m (by omega)).1 (x c) (hx c hc).1 s hs
      have e2 := zDY (y m) (hx m (by omega)).2 (y c) (hx c hc).2 s hs
      rw [e1, e2]
  exact key n (Nat.le_refl _)
