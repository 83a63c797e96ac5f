/-! ===== how many bits: the folding of bytes ===== -/
theorem land_add {x y M m : Nat} (hy : y < 256) (hm : m < 256) : (256 * x + y) &&& (256 * M + m) = 256 * (x &&& M) + (y &&& m) := by
  have hym : y &&& m < 2 ^ 8 := Nat.and_lt_two_pow _ hm
  apply Nat.eq_of_testBit_eq
  intro i
  rw [Nat.testBit_and, show 256 * x + y = 2 ^ 8 * x + y from rfl, show 256 * M + m = 2 ^ 8 * M + m from rfl, show 256 * (x &&& M) + (y &&& m) = 2 ^ 8 * (x &&& M) + (y &&& m) from rfl, Nat.testBit_two_pow_mul_add x (show y < 2 ^ 8 from hy), Nat.testBit_two_pow_mul_add M (show m < 2 ^ 8 from hm), Nat.testBit_two_pow_mul_add (x &&& M) hym]
  by_cases h : i < 8
  · rw [if_pos h, if_pos h, if_pos h, Nat.testBit_and]
  · rw [if_neg h, if_neg h, if_neg h, Nat.testBit_and]
/-- a number by its bytes -/
def bv (β : Nat → Nat) : Nat → Nat
  | 0 => 0
  | k + 1 => 256 * bv (fun j => β (j + 1)) k + β 0
theorem bv_s (β : Nat → Nat) (k : Nat) : bv β (k + 1) = 256 * bv (fun j => β (j + 1)) k + β 0 := rfl
theorem bv_lt : ∀ (k : Nat) (β : Nat → Nat), (∀ j, β j < 256) → bv β k < 256 ^ k := by
  intro k
  induction k with
  | zero => intro β _; exact Nat.one_pos
  | succ k ih =>
    intro β h
    have a := ih (fun j => β (j + 1)) (fun j => h (j + 1))
    have b := h 0
    rw [bv_s, Nat.pow_succ]
    generalize 256 ^ k = p at *
    omega
theorem bv_of : ∀ (k n : Nat), n < 256 ^ k → bv (fun j => n / 256 ^ j % 256) k = n := by
  intro k
  induction k with
  | zero => intro n h; have : n < 1 := h; show 0 = n; omega
  | succ k ih =>
    intro n h
    rw [Nat.pow_succ] at h
    have a := ih (n / 256) (by generalize 256 ^ k = p at *; omega)
    rw [bv_s]
    have e : (fun j => n / 256 ^ (j + 1) % 256) = fun j => n / 256 / 256 ^ j % 256 := by
      funext j
      rw [Nat.pow_succ, Nat.mul_comm, Nat.div_div_eq_div_mul]
    rw [e, a, Nat.pow_zero, Nat.div_one]
    omega
def q1 (b : Nat) : Nat := b - (b / 2 &&& 85)
def q3 (b : Nat) : Nat := (b &&& 51) + (b / 4 &&& 51)
def q5 (b : Nat) : Nat := (b + b / 16) &&& 15
theorem q1_a : ∀ b, b < 256 → ∀ r, r < 2 → (128 * r + b / 2) &&& 85 = b / 2 &&& 85 := by decide +kernel
theorem q1_b : ∀ b, b < 256 → (b / 2 &&& 85) ≤ b ∧ q1 b < 256 := by decide +kernel
theorem q3_a : ∀ b, b < 256 → ∀ r, r < 4 → (64 * r + b / 4) &&& 51 = b / 4 &&& 51 := by decide +kernel
theorem q3_b : ∀ b, b < 256 → q3 b < 256 := by decide +kernel
theorem q5_a : ∀ b, b < 69 → ∀ r, r < 5 → (b + (16 * r + b / 16)) &&& 15 = (b + b / 16) &&& 15 := by decide +kernel
theorem q_b : ∀ b, b < 256 → q3 (q1 b) < 69 ∧ q3 (q1 b) % 16 < 5 ∧ q5 (q3 (q1 b)) = cnt (fun i => b.testBit i) 8 := by decide +kernel
theorem bv_1 : ∀ (k : Nat) (β : Nat → Nat), (∀ j, β j < 256) → bv β k / 2 &&& bv (fun _ => 85) k = bv (fun j => β j / 2 &&& 85) k ∧ bv β k - (bv β k / 2 &&& bv (fun _ => 85) k) = bv (fun j => q1 (β j)) k ∧ (bv β k / 2 &&& bv (fun _ => 85) k) ≤ bv β k := by
  intro k
  induction k with
  | zero => intro β _; simp [bv]
  | succ k ih =>
    intro β h
    obtain ⟨a1, a2, a3⟩ := ih (fun j => β (j + 1)) (fun j => h (j + 1))
    have b := h 0
    obtain ⟨c1, c2⟩ := q1_b (β 0) b
    have e : bv β (k + 1) / 2 = 256 * (bv (fun j => β (j + 1)) k / 2) + (128 * (bv (fun j => β (j + 1)) k % 2) + β 0 / 2) := by rw [bv_s]; omega
    have e2 : bv β (k + 1) / 2 &&& bv (fun _ => 85) (k + 1) = 256 * (bv (fun j => β (j + 1)) k / 2 &&& bv (fun _ => 85) k) + (β 0 / 2 &&& 85) := by
      rw [e, bv_s (fun _ => 85), land_add (by omega) (by omega), q1_a (β 0) b _ (by omega)]
    refine ⟨by rw [e2, bv_s, a1], ?_, by rw [e2, bv_s]; omega⟩
    rw [e2, bv_s, bv_s, ← a2]
    show _ = _ + (β 0 - (β 0 / 2 &&& 85))
    omega
theorem bv_3 : ∀ (k : Nat) (β : Nat → Nat), (∀ j, β j < 256) → (bv β k &&& bv (fun _ => 51) k) + (bv β k / 4 &&& bv (fun _ => 51) k) = bv (fun j => q3 (β j)) k := by
  intro k
  induction k with
  | zero => intro β _; simp [bv]
  | succ k ih =>
    intro β h
    have a := ih (fun j => β (j + 1)) (fun j => h (j + 1))
    have b := h 0
    have e : bv β (k + 1) / 4 = 256 * (bv (fun j => β (j + 1)) k / 4) + (64 * (bv (fun j => β (j + 1)) k % 4) + β 0 / 4) := by rw [bv_s]; omega
    rw [e, bv_s β, bv_s (fun _ => 51), bv_s (fun j => q3 (β j)), land_add (by omega) (by omega), land_add (by omega) (by omega), q3_a (β 0) b _ (by omega), ← a]
    show _ = _ + ((β 0 &&& 51) + (β 0 / 4 &&& 51))
    omega
theorem bv_5 : ∀ (k : Nat) (β : Nat → Nat), (∀ j, β j < 69 ∧ β j % 16 < 5) → (bv β k + bv β k / 16) &&& bv (fun _ => 15) k = bv (fun j => q5 (β j)) k ∧ bv β k % 16 < 5 := by
  intro k
  induction k with
  | zero => intro β _; simp [bv]
  | succ k ih =>
    intro β h
    obtain ⟨a, a2⟩ := ih (fun j => β (j + 1)) (fun j => h (j + 1))
    obtain ⟨b, b2⟩ := h 0
    have e : bv β (k + 1) + bv β (k + 1) / 16 = 256 * (bv (fun j => β (j + 1)) k + bv (fun j => β (j + 1)) k / 16) + (β 0 + (16 * (bv (fun j => β (j + 1)) k % 16) + β 0 / 16)) := by rw [bv_s]; omega
    refine ⟨?_, by rw [bv_s]; omega⟩
    rw [e, bv_s (fun _ => 15), land_add (by omega) (by omega), q5_a (β 0) b _ a2, a, bv_s]
    rfl
/-- the bits of n below 8 k, byte by byte -/
theorem cnt_add (p : Nat → Bool) (a : Nat) : ∀ b, cnt p (a + b) = cnt p a + cnt (fun i => p (a + i)) b := by
  intro b
  induction b with
  | zero => rfl
  | succ b ih => rw [← Nat.add_assoc, cnt_s, cnt_s, ih]; omega
theorem bv_cnt : ∀ (k : Nat) (β : Nat → Nat), (∀ j, β j < 256) → cnt (fun i => (bv β k).testBit i) (8 * k) = sumN (fun j => cnt (fun i => (β j).testBit i) 8) k := by
  intro k
  induction k with
  | zero => intro β _; rfl
  | succ k ih =>
    intro β h
    have a := ih (fun j => β (j + 1)) (fun j => h (j + 1))
    have hs : sumN (fun j => cnt (fun i => (β j).testBit i) 8) (k + 1) = cnt (fun i => (β 0).testBit i) 8 + sumN (fun j => cnt (fun i => (β (j + 1)).testBit i) 8) k := by
      clear a ih h
      induction k with
      | zero => rw [sumN_s]; show 0 + _ = _ + 0; omega
      | succ k ih => rw [sumN_s, ih, sumN_s]; omega
    rw [hs, ← a, show 8 * (k + 1) = 8 + 8 * k by omega, cnt_add]
    congr 1
    · refine cnt_congr (fun i hi => ?_)
      rw [bv_s, show 256 * bv (fun j => β (j + 1)) k + β 0 = 2 ^ 8 * bv (fun j => β (j + 1)) k + β 0 from rfl, Nat.testBit_two_pow_mul_add _ (show β 0 < 2 ^ 8 from h 0), if_pos hi]
    · refine cnt_congr (fun i hi => ?_)
      rw [bv_s, show 256 * bv (fun j => β (j + 1)) k + β 0 = 2 ^ 8 * bv (fun j => β (j + 1)) k + β 0 from rfl, Nat.testBit_two_pow_mul_add _ (show β 0 < 2 ^ 8 from h 0), if_neg (by omega), Nat.add_sub_cancel_left]
theorem bv4 (p : Nat → Nat) : bv p 4 = 256 * (256 * (256 * p 3 + p 2) + p 1) + p 0 := by
  rw [bv_s, bv_s, bv_s, bv_s]
  show 256 * (256 * (256 * (256 * 0 + p 3) + p 2) + p 1) + p 0 = _
  omega
theorem sum4 (p : Nat → Nat) : sumN p 4 = p 0 + p 1 + p 2 + p 3 := by
  rw [sumN_s, sumN_s, sumN_s, sumN_s]
  show 0 + p 0 + p 1 + p 2 + p 3 = _
  omega
theorem bits32 {n : Nat} (hn : n < 65536) : ∃ (X1 X3 : Nat) (p : Nat → Nat), (n / 2 &&& 1431655765) ≤ n ∧ n - (n / 2 &&& 1431655765) = X1 ∧ (X1 &&& 858993459) + (X1 / 4 &&& 858993459) = X3 ∧ (X3 + X3 / 16) &&& 252645135 = bv p 4 ∧ (∀ j, p j ≤ 8) ∧ p 2 = 0 ∧ p 3 = 0 ∧ cnt (fun i => n.testBit i) 32 = sumN p 4 := by
  have e4 : (256 : Nat) ^ 4 = 4294967296 := by decide
  have hb := bv_of 4 n (by omega)
  have h23 : ∀ j, 2 ≤ j → n / 256 ^ j % 256 = 0 := by
    intro j hj
    have : 256 ^ 2 ≤ 256 ^ j := Nat.pow_le_pow_right (by decide) hj
    rw [Nat.div_eq_of_lt (Nat.lt_of_lt_of_le (by omega : n < 256 ^ 2) this)]
  have hβ : ∀ j, (fun j => n / 256 ^ j % 256) j < 256 := fun j => Nat.mod_lt _ (by decide)
  generalize (fun j => n / 256 ^ j % 256) = β at hb hβ
  have h2 : β 2 = 0 ∧ β 3 = 0 := by
    rw [bv4] at hb
    have := hβ 0
    have := hβ 1
    have := hβ 2
    have := hβ 3
    omega
  have m1 : bv (fun _ => 85) 4 = 1431655765 := by decide
  have m3 : bv (fun _ => 51) 4 = 858993459 := by decide
  have m5 : bv (fun _ => 15) 4 = 252645135 := by decide
  obtain ⟨-, s1, s1'⟩ := bv_1 4 β hβ
  have s3 := bv_3 4 (fun j => q1 (β j)) (fun j => (q1_b _ (hβ j)).2)
  have s5 := (bv_5 4 (fun j => q3 (q1 (β j))) (fun j => ⟨(q_b _ (hβ j)).1, (q_b _ (hβ j)).2.1⟩)).1
  have hc := bv_cnt 4 β hβ
  rw [hb] at s1 s1' hc
  rw [m1] at s1 s1'
  rw [m3] at s3
  rw [m5] at s5
  refine ⟨_, _, fun j => q5 (q3 (q1 (β j))), s1', s1, s3, s5, fun j => ?_, ?_, ?_, ?_⟩
  · show q5 (q3 (q1 (β j))) ≤ 8
    rw [(q_b _ (hβ j)).2.2]
    exact cnt_le _ 8
  · show q5 (q3 (q1 (β 2))) = 0
    rw [h2.1]
    decide
  · show q5 (q3 (q1 (β 3))) = 0
    rw [h2.2]
    decide
  · rw [show 32 = 8 * 4 by rfl, hc]
    exact sumN_congr (fun j _ => ((q_b _ (hβ j)).2.2).symm)
theorem sp_bitCount {g : GV} {d n : Nat} {σ : PS} (hL : Lay σ) (hn : n < 65536) : CJ6_bitCount_0f7a4 g d [.int (nI n)] σ (fun v s => v = nI (cnt (fun i => n.testBit i) 16) ∧ s = σ) := by
  obtain ⟨X1, X3, p, s1', s1, s3, s5, hp, p2, p3, hc⟩ := bits32 hn
  have h16 : cnt (fun i => n.testBit i) 32 = cnt (fun i => n.testBit i) 16 := by
    rw [show 32 = 16 + 16 by rfl, cnt_add]
    have : cnt (fun i => n.testBit (16 + i)) 16 = cnt (fun _ => false) 16 := cnt_congr (fun i _ => Nat.testBit_lt_two_pow (Nat.lt_of_lt_of_le (by omega : n < 2 ^ 16) (Nat.pow_le_pow_right (by decide) (by omega))))
    rw [this]
    rfl
  rw [bv4, p2, p3] at s5
  rw [sum4, p2, p3] at hc
  have hp0 := hp 0
  have hp1 := hp 1
  generalize p 0 = p0 at *
  generalize p 1 = p1 at *
  have l1 : X1 < 65536 := by rw [← s1]; omega
  have l3 : X3 < 2147483648 := by
    have a := Nat.and_le_left (n := X1) (m := 858993459)
    have b := Nat.and_le_left (n := X1 / 4) (m := 858993459)
    omega
  have us : ∀ (m k : Nat), m < 2 ^ 32 → k < 32 → jushr (nI m) (nI k) = nI (m / 2 ^ k) := fun m k hm hk => pk_ushrN hm _ k (s_u k hk)
  refine vcJ6_bitCount_0f7a4 hL _ (fun x1 f1 x3 f3 x5 f5 x7 f7 x9 f9 => ?_)
  rw [lit32 1, us n 1 (by omega) (by omega), lit32 1431655765, fa_and, pk_sub s1', show n - (n / 2 ^ 1 &&& 1431655765) = X1 from s1] at f1
  rw [f1, lit32 858993459, lit32 2, us X1 2 (by omega) (by omega), fa_and, fa_and, nI_add, show (X1 &&& 858993459) + (X1 / 2 ^ 2 &&& 858993459) = X3 from s3] at f3
  rw [f3, lit32 4, us X3 4 (by omega) (by omega), nI_add, lit32 252645135, fa_and, show (X3 + X3 / 2 ^ 4) &&& 252645135 = _ from s5] at f5
  rw [f5, lit32 8, us _ 8 (by omega) (by omega), nI_add] at f7
  rw [f7, lit32 16, us _ 16 (by omega) (by omega), nI_add] at f9
  rw [f9, lit32 63, fa_and]
  refine ⟨?_, rfl⟩
  rw [← h16, hc]
  congr 1
  rw [show (63 : Nat) = 2 ^ 6 - 1 by decide, Nat.and_two_pow_sub_one_eq_mod]
  have e1 : 256 * (256 * (256 * 0 + 0) + p1) + p0 = 256 * p1 + p0 := by omega
  rw [e1]
  have e2 : (256 * p1 + p0) / 2 ^ 8 = p1 := by omega
  rw [e2]
  have e3 : (256 * p1 + p0 + p1) / 2 ^ 16 = 0 := by omega
  rw [e3]
  omega
