/-! ===== longs as bits; the count of a long's bits ===== -/
theorem la_and (a b : Nat) : lN a &&& lN b = lN (a &&& b) := by
  apply Int64.toBitVec_inj.1
  show BitVec.ofNat 64 a &&& BitVec.ofNat 64 b = BitVec.ofNat 64 (a &&& b)
  apply BitVec.eq_of_getLsbD_eq
  intro i hi
  simp [hi]
theorem la_or (a b : Nat) : lN a ||| lN b = lN (a ||| b) := by
  apply Int64.toBitVec_inj.1
  show BitVec.ofNat 64 a ||| BitVec.ofNat 64 b = BitVec.ofNat 64 (a ||| b)
  apply BitVec.eq_of_getLsbD_eq
  intro i hi
  simp [hi]
theorem s_lu : ∀ k, k < 64 → (((nI k).toInt64.toUInt64 &&& Int64.toUInt64 63).toBitVec % 64).toNat = k := by decide +kernel
theorem la_ushr {m k : Nat} (hm : m < 2 ^ 64) (hk : k < 64) : jlushr (lN m) (nI k) = lN (m / 2 ^ k) := by
  apply Int64.toBitVec_inj.1
  apply BitVec.eq_of_toNat_eq
  have e : (jlushr (lN m) (nI k)).toBitVec = (lN m).toBitVec >>> k := by
    conv => rhs; rw [← s_lu k hk]
    exact UInt64.toBitVec_shiftRight _ _
  rw [e, BitVec.toNat_ushiftRight, Nat.shiftRight_eq_div_pow]
  show (BitVec.ofNat 64 m).toNat / 2 ^ k = (BitVec.ofNat 64 (m / 2 ^ k)).toNat
  rw [BitVec.toNat_ofNat, BitVec.toNat_ofNat, Nat.mod_eq_of_lt hm, Nat.mod_eq_of_lt (Nat.lt_of_le_of_lt (Nat.div_le_self _ _) hm)]
theorem la_shl1 : ∀ c, c < 64 → jlshl 1 (nI c) = lN (2 ^ c) := by decide +kernel
theorem la_t {m : Nat} (hm : m < 2 ^ 63) : (lN m).toInt = (m : Int) := lg_ofNat_toInt hm
theorem bv8 (p : Nat → Nat) : bv p 8 = p 0 + 256 * p 1 + 65536 * p 2 + 16777216 * p 3 + 4294967296 * p 4 + 1099511627776 * p 5 + 281474976710656 * p 6 + 72057594037927936 * p 7 := by
  rw [bv_s, bv_s, bv_s, bv_s, bv_s, bv_s, bv_s, bv_s]
  show 256 * (256 * (256 * (256 * (256 * (256 * (256 * (256 * 0 + p 7) + p 6) + p 5) + p 4) + p 3) + p 2) + p 1) + p 0 = _
  omega
theorem sum8 (p : Nat → Nat) : sumN p 8 = p 0 + p 1 + p 2 + p 3 + p 4 + p 5 + p 6 + p 7 := by
  rw [sumN_s, sumN_s, sumN_s, sumN_s, sumN_s, sumN_s, sumN_s, sumN_s]
  show 0 + p 0 + p 1 + p 2 + p 3 + p 4 + p 5 + p 6 + p 7 = _
  omega
theorem bits64 {n : Nat} (hn : n < 2 ^ 63) : ∃ (X1 X3 : Nat) (p : Nat → Nat), (n / 2 &&& 6148914691236517205) ≤ n ∧ n - (n / 2 &&& 6148914691236517205) = X1 ∧ (X1 &&& 3689348814741910323) + (X1 / 4 &&& 3689348814741910323) = X3 ∧ (X3 + X3 / 16) &&& 1085102592571150095 = bv p 8 ∧ (∀ j, p j ≤ 8) ∧ cnt (fun i => n.testBit i) 64 = sumN p 8 := by
  have hb := bv_of 8 n (by rw [show (256 : Nat) ^ 8 = 2 ^ 64 by decide]; omega)
  have hβ : ∀ j, (fun j => n / 256 ^ j % 256) j < 256 := fun j => Nat.mod_lt _ (by decide)
  generalize (fun j => n / 256 ^ j % 256) = β at hb hβ
  have m1 : bv (fun _ => 85) 8 = 6148914691236517205 := by decide
  have m3 : bv (fun _ => 51) 8 = 3689348814741910323 := by decide
  have m5 : bv (fun _ => 15) 8 = 1085102592571150095 := by decide
  obtain ⟨-, s1, s1'⟩ := bv_1 8 β hβ
  have s3 := bv_3 8 (fun j => q1 (β j)) (fun j => (q1_b _ (hβ j)).2)
  have s5 := (bv_5 8 (fun j => q3 (q1 (β j))) (fun j => ⟨(q_b _ (hβ j)).1, (q_b _ (hβ j)).2.1⟩)).1
  have hc := bv_cnt 8 β hβ
  rw [hb] at s1 s1' hc
  rw [m1] at s1 s1'
  rw [m3] at s3
  rw [m5] at s5
  refine ⟨_, _, fun j => q5 (q3 (q1 (β j))), s1', s1, s3, s5, fun j => ?_, ?_⟩
  · show q5 (q3 (q1 (β j))) ≤ 8
    rw [(q_b _ (hβ j)).2.2]
    exact cnt_le _ 8
  · rw [show 64 = 8 * 8 by rfl, hc]
    exact sumN_congr (fun j _ => ((q_b _ (hβ j)).2.2).symm)
theorem fold_d {A q M : Nat} (r : Nat) (h : A = r + M * q) (hr : r < M) : A / M = q := by
  rw [h, Nat.add_mul_div_left _ _ (by omega), Nat.div_eq_of_lt hr, Nat.zero_add]
theorem fold8 {p0 p1 p2 p3 p4 p5 p6 p7 : Nat} (h0 : p0 ≤ 8) (h1 : p1 ≤ 8) (h2 : p2 ≤ 8) (h3 : p3 ≤ 8) (h4 : p4 ≤ 8) (h5 : p5 ≤ 8) (h6 : p6 ≤ 8) (h7 : p7 ≤ 8) : ((((p0 + 256 * p1 + 65536 * p2 + 16777216 * p3 + 4294967296 * p4 + 1099511627776 * p5 + 281474976710656 * p6 + 72057594037927936 * p7) + (p0 + 256 * p1 + 65536 * p2 + 16777216 * p3 + 4294967296 * p4 + 1099511627776 * p5 + 281474976710656 * p6 + 72057594037927936 * p7) / 2 ^ 8) + ((p0 + 256 * p1 + 65536 * p2 + 16777216 * p3 + 4294967296 * p4 + 1099511627776 * p5 + 281474976710656 * p6 + 72057594037927936 * p7) + (p0 + 256 * p1 + 65536 * p2 + 16777216 * p3 + 4294967296 * p4 + 1099511627776 * p5 + 281474976710656 * p6 + 72057594037927936 * p7) / 2 ^ 8) / 2 ^ 16) + (((p0 + 256 * p1 + 65536 * p2 + 16777216 * p3 + 4294967296 * p4 + 1099511627776 * p5 + 281474976710656 * p6 + 72057594037927936 * p7) + (p0 + 256 * p1 + 65536 * p2 + 16777216 * p3 + 4294967296 * p4 + 1099511627776 * p5 + 281474976710656 * p6 + 72057594037927936 * p7) / 2 ^ 8) + ((p0 + 256 * p1 + 65536 * p2 + 16777216 * p3 + 4294967296 * p4 + 1099511627776 * p5 + 281474976710656 * p6 + 72057594037927936 * p7) + (p0 + 256 * p1 + 65536 * p2 + 16777216 * p3 + 4294967296 * p4 + 1099511627776 * p5 + 281474976710656 * p6 + 72057594037927936 * p7) / 2 ^ 8) / 2 ^ 16) / 2 ^ 32) % 2 ^ 7 = p0 + p1 + p2 + p3 + p4 + p5 + p6 + p7 := by
  have z1 : (p0 + 256 * p1 + 65536 * p2 + 16777216 * p3 + 4294967296 * p4 + 1099511627776 * p5 + 281474976710656 * p6 + 72057594037927936 * p7) / 2 ^ 8 = (p1 + 256 * p2 + 65536 * p3 + 16777216 * p4 + 4294967296 * p5 + 1099511627776 * p6 + 281474976710656 * p7) := fold_d p0 (by omega) (by omega)
  rw [z1]
  have z2 : ((p0 + 256 * p1 + 65536 * p2 + 16777216 * p3 + 4294967296 * p4 + 1099511627776 * p5 + 281474976710656 * p6 + 72057594037927936 * p7) + (p1 + 256 * p2 + 65536 * p3 + 16777216 * p4 + 4294967296 * p5 + 1099511627776 * p6 + 281474976710656 * p7)) / 2 ^ 16 = ((p2 + p3) + 256 * (p3 + p4) + 65536 * (p4 + p5) + 16777216 * (p5 + p6) + 4294967296 * (p6 + p7) + 1099511627776 * p7) := fold_d (p0 + p1 + 256 * (p1 + p2)) (by clear z1; omega) (by clear z1; omega)
  rw [z2]
  have z3 : ((p0 + 256 * p1 + 65536 * p2 + 16777216 * p3 + 4294967296 * p4 + 1099511627776 * p5 + 281474976710656 * p6 + 72057594037927936 * p7) + (p1 + 256 * p2 + 65536 * p3 + 16777216 * p4 + 4294967296 * p5 + 1099511627776 * p6 + 281474976710656 * p7) + ((p2 + p3) + 256 * (p3 + p4) + 65536 * (p4 + p5) + 16777216 * (p5 + p6) + 4294967296 * (p6 + p7) + 1099511627776 * p7)) / 2 ^ 32 = ((p4 + p5 + p6 + p7) + 256 * (p5 + p6 + p7) + 65536 * (p6 + p7) + 16777216 * p7) := fold_d (p0 + p1 + p2 + p3 + 256 * (p1 + p2 + p3 + p4) + 65536 * (p2 + p3 + p4 + p5) + 16777216 * (p3 + p4 + p5 + p6)) (by clear z1 z2; omega) (by clear z1 z2; omega)
  rw [z3]
  have z4 : (p0 + 256 * p1 + 65536 * p2 + 16777216 * p3 + 4294967296 * p4 + 1099511627776 * p5 + 281474976710656 * p6 + 72057594037927936 * p7) + (p1 + 256 * p2 + 65536 * p3 + 16777216 * p4 + 4294967296 * p5 + 1099511627776 * p6 + 281474976710656 * p7) + ((p2 + p3) + 256 * (p3 + p4) + 65536 * (p4 + p5) + 16777216 * (p5 + p6) + 4294967296 * (p6 + p7) + 1099511627776 * p7) + ((p4 + p5 + p6 + p7) + 256 * (p5 + p6 + p7) + 65536 * (p6 + p7) + 16777216 * p7) = (p0 + p1 + p2 + p3 + p4 + p5 + p6 + p7) + 2 ^ 7 * (2 * ((p1 + p2 + p3 + p4) + 256 * (p2 + p3 + p4 + p5) + 65536 * (p3 + p4 + p5 + p6) + 16777216 * (p4 + p5 + p6 + p7) + 4294967296 * (p5 + p6 + p7) + 1099511627776 * (p6 + p7) + 281474976710656 * p7 + (p5 + p6 + p7) + 256 * (p6 + p7) + 65536 * p7)) := by clear z1 z2 z3; omega
  rw [z4, Nat.add_mul_mod_self_left, Nat.mod_eq_of_lt (by clear z1 z2 z3 z4; omega)]
theorem sp_bitCountL {g : GV} {d n : Nat} {σ : PS} (hL : Lay σ) (hn : n < 2 ^ 63) : CJ13_bitCount_95d88 g d [.long (lN n)] σ (fun v s => v = nI (cnt (fun i => n.testBit i) 64) ∧ s = σ) := by
  obtain ⟨X1, X3, p, s1', s1, s3, s5, hp, hc⟩ := bits64 hn
  rw [bv8] at s5
  rw [sum8] at hc
  have hp0 := hp 0
  have hp1 := hp 1
  have hp2 := hp 2
  have hp3 := hp 3
  have hp4 := hp 4
  have hp5 := hp 5
  have hp6 := hp 6
  have hp7 := hp 7
  generalize p 0 = p0 at *
  generalize p 1 = p1 at *
  generalize p 2 = p2 at *
  generalize p 3 = p3 at *
  generalize p 4 = p4 at *
  generalize p 5 = p5 at *
  generalize p 6 = p6 at *
  generalize p 7 = p7 at *
  have l1 : X1 < 2 ^ 63 := by rw [← s1]; omega
  have l3 : X3 < 2 ^ 64 := by
    have a := Nat.and_le_right (n := X1) (m := 3689348814741910323)
    have b := Nat.and_le_right (n := X1 / 4) (m := 3689348814741910323)
    omega
  refine vcJ13_bitCount_95d88 hL _ (fun x1 f1 x3 f3 x5 f5 x7 f7 x9 f9 x11 f11 => ?_)
  rw [lit32 1, la_ushr (k := 1) (by omega) (by omega), litL 6148914691236517205, la_and, lN_sub s1', show n - (n / 2 ^ 1 &&& 6148914691236517205) = X1 from s1] at f1
  rw [f1, litL 3689348814741910323, lit32 2, la_ushr (k := 2) (by omega) (by omega), la_and, la_and, lN_add, show (X1 &&& 3689348814741910323) + (X1 / 2 ^ 2 &&& 3689348814741910323) = X3 from s3] at f3
  rw [f3, lit32 4, la_ushr (k := 4) l3 (by omega), lN_add, litL 1085102592571150095, la_and, show (X3 + X3 / 2 ^ 4) &&& 1085102592571150095 = _ from s5] at f5
  rw [f5, lit32 8, la_ushr (k := 8) (by omega) (by omega), lN_add] at f7
  rw [f7, lit32 16, la_ushr (k := 16) (by omega) (by omega), lN_add] at f9
  rw [f9, lit32 32, la_ushr (k := 32) (by omega) (by omega), lN_add] at f11
  rw [f11, lN_i, lit32 127, fa_and]
  refine ⟨?_, rfl⟩
  rw [hc]
  congr 1
  rw [show (127 : Nat) = 2 ^ 7 - 1 by decide, Nat.and_two_pow_sub_one_eq_mod]
  exact fold8 hp0 hp1 hp2 hp3 hp4 hp5 hp6 hp7
