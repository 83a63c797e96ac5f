/-! ===== the class does a STEP on its rows ===== -/
def rwPut (rw' : Nat → Nat) (x y w h : Nat) : Nat → Nat := fun r => if y ≤ r ∧ r < y + h then rw' r ||| (2 ^ w - 1) * 2 ^ x else rw' r
def rwDel (rw' : Nat → Nat) (x y : Nat) : Nat → Nat := fun r => if r = y then rw' r &&& (4294967295 ^^^ 2 ^ x) else rw' r
theorem p2_16 {n : Nat} (h : n ≤ 16) : 2 ^ n ≤ 65536 := Nat.pow_le_pow_right (by decide) h
theorem run_lt {x w : Nat} (h : x + w ≤ 16) : (2 ^ w - 1) * 2 ^ x < 65536 := by
  have a := p2_16 h
  rw [Nat.pow_add] at a
  have b := Nat.two_pow_pos w
  have c := Nat.two_pow_pos x
  rw [Nat.sub_mul, Nat.mul_comm (2 ^ w), Nat.one_mul]
  omega
theorem run_bit (x w i : Nat) : ((2 ^ w - 1) * 2 ^ x).testBit i = (decide (x ≤ i) && decide (i < x + w)) := by
  rw [Nat.testBit_mul_two_pow, Nat.testBit_two_pow_sub_one]
  by_cases h : x ≤ i
  · simp only [ge_iff_le, h, decide_true, Bool.true_and]
    congr 1
    refine propext ?_
    omega
  · simp [h]
theorem rwPut_lt {rw' : Nat → Nat} {x y w h : Nat} (hx : x + w ≤ 16) (hr : ∀ r, r < 16 → rw' r < 65536) : ∀ r, r < 16 → rwPut rw' x y w h r < 65536 := by
  intro r h16
  unfold rwPut
  split
  · exact Nat.or_lt_two_pow (n := 16) (hr r h16) (run_lt hx)
  · exact hr r h16
theorem rwDel_lt {rw' : Nat → Nat} {x y : Nat} (hr : ∀ r, r < 16 → rw' r < 65536) : ∀ r, r < 16 → rwDel rw' x y r < 65536 := by
  intro r h16
  unfold rwDel
  split
  · exact Nat.lt_of_le_of_lt Nat.and_le_left (hr r h16)
  · exact hr r h16
theorem grd_put (rw' : Nat → Nat) (x y w h k : Nat) : grd (rwPut rw' x y w h) k = (grd rw' k || (decide (y ≤ k / 16 ∧ k / 16 < y + h) && decide (x ≤ k % 16 ∧ k % 16 < x + w))) := by
  unfold grd rwPut
  by_cases q : y ≤ k / 16 ∧ k / 16 < y + h
  · rw [if_pos q, Nat.testBit_or, run_bit, decide_eq_true q, Bool.true_and, Bool.decide_and]
  · rw [if_neg q, decide_eq_false q, Bool.false_and, Bool.or_false]
theorem grd_del (rw' : Nat → Nat) (x y k : Nat) : grd (rwDel rw' x y) k = (grd rw' k && !decide (k / 16 = y ∧ k % 16 = x)) := by
  unfold grd rwDel
  by_cases q : k / 16 = y
  · have e : (4294967295 : Nat) = 2 ^ 32 - 1 := by decide
    rw [if_pos q, Nat.testBit_and, Nat.testBit_xor, e, Nat.testBit_two_pow_sub_one, Nat.testBit_two_pow, decide_eq_true (show k % 16 < 32 by omega), Bool.true_xor]
    by_cases q2 : k % 16 = x
    · simp [q, q2]
    · simp [q, q2, Ne.symm q2]
  · rw [if_neg q]
    simp [q]
theorem cnt_rows (rw' : Nat → Nat) : ∀ k, cnt (grd rw') (16 * k) = sumN (fun r => cnt (fun i => (rw' r).testBit i) 16) k := by
  intro k
  induction k with
  | zero => rfl
  | succ k ih =>
    rw [show 16 * (k + 1) = 16 * k + 16 by omega, cnt_add, ih, sumN_s]
    congr 1
    refine cnt_congr (fun i hi => ?_)
    unfold grd
    rw [show (16 * k + i) / 16 = k by omega, show (16 * k + i) % 16 = i by omega]
abbrev chPut : Nat → Nat → Prop := fun a i => a = 17 ∨ a = 16 ∧ i = 6
theorem RS.put {σ s : PS} {L : List Nat} {told : Nat} {nm : Nat → Nat} (h : RS σ L told nm) (c : Ch chPut noL σ s) : RS s L told nm := h.ch c (by omega) (fun i => by omega) (fun i => by omega) (fun i => id) (by omega) (fun i => id)
theorem zRUN {x w : Nat} (hw : w ≤ 16) (h : x + w ≤ 16) : jshl (jshl 1 (nI w) - 1) (nI x) = nI ((2 ^ w - 1) * 2 ^ x) := by
  have a := run_lt h
  rw [zFULL (by omega)]
  exact pk_shlN _ x (s_l x (by omega)) (by omega)
theorem sp_fail7b {g : GV} {d told j k : Nat} {L : List Nat} {nm : Nat → Nat} {σ : PS} (hL : Lay σ) (hR : RS σ L told nm) (hj : j ≤ nt L) (h0 : mi σ 16 6 = 0) : CX7_fail g d [.ref 16, .int (nI j), .int (nI k)] σ (fun s => mi s 16 6 = nI (k + 16 * tb L j) ∧ Ch (fun a i => a = 16 ∧ i = 6) noL σ s) := by
  have hl := hR.2.2.1
  have hn := nt_le (L := L)
  refine vcX7_fail hL hR.1 _ _ ⟨fun h => absurd h0 h, fun _ => ?_⟩
  rw [hR.2.1.1, lit32 0, zLT (by omega) (by omega), zLT (by omega) (by omega), zIN (by omega) (by omega), zCL (by omega)]
  refine ⟨fun h => by omega, fun _ => ⟨fun h => by omega, fun _ => ⟨by omega, fun s2 e2 => ⟨?_, by rw [e2]; exact Ch.rf.si ⟨rfl, rfl⟩⟩⟩⟩⟩
  rw [e2, mi_si, if_pos ⟨rfl, rfl⟩, (hR.2.1.2.1 j hj).2, lit32 16, pk_mul, nI_add]
theorem sp_putCells {g : GV} {d told j x y w h : Nat} {rw' : Nat → Nat} {L : List Nat} {nm : Nat → Nat} {τ : PS} (hL : Lay τ) (hR : RS τ L told nm) (h0 : mi τ 16 6 = 0) (hj : j ≤ nt L) (hF : RowsF τ 17 rw') (hx : x + w ≤ 16) (hy : y + h ≤ 16) :
    CX7_putCells g (d + 1) [.ref 16, .int (nI j), .int (nI x), .int (nI y), .int (nI w), .int (nI h)] τ (fun s => RowsF s 17 (rwPut rw' x y w h) ∧ (cnt (grd (rwPut rw' x y w h)) 256 ≤ 10 → mi s 16 6 = 0) ∧ (¬ cnt (grd (rwPut rw' x y w h)) 256 ≤ 10 → mi s 16 6 = nI (7 + 16 * tb L j)) ∧ Ch chPut noL τ s) := by
  generalize hP : (fun (s : PS) => RowsF s 17 (rwPut rw' x y w h) ∧ (cnt (grd (rwPut rw' x y w h)) 256 ≤ 10 → mi s 16 6 = 0) ∧ (¬ cnt (grd (rwPut rw' x y w h)) 256 ≤ 10 → mi s 16 6 = nI (7 + 16 * tb L j)) ∧ Ch chPut noL τ s) = P
  have hlt := rwPut_lt (rw' := rw') (x := x) (y := y) (w := w) (h := h) hx (fun r hr => (hF r hr).2)
  have count : ∀ (z r : Nat) (u : PS), z = 16 - r → r ≤ 16 → Ch chPut noL τ u → mi u 16 6 = 0 → RowsF u 17 (rwPut rw' x y w h) → VX7_putCells g (d + 1) P 42 [some (.ref 16), some (.int (nI j)), none, none, none, none, some (.int (nI (sumN (fun r => cnt (fun i => (rwPut rw' x y w h r).testBit i) 16) r))), some (.int (nI r))] [] u := by
    intro z
    induction z with
    | zero =>
      intro r u hz hr c h6 hFu
      have : r = 16 := by omega
      subst this
      have hRu := hR.put c
      have e := cnt_rows (rwPut rw' x y w h) 16
      have hle := cnt_le (grd (rwPut rw' x y w h)) (16 * 16)
      rw [← e]
      refine vcX7_putCells_42 (c.lay hL) hRu.1 _ _ _ ⟨fun _ => ?_, fun hc => absurd (by rw [lit32 16, zLE (by omega) (by omega)]; omega) hc⟩
      rw [lit32 10, zLE (by omega) (by omega)]
      refine ⟨fun h10 => ?_, fun h10 => ?_⟩
      · rw [← hP]
        exact ⟨hFu, fun _ => h6, fun q => absurd h10 q, c⟩
      · refine Ct.imp (sp_fail7b (k := 7) (c.lay hL) hRu hj h6) (fun rr s7 q => ?_)
        obtain ⟨rfl, k1, k2⟩ := q
        refine ⟨rfl, k2.fr, ?_⟩
        rw [← hP]
        exact ⟨hFu.ch k2 (fun i => by omega), fun q => absurd q h10, fun _ => k1, c.trans (k2.mono (fun a k h => Or.inr h) (fun _ _ h => h))⟩
    | succ z ih =>
      intro r u hz hr c h6 hFu
      have hRu := hR.put c
      have hle := sumN_le (f := fun r => cnt (fun i => (rwPut rw' x y w h r).testBit i) 16) (n := r) (M := 16) (fun i _ => cnt_le _ 16)
      refine vcX7_putCells_42 (c.lay hL) hRu.1 _ _ _ ⟨fun hc => ?_, fun _ => ?_⟩
      · rw [lit32 16, zLE (by omega) (by omega)] at hc
        omega
      · rw [zIN (by omega) (by omega), zCL (by omega), (hFu r (by omega)).1]
        refine ⟨by omega, Ct.imp (sp_bitCount (c.lay hL) (hlt r (by omega))) (fun rr s10 q => ?_)⟩
        obtain ⟨v, rfl, rfl, rfl⟩ := q
        refine ⟨_, rfl, Fr.rf, fun x12 e12 x14 e14 => ?_⟩
        have := ih (r + 1) s10 (by omega) (by omega) c h6 hFu
        rw [sumN_s] at this
        rw [inc e14, e12, nI_add]
        exact this
  have put : ∀ (z k : Nat) (u : PS), z = h - k → k ≤ h → Ch chPut noL τ u → mi u 16 6 = 0 → (∀ r, r < 16 → mi u 17 r = nI (if y ≤ r ∧ r < y + k then rw' r ||| (2 ^ w - 1) * 2 ^ x else rw' r)) → VX7_putCells g (d + 1) P 3 [some (.ref 16), some (.int (nI j)), some (.int (nI x)), some (.int (nI y)), some (.int (nI w)), some (.int (nI h)), some (.int (nI (y + k))), none] [] u := by
    intro z
    induction z with
    | zero =>
      intro k u hz hk c h6 hu
      have : k = h := by omega
      subst this
      have hRu := hR.put c
      refine vcX7_putCells_3 (c.lay hL) hRu.1 _ _ _ _ _ _ ⟨fun _ => ?_, fun hc => absurd (by rw [nI_add, zLE (by omega) (by omega)]; omega) hc⟩
      exact count 16 0 u rfl (by omega) c h6 (fun r hr => ⟨hu r hr, hlt r hr⟩)
    | succ z ih =>
      intro k u hz hk c h6 hu
      have hRu := hR.put c
      refine vcX7_putCells_3 (c.lay hL) hRu.1 _ _ _ _ _ _ ⟨fun hc => ?_, fun _ => ?_⟩
      · rw [nI_add, zLE (by omega) (by omega)] at hc
        omega
      · have hur := hu (y + k) (by omega)
        rw [if_neg (by omega)] at hur
        rw [zIN (by omega) (by omega), zCL (by omega), hur, zRUN (by omega) hx, fa_or]
        refine ⟨by omega, by omega, fun s3 e3 x5 e5 => ?_⟩
        rw [inc e5, Nat.add_assoc]
        refine ih (k + 1) s3 (by omega) (by omega) (c.trans (by rw [e3]; exact Ch.rf.si (Or.inl rfl))) (by rw [e3, mi_si, if_neg (by omega)]; exact h6) (fun r hr => ?_)
        rw [e3, mi_si]
        by_cases q : r = y + k
        · rw [if_pos ⟨rfl, q⟩, if_pos (by omega), q]
        · rw [if_neg (by omega), hu r hr]
          congr 1
          by_cases q2 : y ≤ r ∧ r < y + k
          · rw [if_pos q2, if_pos (by omega)]
          · rw [if_neg q2, if_neg (by omega)]
  exact vcX7_putCells hL hR.1 _ _ _ _ _ (put h 0 τ rfl (Nat.zero_le _) Ch.rf h0 (fun r hr => by rw [if_neg (by omega)]; exact (hF r hr).1))
/-- a STEP done: the rows behind it -/
def DoOK (rw' : Nat → Nat) (K : Nat) (x y w h : Int32) (r2 : Nat → Nat) : Prop := ∃ a b c e : Nat, x = nI a ∧ y = nI b ∧ w = nI c ∧ h = nI e ∧ 1 ≤ c ∧ a + c ≤ 16 ∧ 1 ≤ e ∧ b + e ≤ 16 ∧ ((K ≠ 6 ∧ r2 = rwPut rw' a b c e ∧ cnt (grd r2) 256 ≤ 10) ∨ (K = 6 ∧ grd rw' (16 * b + a) = true ∧ r2 = rwDel rw' a b))
/-- a STEP that can't be done: its FAULT -/
def DoBad (rw' : Nat → Nat) (K : Nat) (x y w h : Int32) (k : Nat) : Prop := (k = 4 ∧ ¬ (onF x w ∧ onF y h)) ∨ ∃ a b c e : Nat, x = nI a ∧ y = nI b ∧ w = nI c ∧ h = nI e ∧ 1 ≤ c ∧ a + c ≤ 16 ∧ 1 ≤ e ∧ b + e ≤ 16 ∧ ((K ≠ 6 ∧ k = 7 ∧ ¬ cnt (grd (rwPut rw' a b c e)) 256 ≤ 10) ∨ (K = 6 ∧ k = 6 ∧ grd rw' (16 * b + a) = false))
theorem zMASK : ∀ x, x < 16 → nI (2 ^ x) ^^^ (-1) = nI (4294967295 ^^^ 2 ^ x) := by decide +kernel
abbrev chStp : Nat → Nat → Prop := fun a i => a = 17 ∨ a = 16 ∧ (i = 5 ∨ i = 6)
theorem step_do {g : GV} {d told i j : Nat} {rw' : Nat → Nat} {L : List Nat} {nm : Nat → Nat} {x y w h dg : Int32} {τ : PS} {P : PS → Prop} (hL : Lay τ) (hR : RS τ L told nm) (h0 : mi τ 16 6 = 0) (hi : i ≤ nt L) (hK : tK L i < 1000) (hF : RowsF τ 17 rw') (hat : mi τ 16 5 = nI j) (hg : ¬ dg = 0)
    (hok : ∀ s r2, DoOK rw' (tK L i) x y w h r2 → mi s 16 5 = nI j → mi s 16 6 = 0 → RowsF s 17 r2 → Ch chPut noL τ s → P s)
    (hbad : ∀ s k, DoBad rw' (tK L i) x y w h k → 1 ≤ k → k ≤ 7 → mi s 16 6 = nI (k + 16 * tb L i) → Ch chPut noL τ s → P s) :
    VX7_readStep g (d + 2) P 98 [some (.ref 16), some (.int dg), some (.int (nI i)), some (.int (nI (tK L i))), some (.int x), some (.int y), some (.int w), none] [.int h] τ := by
  have h6 : ∀ k, Ch (fun a i => a = 16 ∧ i = 6) noL τ k → Ch chPut noL τ k := fun k c => c.mono (fun a k h => Or.inr h) (fun _ _ h => h)
  refine vcX7_readStep_98 hL hR.1 _ _ _ _ _ _ _ ⟨fun q => absurd h0 q, fun _ => ⟨fun _ => ?_, fun q => absurd q hg⟩⟩
  refine Ct.imp (sp_isOnField hL hR.1) (fun r s q => ?_)
  obtain ⟨v, rfl, hv, rfl⟩ := q
  refine ⟨_, rfl, Fr.rf, fun e => ?_, fun e => ?_⟩
  · have hno : ¬ onF x w := by
      rcases hv with ⟨rfl, -⟩ | ⟨-, h⟩
      · exact absurd e (by decide)
      · exact h
    refine Ct.imp (sp_fail7b (k := 4) hL hR hi h0) (fun r s q => ?_)
    obtain ⟨rfl, k1, k2⟩ := q
    exact ⟨rfl, k2.fr, hbad s 4 (Or.inl ⟨rfl, fun q => hno q.1⟩) (by omega) (by omega) k1 (h6 _ k2)⟩
  · have hx : onF x w := by
      rcases hv with ⟨-, h⟩ | ⟨rfl, -⟩
      · exact h
      · exact absurd rfl e
    refine Ct.imp (sp_isOnField hL hR.1) (fun r s q => ?_)
    obtain ⟨v2, rfl, hv2, rfl⟩ := q
    refine ⟨_, rfl, Fr.rf, fun e2 => ?_, fun e2 => ?_⟩
    · have hy : onF y h := by
        rcases hv2 with ⟨-, h⟩ | ⟨rfl, -⟩
        · exact h
        · exact absurd rfl e2
      obtain ⟨a, c, rfl, rfl, c1, c2⟩ := hx
      obtain ⟨b, e', rfl, rfl, d1, d2⟩ := hy
      rw [lit32 6, zEQ (by omega) (by omega)]
      refine ⟨fun k6 => ?_, fun k6 => ?_⟩
      · rw [zIN (by omega) (by omega), zCL (by omega), (hF b (by omega)).1, zBIT (by have := (hF b (by omega)).2; omega) (by omega)]
        have hgb : grd rw' (16 * b + a) = (rw' b).testBit a := by unfold grd; rw [show (16 * b + a) / 16 = b by omega, show (16 * b + a) % 16 = a by omega]
        refine ⟨by omega, fun hb => ⟨by omega, by omega, fun s52 e52 => ?_⟩, fun hb => ?_⟩
        · have hbit : (rw' b).testBit a = true := by
            refine Classical.byContradiction (fun q => ?_)
            rw [if_neg q] at hb
            exact hb rfl
          rw [zSHL1 (by omega), zMASK a (by omega), fa_and] at e52
          have c52 : Ch chPut noL s s52 := by rw [e52]; exact Ch.rf.si (Or.inl rfl)
          have hdl := rwDel_lt (x := a) (y := b) (fun r hr => (hF r hr).2)
          refine hok s52 (rwDel rw' a b) ⟨a, b, c, e', rfl, rfl, rfl, rfl, c1, c2, d1, d2, Or.inr ⟨k6, by rw [hgb]; exact hbit, rfl⟩⟩ (by rw [c52.i (by omega)]; exact hat) (by rw [e52, mi_si, if_neg (by omega)]; exact h0) (fun r hr => ⟨?_, hdl r hr⟩) c52
          rw [e52, mi_si]
          unfold rwDel
          by_cases q : r = b
          · rw [if_pos ⟨rfl, q⟩, if_pos q, q]
          · rw [if_neg (fun z => q z.2), if_neg q]; exact (hF r hr).1
        · have hbit : (rw' b).testBit a = false := by
            cases q : (rw' b).testBit a with
            | false => rfl
            | true => rw [q, if_pos rfl] at hb; exact absurd hb (by decide)
          refine Ct.imp (sp_fail7b (k := 6) hL hR hi h0) (fun r s q => ?_)
          obtain ⟨rfl, k1, k2⟩ := q
          exact ⟨rfl, k2.fr, hbad s 6 (Or.inr ⟨a, b, c, e', rfl, rfl, rfl, rfl, c1, c2, d1, d2, Or.inr ⟨k6, rfl, by rw [hgb]; exact hbit⟩⟩) (by omega) (by omega) k1 (h6 _ k2)⟩
      · refine Ct.imp (sp_putCells (d := d) hL hR h0 hi hF c2 d2) (fun r s q => ?_)
        obtain ⟨rfl, k1, k2, k3, k4⟩ := q
        refine ⟨rfl, k4.fr, ?_⟩
        by_cases h10 : cnt (grd (rwPut rw' a b c e')) 256 ≤ 10
        · exact hok s _ ⟨a, b, c, e', rfl, rfl, rfl, rfl, c1, c2, d1, d2, Or.inl ⟨k6, rfl, h10⟩⟩ (by rw [k4.i (by omega)]; exact hat) (k2 h10) k1 k4
        · exact hbad s 7 (Or.inr ⟨a, b, c, e', rfl, rfl, rfl, rfl, c1, c2, d1, d2, Or.inl ⟨k6, rfl, h10⟩⟩) (by omega) (by omega) (k3 h10) k4
    · have hno : ¬ onF y h := by
        rcases hv2 with ⟨rfl, -⟩ | ⟨-, h⟩
        · exact absurd e2 (by decide)
        · exact h
      refine Ct.imp (sp_fail7b (k := 4) hL hR hi h0) (fun r s q => ?_)
      obtain ⟨rfl, k1, k2⟩ := q
      exact ⟨rfl, k2.fr, hbad s 4 (Or.inl ⟨rfl, fun q => hno q.2⟩) (by omega) (by omega) k1 (h6 _ k2)⟩
