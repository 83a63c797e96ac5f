/-! ===== the class describes a body by the least of its tellings, packed ===== -/
theorem swf_s (n : Nat) (x y : Nat → Nat) (k m : Nat) : swf n x y (k + 1) m = if (swf n x y k m).testBit (k / 4) then (match bhd n x y (k / 4) (k % 4) with
      | some b => swf n x y k m ||| 2 ^ b
      | none => swf n x y k m) else swf n x y k m := rfl
theorem bdy_con {n : Nat} {x y : Nat → Nat} {E : Nat} {m : Nat → Nat} (hV : VF n x y E) (hm : Mt E m) (hH : itr n x y n = 2 ^ n - 1) : Bdy n (bdy n x y E m) := by
  refine ⟨fun q hq => bdy_lt hV hq, fun P hP hcl => ?_⟩
  have A : ∀ Q : Nat → Prop, (∀ q, q < 4 * n → Q (q / 4) → Q (bdy n x y E m q / 4)) → Q 0 → ∀ c, c < n → Q c := by
    intro Q hQ h0
    have hb : ∀ q b, q < 4 * n → Q (q / 4) → bhd n x y (q / 4) (q % 4) = some b → Q b := by
      intro q b hq h1 h2
      have := hQ q hq h1
      rw [bdy_b (eAt_inner hV h2) h2, show (4 * b + (q + 2) % 4) / 4 = b by omega] at this
      exact this
    have hs : ∀ k, k ≤ 4 * n → ∀ w, (∀ c, w.testBit c = true → Q c) → ∀ c, (swf n x y k w).testBit c = true → Q c := by
      intro k
      induction k with
      | zero => intro _ w hw; exact hw
      | succ k ih =>
        intro hk w hw c hc
        have ih' := ih (by omega) w hw
        rw [swf_s] at hc
        by_cases e : (swf n x y k w).testBit (k / 4) = true
        · rw [if_pos e] at hc
          cases hbh : bhd n x y (k / 4) (k % 4) with
          | none => rw [hbh] at hc; exact ih' c hc
          | some b =>
            rw [hbh] at hc
            simp only at hc
            rw [or_bit] at hc
            by_cases e2 : (swf n x y k w).testBit c = true
            · exact ih' c e2
            · have : b = c := by simpa [e2] using hc
              rw [← this]
              exact hb k b (by omega) (ih' _ e) hbh
        · rw [if_neg e] at hc
          exact ih' c hc
    have hi : ∀ r c, (itr n x y r).testBit c = true → Q c := by
      intro r
      induction r with
      | zero =>
        intro c hc
        have : c = 0 := by
          have hc' : (1 : Nat).testBit c = true := hc
          rw [show (1 : Nat) = 2 ^ 0 by rfl, Nat.testBit_two_pow] at hc'
          have := of_decide_eq_true hc'
          omega
        rw [this]
        exact h0
      | succ r ih => exact hs (4 * n) (Nat.le_refl _) _ ih
    intro c hc
    refine hi n c ?_
    rw [hH]
    exact full_bit hc
  obtain ⟨c0, hc0, hp0⟩ := hP
  by_cases h0 : P 0
  · exact A P hcl h0
  · exfalso
    refine A (fun z => ¬ P z) (fun q hq h1 h2 => h1 ?_) h0 c0 hc0 hp0
    have := hcl _ (bdy_lt hV hq) h2
    rw [bdy_inv hV hm hq] at this
    exact this
theorem litL (n : Nat) : (OfNat.ofNat n : Int64) = lN n := rfl
theorem lg0 {a b : Int64} : (lg_cmp a b = 0) ↔ a = b := by
  unfold lg_cmp
  by_cases h : a > b
  · rw [if_pos h]
    exact ⟨fun q => absurd q (by decide), fun q => by subst q; exact (Int64.lt_irrefl h).elim⟩
  · rw [if_neg h]
    by_cases e : a = b
    · rw [if_pos e]; exact ⟨fun _ => e, fun _ => rfl⟩
    · rw [if_neg e]; exact ⟨fun q => absurd q (by decide), fun q => absurd q e⟩
def pkN (B : Nat → Nat) (i : Nat) : Nat → Nat
  | 0 => 0
  | k + 1 => pkN B i k * 64 + B (10 * i + k)
theorem pkN_s (B : Nat → Nat) (i k : Nat) : pkN B i (k + 1) = pkN B i k * 64 + B (10 * i + k) := rfl
theorem pkN_lt {B : Nat → Nat} {i : Nat} (h : ∀ j, j < 40 → B j < 64) (hi : i < 4) : ∀ k, k ≤ 10 → pkN B i k < 64 ^ k := by
  intro k
  induction k with
  | zero => intro _; exact Nat.one_pos
  | succ k ih =>
    intro hk
    have a := ih (by omega)
    have b := h (10 * i + k) (by omega)
    rw [pkN_s, Nat.pow_succ]
    generalize 64 ^ k = p at *
    omega
theorem pkN_63 {B : Nat → Nat} {i : Nat} (h : ∀ j, j < 40 → B j < 64) (hi : i < 4) : pkN B i 10 < 2 ^ 63 :=
  Nat.lt_of_lt_of_le (pkN_lt h hi 10 (Nat.le_refl _)) (by decide)
theorem pkN_inj {B B' : Nat → Nat} {i : Nat} (h : ∀ j, j < 40 → B j < 64) (h' : ∀ j, j < 40 → B' j < 64) (hi : i < 4) : ∀ k, k ≤ 10 → pkN B i k = pkN B' i k → ∀ j, j < k → B (10 * i + j) = B' (10 * i + j) := by
  intro k
  induction k with
  | zero => intro _ _ j hj; omega
  | succ k ih =>
    intro hk e j hj
    have b := h (10 * i + k) (by omega)
    have b' := h' (10 * i + k) (by omega)
    rw [pkN_s, pkN_s] at e
    by_cases q : j = k
    · rw [q]; omega
    · exact ih (by omega) (by omega) j (by omega)
theorem pkN_eq {B B' : Nat → Nat} {i : Nat} : ∀ k, (∀ j, j < k → B (10 * i + j) = B' (10 * i + j)) → pkN B i k = pkN B' i k := by
  intro k
  induction k with
  | zero => intro _; rfl
  | succ k ih => intro h; rw [pkN_s, pkN_s, ih (fun j hj => h j (by omega)), h k (by omega)]
def eqB (B B' : Nat → Nat) : Bool := (List.range 40).all (fun j => B j == B' j)
theorem eqB_is {B B' : Nat → Nat} : eqB B B' = true ↔ ∀ j, j < 40 → B j = B' j := by
  unfold eqB
  rw [List.all_eq_true]
  constructor
  · intro h j hj
    simpa using h j (List.mem_range.mpr hj)
  · intro h j hj
    simpa using h j (List.mem_range.mp hj)
/-- a row of the descriptions -/
def DR (σ : PS) (row : Nat) (B : Nat → Nat) : Prop := ∀ i, i < 4 → ml σ 142 (4 * row + i) = lN (pkN B i 10)
theorem DR.ch {σ s : PS} {row : Nat} {B : Nat → Nat} {Pm Pl : Nat → Nat → Prop} (h : DR σ row B) (c : Ch Pm Pl σ s) (hn : ∀ i, i < 4 → ¬ Pl 142 (4 * row + i)) : DR s row B := fun i hi => by rw [c.l (hn i hi)]; exact h i hi
theorem sp_equal1 {g : GV} {d r1 r2 : Nat} {B B' : Nat → Nat} {σ : PS} (hL : Lay σ) (h1 : r1 < 302) (h2 : r2 < 302) (hB : ∀ j, j < 40 → B j < 64) (hB' : ∀ j, j < 40 → B' j < 64) (hD : DR σ r1 B) (hD' : DR σ r2 B') :
    CX1_equal g d [.ref 133, .int (nI r1), .int (nI r2)] σ (fun v s => v = (if eqB B B' = true then 1 else 0) ∧ s = σ) := by
  have loop : ∀ (z i : Nat), z = 4 - i → i ≤ 4 → (∀ j, j < 10 * i → B j = B' j) → VX1_equal g d (fun v s => v = (if eqB B B' = true then 1 else 0) ∧ s = σ) 2 [some (.ref 133), some (.int (nI r1)), some (.int (nI r2)), some (.int (nI i))] [] σ := by
    intro z
    induction z with
    | zero =>
      intro i hz hi hq
      have : i = 4 := by omega
      subst this
      refine vcX1_equal_2 hL _ _ _ ⟨fun _ => ⟨?_, rfl⟩, fun h => absurd (by rw [lit32 4, zLE (by omega) (by omega)]; omega) h⟩
      rw [if_pos (eqB_is.mpr (fun j hj => hq j (by omega)))]
    | succ z ih =>
      intro i hz hi hq
      refine vcX1_equal_2 hL _ _ _ ⟨fun h => ?_, fun _ => ?_⟩
      · rw [lit32 4, zLE (by omega) (by omega)] at h
        omega
      · rw [lit32 4, pk_mul, pk_mul, nI_add, nI_add, zIN (by omega) (by omega), zIN (by omega) (by omega), zCL (by omega), zCL (by omega), Nat.mul_comm r1, Nat.mul_comm r2, hD i (by omega), hD' i (by omega), lg0, pk_lEQ (pkN_63 hB (by omega)) (pkN_63 hB' (by omega))]
        refine ⟨by omega, by omega, fun he x3 e3 => ?_, fun hne => ⟨?_, rfl⟩⟩
        · rw [inc e3]
          refine ih (i + 1) (by omega) (by omega) (fun j hj => ?_)
          by_cases w : j < 10 * i
          · exact hq j w
          · have := pkN_inj hB hB' (i := i) (by omega) 10 (Nat.le_refl _) he (j - 10 * i) (by omega)
            rw [show 10 * i + (j - 10 * i) = j by omega] at this
            exact this
        · rw [if_neg (fun h => hne (pkN_eq 10 (fun j hj => eqB_is.mp h _ (by omega))))]
  exact vcX1_equal hL _ _ (loop 4 0 rfl (by omega) (fun j hj => by omega))
/-- one more telling -/
theorem BT.step {n : Nat} {C B : Nat → Nat} {s : PS} (h : BT n C B s) (hC : ∀ i, i < 4 * n → C i ≤ 40) (h40 : ∀ j, j < 40 → B j ≤ 40) : ∃ B', AR s B' ∧ ¬ lexlt (4 * n) C B' ∧ (∀ D, ¬ lexlt (4 * n) D B → ¬ lexlt (4 * n) D B') ∧ ((∀ i, i < 4 * n → B' i = C i) ∨ (¬ lexlt (4 * n) C B ∧ ∀ i, B' i = B i)) ∧ (∀ i, 4 * n ≤ i → B' i = B i) ∧ ∀ j, j < 40 → B' j ≤ 40 := by
  rcases h with ⟨h1, h2⟩ | ⟨h1, h2⟩
  · have e : ∀ i, i < 4 * n → (fun i => if i < 4 * n then C i else B i) i = C i := fun i hi => if_pos hi
    refine ⟨_, h2, lex_irr (fun i hi => (e i hi).symm), fun D hD hl => hD ?_, Or.inl e, fun i hi => if_neg (by omega), fun j hj => ?_⟩
    · exact lex_trans (lex_congr (fun _ _ => rfl) e hl) h1
    · show (if j < 4 * n then C j else B j) ≤ 40
      split
      · exact hC j (by assumption)
      · exact h40 j hj
  · exact ⟨B, h2, h1, fun _ hD => hD, Or.inr ⟨h1, fun _ => rfl⟩, fun _ _ => rfl, h40⟩
abbrev chDs : Nat → Nat → Prop := fun a _ => a = 91 ∨ a = 92 ∨ 134 ≤ a ∧ a ≤ 141
abbrev rowL (row : Nat) : Nat → Nat → Prop := fun a k => a = 142 ∧ 4 * row ≤ k ∧ k < 4 * row + 4
theorem isB134 : isB 134 := by unfold isB; decide
/-- what best holds when the places before p are gone through -/
def OB (n p : Nat) (f B : Nat → Nat) : Prop := (∀ c s st, c < n → s < 4 → (st = 1 ∨ st = 3) → 4 * c + s < p → ¬ lexlt (4 * n) (cod f st c s) B) ∧ ((p = 0 ∧ ∀ j, j < 40 → B j = 40) ∨ ∃ c s st, c < n ∧ s < 4 ∧ (st = 1 ∨ st = 3) ∧ ∀ i, i < 4 * n → B i = cod f st c s i) ∧ (∀ i, 4 * n ≤ i → i < 40 → B i = 40) ∧ ∀ j, j < 40 → B j ≤ 40
theorem describe_pack {g : GV} {d row : Nat} {B : Nat → Nat} {P : PS → Prop} {σ : PS} (hL : Lay σ) (hrow : row < 302) (hA : AR σ B) (hB : ∀ j, j < 40 → B j < 64) (hP : ∀ s, DR s row B → Ch (fun _ _ => False) (rowL row) σ s → P s) :
    VX1_describe g (d + 1) P 80 [some (.ref 133), none, some (.int (nI row)), some (.int 0), none, none, none] [] σ := by
  have outer : ∀ (z i : Nat) (τ : PS), z = 4 - i → i ≤ 4 → Ch (fun _ _ => False) (rowL row) σ τ → (∀ i', i' < i → ml τ 142 (4 * row + i') = lN (pkN B i' 10)) → VX1_describe g (d + 1) P 80 [some (.ref 133), none, some (.int (nI row)), some (.int (nI i)), none, none, none] [] τ := by
    intro z
    induction z with
    | zero =>
      intro i τ hz hi c hq
      have : i = 4 := by omega
      subst this
      exact vcX1_describe_80 (c.lay hL) _ _ ⟨fun _ => hP τ hq c, fun h => absurd (by rw [lit32 4, zLE (by omega) (by omega)]; omega) h⟩
    | succ z ih =>
      intro i τ hz hi c hq
      have inner : ∀ (w k : Nat), w = 10 - k → k ≤ 10 → VX1_describe g (d + 1) P 91 [some (.ref 133), none, some (.int (nI row)), some (.int (nI i)), some (.long (lN (pkN B i k))), none, some (.int (nI k))] [] τ := by
        intro w
        induction w with
        | zero =>
          intro k hw hk
          have : k = 10 := by omega
          subst this
          refine vcX1_describe_91 (c.lay hL) _ _ _ _ ⟨fun _ => ?_, fun h => absurd (by rw [lit32 10, zLE (by omega) (by omega)]; omega) h⟩
          rw [lit32 4, pk_mul, nI_add, zIN (by omega) (by omega), zCL (by omega), Nat.mul_comm row]
          refine ⟨by omega, fun s14 e14 x16 e16 => ?_⟩
          rw [inc e16]
          have c14 : Ch (fun _ _ => False) (rowL row) τ s14 := by rw [e14]; exact Ch.rf.sj ⟨rfl, by omega, by omega⟩
          refine ih (i + 1) s14 (by omega) (by omega) (c.trans c14) (fun i' hi' => ?_)
          rw [e14, ml_sj]
          by_cases e : i' = i
          · rw [if_pos ⟨rfl, by omega⟩, e]
          · rw [if_neg (by omega)]; exact hq i' (by omega)
        | succ w ihw =>
          intro k hw hk
          refine vcX1_describe_91 (c.lay hL) _ _ _ _ ⟨fun h => ?_, fun _ => ?_⟩
          · rw [lit32 10, zLE (by omega) (by omega)] at h
            omega
          · have hb := hA (10 * i + k) (by omega)
            have hb2 := hB (10 * i + k) (by omega)
            rw [lit32 10, pk_mul, nI_add, zIN (by omega) (by omega), zCL (by omega), Nat.mul_comm i, c.i (by simp), hb]
            refine ⟨by omega, fun x19 e19 x21 e21 => ?_⟩
            rw [nI_l (by omega), litL 64, lN_mul, lN_add, ← pkN_s] at e19
            rw [inc e21, e19]
            exact ihw (k + 1) (by omega) (by omega)
      refine vcX1_describe_80 (c.lay hL) _ _ ⟨fun h => ?_, fun _ => inner 10 0 rfl (by omega)⟩
      rw [lit32 4, zLE (by omega) (by omega)] at h
      omega
  exact outer 4 0 σ rfl (by omega) Ch.rf (fun i' hi' => by omega)
theorem sp_describe {g : GV} {d n E gl row : Nat} {x y : Nat → Nat} {q : Nat → Nat} {m : Mat} {T : List Mat} {σ : PS} (hL : Lay σ) (hF : FF σ 20 n x y E) (hV : VF n x y E) (hH : itr n x y n = 2 ^ n - 1) (hT : EC σ E T) (hg : gl < 2000) (hm : T[gl]? = some m) (hM : FM E q m) (hrow : row < 302) :
    CX1_describe g (d + 2) [.ref 133, .int (nI gl), .int (nI row)] σ (fun s => ∃ B, MinD n (bdy n x y E (mt m)) B ∧ (∀ j, j < 40 → B j < 64) ∧ DR s row B ∧ Ch chDs (rowL row) σ s) := by
  have hn := hV.2.1
  have hE := hV.2.2.2.2.2.2
  have hmt := hM.inv.mt hM.full
  have hfm := full_mt hM.full
  have hBd := bdy_con hV hmt hH
  generalize hP : (fun s => ∃ B, MinD n (bdy n x y E (mt m)) B ∧ (∀ j, j < 40 → B j < 64) ∧ DR s row B ∧ Ch chDs (rowL row) σ s) = P
  refine vcX1_describe hL _ _ (Ct.imp (sp_tell5 (d := d + 1) hL hE hM.1 hT hg hm) (fun r s1 w => ?_))
  obtain ⟨rfl, hA1, c1⟩ := w
  have c1' : Ch chDs (rowL row) σ s1 := c1.mono (fun a k h => by unfold chDs; omega) (fun _ _ h => h.elim)
  have hL1 := c1.lay hL
  have hF1 := hF.ch c1 (fun a i h1 h2 => by omega)
  refine ⟨rfl, c1.fr, Ct.imp (sp_fold (d := d) hL1 isB134 isF20 (kd_92 hL1) (by omega) (by omega) hF1 hV hmt (fun e he => by rw [hA1 e (by omega), hfm e he]; rfl) (by omega)) (fun r s3 w => ?_)⟩
  obtain ⟨rfl, hB3, c3⟩ := w
  have c3' : Ch chDs (rowL row) σ s3 := c1'.trans (c3.mono (fun a k h => by unfold chB at h; unfold chDs; omega) (fun _ _ h => h.elim))
  have hL3 := c3.lay hL1
  refine ⟨rfl, c3.fr, Ct.imp (sp_fill hL3 (kd_141 hL3) (by omega)) (fun r s5 w => ?_)⟩
  obtain ⟨rfl, hf5, c5⟩ := w
  have c5' : Ch chDs (rowL row) σ s5 := c3'.trans (c5.mono (fun a k h => by unfold chDs; omega) (fun _ _ h => h.elim))
  have hL5 := c5.lay hL3
  have hD5 := hB3.1.ch c5 (by omega) (fun i => by omega) (fun i => by omega)
  refine ⟨rfl, c5.fr, ?_⟩
  have loop : ∀ (z p : Nat) (τ : PS) (B : Nat → Nat), z = 4 * n - p → p ≤ 4 * n → Ch chDs (rowL row) σ τ → BD τ 134 n (bdy n x y E (mt m)) → AR τ B → OB n p (bdy n x y E (mt m)) B → VX1_describe g (d + 2) P 37 [some (.ref 133), none, some (.int (nI row)), some (.int (nI p)), none, none, none] [] τ := by
    intro z
    induction z with
    | zero =>
      intro p τ B hz hp c hD hA hO
      have : p = 4 * n := by omega
      subst this
      refine vcX1_describe_37 (c.lay hL) _ _ ⟨fun _ => ?_, fun h => absurd (by rw [hD.1, lit32 4, pk_mul, zLE (by omega) (by omega)]; omega) h⟩
      have h0 := hV.1
      have hB64 : ∀ j, j < 40 → B j < 64 := fun j hj => by have := hO.2.2.2 j hj; omega
      refine describe_pack (d := d + 1) (c.lay hL) hrow hA hB64 (fun s h1 h2 => ?_)
      rw [← hP]
      refine ⟨B, ⟨?_, fun c s st a1 a2 a3 => hO.1 c s st a1 a2 a3 (by omega), hO.2.2.1⟩, hB64, h1, c.trans (h2.mono (fun _ _ h => h.elim) (fun _ _ h => h))⟩
      rcases hO.2.1 with ⟨e, -⟩ | e
      · omega
      · exact e
    | succ z ih =>
      intro p τ B hz hp c hD hA hO
      refine vcX1_describe_37 (c.lay hL) _ _ ⟨fun h => ?_, fun _ => ?_⟩
      · rw [hD.1, lit32 4, pk_mul, zLE (by omega) (by omega)] at h
        omega
      · rw [lit32 4, zDIV (by omega) (by omega) (by omega), zREM (by omega) (by omega) (by omega)]
        have hcl : ∀ st, (st = 1 ∨ st = 3) → ∀ i, i < 4 * n → cod (bdy n x y E (mt m)) st (p / 4) (p % 4) i < 4 * n := fun st hst i hi => cod_lt hBd hst (by omega) (by omega) hi
        refine Ct.imp (sp_describeFrom (d := d) (st := 1) (c.lay hL) hD hBd (Or.inl rfl) (show p / 4 < n by omega) (show p % 4 < 4 by omega) hO.2.2.2 hA) (fun r s7 w => ?_)
        obtain ⟨rfl, hb7, c7⟩ := w
        obtain ⟨B7, A7, n7, m7, o7, r7, l7⟩ := hb7.step (fun i hi => by have := hcl 1 (Or.inl rfl) i hi; omega) hO.2.2.2
        have hD7 := hD.ch c7 (by unfold chD; omega) (fun i => by unfold chD; omega) (fun i => by unfold chD; omega)
        have c7' : Ch chDs (rowL row) σ s7 := c.trans (c7.mono (fun a k h => by unfold chD at h; unfold chDs; omega) (fun _ _ h => h.elim))
        refine ⟨rfl, c7.fr, Ct.imp (sp_describeFrom (d := d) (st := 3) (c7'.lay hL) hD7 hBd (Or.inr rfl) (show p / 4 < n by omega) (show p % 4 < 4 by omega) l7 A7) (fun r s9 w => ?_)⟩
        obtain ⟨rfl, hb9, c9⟩ := w
        obtain ⟨B9, A9, n9, m9, o9, r9, l9⟩ := hb9.step (fun i hi => by have := hcl 3 (Or.inr rfl) i hi; omega) l7
        have hD9 := hD7.ch c9 (by unfold chD; omega) (fun i => by unfold chD; omega) (fun i => by unfold chD; omega)
        have c9' : Ch chDs (rowL row) σ s9 := c7'.trans (c9.mono (fun a k h => by unfold chD at h; unfold chDs; omega) (fun _ _ h => h.elim))
        refine ⟨rfl, c9.fr, fun x11 e11 => ?_⟩
        rw [inc e11]
        refine ih (p + 1) s9 B9 (by omega) (by omega) c9' hD9 A9 ⟨fun cc ss st a1 a2 a3 a4 => ?_, Or.inr ?_, fun i h1 h2 => (r9 i h1).trans ((r7 i h1).trans (hO.2.2.1 i h1 h2)), l9⟩
        · by_cases e : 4 * cc + ss < p
          · exact m9 _ (m7 _ (hO.1 cc ss st a1 a2 a3 e))
          · have e1 : cc = p / 4 := by omega
            have e2 : ss = p % 4 := by omega
            subst e1
            subst e2
            rcases a3 with rfl | rfl
            · exact m9 _ n7
            · exact n9
        · have hq7 : ∃ c s st, c < n ∧ s < 4 ∧ (st = 1 ∨ st = 3) ∧ ∀ i, i < 4 * n → B7 i = cod (bdy n x y E (mt m)) st c s i := by
            rcases o7 with o | ⟨o, o'⟩
            · exact ⟨p / 4, p % 4, 1, by omega, by omega, Or.inl rfl, o⟩
            · rcases hO.2.1 with ⟨e, e40⟩ | ⟨cc, ss, st, a1, a2, a3, a4⟩
              · exfalso
                refine o ⟨0, by omega, ?_, fun j hj => by omega⟩
                have := hcl 1 (Or.inl rfl) 0 (by omega)
                have := e40 0 (by omega)
                omega
              · exact ⟨cc, ss, st, a1, a2, a3, fun i hi => (o' i).trans (a4 i hi)⟩
          rcases o9 with o | ⟨o, o'⟩
          · exact ⟨p / 4, p % 4, 3, by omega, by omega, Or.inr rfl, o⟩
          · obtain ⟨cc, ss, st, a1, a2, a3, a4⟩ := hq7
            exact ⟨cc, ss, st, a1, a2, a3, fun i hi => (o' i).trans (a4 i hi)⟩
  exact loop (4 * n) 0 s5 (fun _ => 40) rfl (by omega) c5' hD5 (fun i hi => hf5 i hi) ⟨fun _ _ _ _ _ _ h => by omega, Or.inl ⟨rfl, fun _ _ => rfl⟩, fun _ _ _ => rfl, fun _ _ => Nat.le_refl _⟩
