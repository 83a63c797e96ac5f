/-! ===== feed of both: the TAPE as a list ===== -/
theorem wc_inj {a b : Int64} (h : a.toBitVec = b.toBitVec) : a = b := Int64.toBitVec_inj.mp h
theorem and255 (x : Int64) : ∃ c, c < 256 ∧ Int64.toInt32 (x &&& 255) = nI c := by
  have e : x &&& 255 = lN (x.toBitVec.toNat % 256) := by
    refine Int64.toBitVec_inj.mp (BitVec.eq_of_toNat_eq ?_)
    show (x.toBitVec &&& 255#64).toNat = (BitVec.ofNat 64 (x.toBitVec.toNat % 256)).toNat
    rw [BitVec.toNat_and, show (255#64).toNat = 2 ^ 8 - 1 from by decide, Nat.and_two_pow_sub_one_eq_mod, BitVec.toNat_ofNat]
    omega
  exact ⟨x.toBitVec.toNat % 256, Nat.mod_lt _ (by decide), by rw [e, lN_i]⟩
def ch8 (w : Int64) (j : Nat) : Nat := Int32.toNatClampNeg (Int64.toInt32 ((jlushr w (nI (56 - 8 * j))) &&& 255))
theorem ch8_is (w : Int64) (j : Nat) : Int64.toInt32 ((jlushr w (nI (56 - 8 * j))) &&& 255) = nI (ch8 w j) ∧ ch8 w j < 256 := by
  obtain ⟨c, hc, e⟩ := and255 (jlushr w (nI (56 - 8 * j)))
  unfold ch8
  rw [e, zCL (by omega)]
  exact ⟨rfl, hc⟩
def okC (s : Nat) : Prop := s = 10 ∨ 32 ≤ s ∧ s ≤ 126
def psh (L : List Nat) (s : Nat) : List Nat := if L.length < 1000 ∧ (s = 10 ∨ 32 ≤ s ∧ s ≤ 126) then L ++ [s] else L
def p8 (w : Int64) : Nat → List Nat → List Nat
  | 0, L => L
  | j + 1, L => psh (p8 w j L) (ch8 w j)
theorem p8_0 (w : Int64) (L : List Nat) : p8 w 0 L = L := rfl
theorem p8_s (w : Int64) (j : Nat) (L : List Nat) : p8 w (j + 1) L = psh (p8 w j L) (ch8 w j) := rfl
def fd (a b c : Int64) : Nat → List Nat → List Nat
  | 0, L => L
  | k + 1, L => psh (fd a b c k L) (ch8 (if k < 8 then a else if k < 16 then b else c) (k % 8))
theorem fd_s (a b c : Int64) (k : Nat) (L : List Nat) : fd a b c (k + 1) L = psh (fd a b c k L) (ch8 (if k < 8 then a else if k < 16 then b else c) (k % 8)) := rfl
theorem fd_a (a b c : Int64) (L : List Nat) : ∀ k, k ≤ 8 → fd a b c k L = p8 a k L := by
  intro k
  induction k with
  | zero => intro _; rfl
  | succ k ih => intro hk; rw [fd_s, ih (by omega), p8_s, if_pos (by omega), Nat.mod_eq_of_lt (by omega)]
theorem fd_b (a b c : Int64) (L : List Nat) : ∀ k, k ≤ 8 → fd a b c (8 + k) L = p8 b k (p8 a 8 L) := by
  intro k
  induction k with
  | zero =>
    intro _
    have h : fd a b c (8 + 0) L = p8 a 8 L := fd_a a b c L 8 (by omega)
    rw [p8_0, h]
  | succ k ih => intro hk; rw [← Nat.add_assoc, fd_s, ih (by omega), p8_s b k, if_neg (by omega), if_pos (by omega), show (8 + k) % 8 = k by omega]
theorem fd_c (a b c : Int64) (L : List Nat) : ∀ k, k ≤ 8 → fd a b c (16 + k) L = p8 c k (p8 b 8 (p8 a 8 L)) := by
  intro k
  induction k with
  | zero =>
    intro _
    have h : fd a b c (16 + 0) L = p8 b 8 (p8 a 8 L) := fd_b a b c L 8 (by omega)
    rw [p8_0, h]
  | succ k ih => intro hk; rw [← Nat.add_assoc, fd_s, ih (by omega), p8_s c k, if_neg (by omega), if_neg (by omega), show (16 + k) % 8 = k by omega]
def TC (σ : PS) (L : List Nat) : Prop := mi σ 11 1 = nI L.length ∧ L.length ≤ 1000 ∧ ∀ i c, L[i]? = some c → mi σ 12 i = nI c ∧ (c = 10 ∨ 32 ≤ c ∧ c ≤ 126)
def TM (σ : PS) (L : List Nat) : Prop := mi σ 179 1 = nI L.length ∧ ∀ i c, L[i]? = some c → mi σ 180 i = nI c
theorem TC.ch {σ s : PS} {L : List Nat} {Pm Pl : Nat → Nat → Prop} (h : TC σ L) (c : Ch Pm Pl σ s) (h1 : ¬ Pm 11 1) (h2 : ∀ i, ¬ Pm 12 i) : TC s L := ⟨by rw [c.i h1]; exact h.1, h.2.1, fun i k e => by rw [c.i (h2 i)]; exact h.2.2 i k e⟩
theorem TM.ch {σ s : PS} {L : List Nat} {Pm Pl : Nat → Nat → Prop} (h : TM σ L) (c : Ch Pm Pl σ s) (h1 : ¬ Pm 179 1) (h2 : ∀ i, ¬ Pm 180 i) : TM s L := ⟨by rw [c.i h1]; exact h.1, fun i k e => by rw [c.i (h2 i)]; exact h.2 i k e⟩
theorem psh_no {L : List Nat} {s : Nat} (h : ¬ (L.length < 1000 ∧ (s = 10 ∨ 32 ≤ s ∧ s ≤ 126))) : psh L s = L := if_neg h
theorem psh_yes {L : List Nat} {s : Nat} (h : L.length < 1000 ∧ (s = 10 ∨ 32 ≤ s ∧ s ≤ 126)) : psh L s = L ++ [s] := if_pos h
theorem snoc_get {L : List Nat} {s i c : Nat} (h : (L ++ [s])[i]? = some c) : (i = L.length ∧ c = s) ∨ (i < L.length ∧ L[i]? = some c) := by
  by_cases e : i < L.length
  · rw [List.getElem?_append_left e] at h
    exact Or.inr ⟨e, h⟩
  · rw [List.getElem?_append_right (by omega)] at h
    have : i - L.length = 0 := by
      refine Classical.byContradiction (fun hne => ?_)
      rw [List.getElem?_eq_none (by simp; omega)] at h
      cases h
    rw [this] at h
    exact Or.inl ⟨by omega, by simpa using h.symm⟩
theorem charN : ∀ c, c < 256 → vp_nar .char (ji2c (nI c)) = nI c := by decide +kernel
abbrev ch1112 : Nat → Nat → Prop := fun a i => a = 11 ∧ i = 1 ∨ a = 12
theorem sp_put {g : GV} {d : Nat} {w : Int64} {L : List Nat} {σ : PS} (hL : Lay σ) (hT : TC σ L) :
    CX8_put g d [.ref 11, .long w] σ (fun s => TC s (p8 w 8 L) ∧ Ch ch1112 noL σ s) := by
  generalize hP : (fun (s : PS) => TC s (p8 w 8 L) ∧ Ch ch1112 noL σ s) = P
  have loop : ∀ (z j : Nat) (τ : PS), z = 8 - j → j ≤ 8 → Ch ch1112 noL σ τ → TC τ (p8 w j L) → VX8_put g d P 3 [some (.ref 11), some (.long w), none, some (.int (if j < 8 then nI (56 - 8 * j) else -8)), none, none] [] τ := by
    intro z
    induction z with
    | zero =>
      intro j τ hz hj c hT
      have : j = 8 := by omega
      subst this
      refine vcX8_put_3 (c.lay hL) _ _ ⟨fun _ => ?_, fun h => absurd (by decide) h⟩
      rw [← hP]
      exact ⟨hT, c⟩
    | succ z ih =>
      intro j τ hz hj c hT
      rw [if_pos (by omega)]
      obtain ⟨e1, e2⟩ := ch8_is w j
      have hLτ := c.lay hL
      obtain ⟨t1, t2, t3⟩ := id hT
      have nxt : nI (56 - 8 * j) + (-8) = if j + 1 < 8 then nI (56 - 8 * (j + 1)) else -8 := by
        have : j = 0 ∨ j = 1 ∨ j = 2 ∨ j = 3 ∨ j = 4 ∨ j = 5 ∨ j = 6 ∨ j = 7 := by omega
        rcases this with rfl | rfl | rfl | rfl | rfl | rfl | rfl | rfl <;> decide
      have skip : ¬ ((p8 w j L).length < 1000 ∧ (ch8 w j = 10 ∨ 32 ≤ ch8 w j ∧ ch8 w j ≤ 126)) → VX8_put g d P 3 [some (.ref 11), some (.long w), none, some (.int (nI (56 - 8 * j) + (-8))), none, none] [] τ := by
        intro h
        rw [nxt]
        refine ih (j + 1) τ (by omega) (by omega) c ?_
        rw [p8_s, psh_no h]
        exact hT
      have push : ((p8 w j L).length < 1000 ∧ (ch8 w j = 10 ∨ 32 ≤ ch8 w j ∧ ch8 w j ≤ 126)) → ∀ s6, s6 = si τ 12 (p8 w j L).length (vp_nar .char (ji2c (nI (ch8 w j)))) → ∀ s8, s8 = si s6 11 1 ((mi s6 11 1) + 1) → VX8_put g d P 3 [some (.ref 11), some (.long w), none, some (.int (nI (56 - 8 * j) + (-8))), none, none] [] s8 := by
        intro h s6 e6 s8 e8
        rw [nxt]
        have v6 : mi s6 11 1 = nI (p8 w j L).length := by rw [e6, mi_si, if_neg (by omega)]; exact t1
        rw [v6, inc rfl] at e8
        refine ih (j + 1) s8 (by omega) (by omega) (c.trans (by rw [e8, e6]; exact (Ch.rf.si (Or.inr rfl)).si (Or.inl ⟨rfl, rfl⟩))) ?_
        rw [p8_s, psh_yes h]
        refine ⟨by rw [e8, mi_si, if_pos ⟨rfl, rfl⟩, List.length_append]; rfl, by rw [List.length_append, List.length_singleton]; omega, fun i k e => ?_⟩
        rw [e8, mi_si, if_neg (by omega), e6, mi_si]
        rcases snoc_get e with ⟨i1, i2⟩ | ⟨i1, i2⟩
        · rw [if_pos ⟨rfl, i1⟩, i2, charN _ e2]
          exact ⟨rfl, h.2⟩
        · rw [if_neg (by omega)]
          exact t3 i k i2
      refine vcX8_put_3 hLτ _ _ ⟨fun h => ?_, fun _ x1 ex => ?_⟩
      · rw [lit32 0, zLT (by omega) (by omega)] at h
        omega
      · rw [e1] at ex
        rw [ex, t1]
        generalize ch8 w j = k at *
        rw [lit32 10, lit32 1000, lit32 32, lit32 126, zEQ (by omega) (by omega), zLE (by omega) (by omega), zLT (by omega) (by omega), zLT (by omega) (by omega), zIN (by omega) (by omega), zCL (by omega)]
        refine ⟨fun h10 => ⟨fun h1 x3 e3 => ?_, fun h1 => ⟨by omega, fun s6 e6 s8 e8 x10 e10 => ?_⟩⟩, fun h10 => ⟨fun h1 x3 e3 => ?_, fun h1 => ⟨fun h2 x3 e3 => ?_, fun h2 => ⟨fun h3 x3 e3 => ?_, fun h3 => ⟨by omega, fun s6 e6 s8 e8 x10 e10 => ?_⟩⟩⟩⟩⟩
        · rw [e3]; exact skip (by omega)
        · rw [e10]; exact push (by omega) s6 e6 s8 e8
        · rw [e3]; exact skip (by omega)
        · rw [e3]; exact skip (by omega)
        · rw [e3]; exact skip (by omega)
        · rw [e10]; exact push (by omega) s6 e6 s8 e8
  exact vcX8_put hL _ (loop 8 0 σ rfl (by omega) Ch.rf hT)
theorem sp_feed11 {g : GV} {d : Nat} {a b c : Int64} {L : List Nat} {σ : PS} (hL : Lay σ) (hT : TC σ L) :
    CX11_feed g (d + 1) [.ref 10, .long a, .long b, .long c] σ (fun v s => v = nI (fd a b c 24 L).length ∧ TC s (fd a b c 24 L) ∧ Ch ch1112 noL σ s) := by
  have e : fd a b c 24 L = p8 c 8 (p8 b 8 (p8 a 8 L)) := fd_c a b c L 8 (by omega)
  rw [e]
  refine vcX11_feed hL _ _ _ (Ct.imp (sp_put hL hT) (fun r s1 w => ?_))
  obtain ⟨rfl, h1, c1⟩ := w
  refine ⟨rfl, c1.fr, Ct.imp (sp_put (c1.lay hL) h1) (fun r s3 w => ?_)⟩
  obtain ⟨rfl, h3, c3⟩ := w
  refine ⟨rfl, c3.fr, Ct.imp (sp_put (c3.lay (c1.lay hL)) h3) (fun r s5 w => ?_)⟩
  obtain ⟨rfl, h5, c5⟩ := w
  exact ⟨rfl, c5.fr, h5.1, h5, (c1.trans c3).trans c5⟩
theorem sh7 : ∀ k, k < 24 → 56 - (8 * (nI k &&& 7)) = nI (56 - 8 * (k % 8)) := by decide +kernel
theorem sp_feed12 {g : GV} {d : Nat} {a b c : Int64} {L : List Nat} {σ : PS} (hL : Lay σ) (hl : L.length ≤ 1000) (hT : TM σ L) :
    CX12_feed g d [.ref 179, .long a, .long b, .long c] σ (fun v s => v = nI (fd a b c 24 L).length ∧ TM s (fd a b c 24 L) ∧ mi s 179 0 = 0 ∧ Ch (fun a i => a = 179 ∧ (i = 0 ∨ i = 1) ∨ a = 180) noL σ s) := by
  generalize hP : (fun (v : Int32) (s : PS) => v = nI (fd a b c 24 L).length ∧ TM s (fd a b c 24 L) ∧ mi s 179 0 = 0 ∧ Ch (fun a i => a = 179 ∧ (i = 0 ∨ i = 1) ∨ a = 180) noL σ s) = P
  refine vcX12_feed hL _ _ _ (fun s1 e1 => ?_)
  have c1 : Ch (fun a i => a = 179 ∧ (i = 0 ∨ i = 1) ∨ a = 180) noL σ s1 := by rw [e1]; exact Ch.rf.si (Or.inl ⟨rfl, Or.inl rfl⟩)
  have hT1 : TM s1 L := hT.ch (by rw [e1]; exact Ch.rf.si ⟨rfl, rfl⟩ : Ch (fun a i => a = 179 ∧ i = 0) noL σ s1) (by omega) (fun i => by omega)
  have loop : ∀ (z k : Nat) (τ : PS), z = 24 - k → k ≤ 24 → Ch (fun a i => a = 179 ∧ i = 1 ∨ a = 180) noL s1 τ → TM τ (fd a b c k L) → (fd a b c k L).length ≤ 1000 → VX12_feed g d P 8 [some (.ref 179), some (.long a), none, some (.long b), none, some (.long c), none, some (.int (nI k)), none, none, none] [] τ := by
    intro z
    induction z with
    | zero =>
      intro k τ hz hk ck hTk hlk
      have : k = 24 := by omega
      subst this
      refine vcX12_feed_8 (ck.lay (c1.lay hL)) _ _ _ _ ⟨fun _ => ?_, fun h => absurd (by rw [lit32 24, zLE (by omega) (by omega)]; omega) h⟩
      rw [← hP]
      exact ⟨hTk.1, hTk, by rw [ck.i (by omega)]; exact bad0 e1, c1.trans (ck.mono (fun a k h => by omega) (fun _ _ h => h))⟩
    | succ z ih =>
      intro k τ hz hk ck hTk hlk
      have hLτ := ck.lay (c1.lay hL)
      obtain ⟨t1, t3⟩ := id hTk
      have body : ∀ w : Int64, w = (if k < 8 then a else if k < 16 then b else c) → VX12_feed g d P 39 [some (.ref 179), some (.long a), none, some (.long b), none, some (.long c), none, some (.int (nI k)), none, none, none] [.long w] τ := by
        intro w ew
        obtain ⟨e1', e2⟩ := ch8_is w (k % 8)
        have hh := fun u => ih (k + 1) u (by omega) (by omega)
        rw [fd_s, ← ew] at hh
        have skip : ¬ ((fd a b c k L).length < 1000 ∧ (ch8 w (k % 8) = 10 ∨ 32 ≤ ch8 w (k % 8) ∧ ch8 w (k % 8) ≤ 126)) → ∀ x5 : Int32, x5 = nI k + 1 → VX12_feed g d P 8 [some (.ref 179), some (.long a), none, some (.long b), none, some (.long c), none, some (.int x5), none, none, none] [] τ := by
          intro h x5 e5
          have h2 := hh τ ck
          rw [psh_no h] at h2
          rw [inc e5]
          exact h2 hTk hlk
        have push : ((fd a b c k L).length < 1000 ∧ (ch8 w (k % 8) = 10 ∨ 32 ≤ ch8 w (k % 8) ∧ ch8 w (k % 8) ≤ 126)) → ∀ s8, s8 = si τ 180 (fd a b c k L).length (nI (ch8 w (k % 8))) → ∀ s10, s10 = si s8 179 1 ((mi s8 179 1) + 1) → ∀ x12 : Int32, x12 = nI k + 1 → VX12_feed g d P 8 [some (.ref 179), some (.long a), none, some (.long b), none, some (.long c), none, some (.int x12), none, none, none] [] s10 := by
          intro h s8 e8 s10 e10 x12 e12
          have v8 : mi s8 179 1 = nI (fd a b c k L).length := by rw [e8, mi_si, if_neg (by omega)]; exact t1
          rw [v8, inc rfl] at e10
          have h2 := hh s10 (ck.trans (by rw [e10, e8]; exact (Ch.rf.si (Or.inr rfl)).si (Or.inl ⟨rfl, rfl⟩)))
          rw [psh_yes h] at h2
          rw [inc e12]
          refine h2 ⟨by rw [e10, mi_si, if_pos ⟨rfl, rfl⟩, List.length_append]; rfl, fun i q e => ?_⟩ (by rw [List.length_append, List.length_singleton]; omega)
          rw [e10, mi_si, if_neg (by omega), e8, mi_si]
          rcases snoc_get e with ⟨i1, i2⟩ | ⟨i1, i2⟩
          · rw [if_pos ⟨rfl, i1⟩, i2]
          · rw [if_neg (by omega)]
            exact t3 i q i2
        refine vcX12_feed_39 hLτ _ _ _ _ _ (fun x3 ex => ?_)
        rw [sh7 k (by omega), e1'] at ex
        rw [ex, t1]
        generalize ch8 w (k % 8) = q at *
        rw [lit32 10, lit32 1000, lit32 32, lit32 126, zLE (by omega) (by omega), zEQ (by omega) (by omega), zLT (by omega) (by omega), zLT (by omega) (by omega), zIN (by omega) (by omega), zCL (by omega)]
        refine ⟨fun h1 x5 e5 => skip (by omega) x5 e5, fun h1 => ⟨fun h10 => ⟨by omega, fun s8 e8 s10 e10 x12 e12 => push (by omega) s8 e8 s10 e10 x12 e12⟩, fun h10 => ⟨fun h2 x5 e5 => skip (by omega) x5 e5, fun h2 => ⟨fun h3 x5 e5 => skip (by omega) x5 e5, fun h3 => ⟨by omega, fun s8 e8 s10 e10 x12 e12 => push (by omega) s8 e8 s10 e10 x12 e12⟩⟩⟩⟩⟩
      refine vcX12_feed_8 hLτ _ _ _ _ ⟨fun h => ?_, fun _ => ?_⟩
      · rw [lit32 24, zLE (by omega) (by omega)] at h
        omega
      · rw [lit32 8, lit32 16, zLE (by omega) (by omega), zLE (by omega) (by omega)]
        refine ⟨fun h8 => ⟨fun h16 => body c (by rw [if_neg (by omega), if_neg (by omega)]), fun h16 => body b (by rw [if_neg (by omega), if_pos (by omega)])⟩, fun h8 => body a (by rw [if_pos (by omega)])⟩
  exact loop 24 0 s1 rfl (by omega) Ch.rf hT1 hl
