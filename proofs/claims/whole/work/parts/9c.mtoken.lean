/-! ===== the reference's next token ===== -/
def rt (L : List Nat) (b : Nat) : Nat := if L.length ≤ b then 0 else if ltr (lc L b) then (if tlen L b ≤ 8 then 1 else 4) else if dgt (lc L b) then (if tlen L b ≤ 4 then 2 else 4) else if sgC (lc L b) then 3 else 4
def cw (L : List Nat) (b : Nat) : Nat := vk 27 96 L b (tlen L b)
/-- the text as the reference reads it -/
def TX (σ : PS) (L : List Nat) : Prop := mi σ 179 3 = nI L.length ∧ L.length ≤ 1000 ∧ ∀ i, i < L.length → mi σ 180 i = nI (lc L i) ∧ lc L i < 127
theorem TX.ch {σ s : PS} {L : List Nat} {Pm Pl : Nat → Nat → Prop} (h : TX σ L) (c : Ch Pm Pl σ s) (h1 : ¬ Pm 179 3) (h2 : ∀ i, ¬ Pm 180 i) : TX s L := ⟨by rw [c.i h1]; exact h.1, h.2.1, fun i hi => by rw [c.i (h2 i)]; exact h.2.2 i hi⟩
/-- the token that the reference stands at -/
def RT (σ : PS) (L : List Nat) (b : Nat) : Prop := mi σ 179 5 = nI b ∧ mi σ 179 4 = nI (if b < L.length then te L b else L.length) ∧ mi σ 179 6 = nI (rt L b) ∧ (rt L b = 1 → ml σ 179 7 = lN (cw L b)) ∧ (rt L b = 2 → mi σ 179 8 = nI (tv L b))
abbrev chNT : Nat → Nat → Prop := fun a i => a = 179 ∧ (4 ≤ i ∧ i ≤ 6 ∨ i = 8)
abbrev chNl : Nat → Nat → Prop := fun a i => a = 179 ∧ i = 7
theorem lc_out {L : List Nat} {p : Nat} (h : L.length ≤ p) : lc L p = 0 := by unfold lc; rw [List.getD_eq_getElem?_getD, List.getElem?_eq_none h]; rfl
theorem lc_lt {σ : PS} {L : List Nat} (h : TX σ L) (p : Nat) : lc L p < 127 := by
  by_cases q : p < L.length
  · exact (h.2.2 p q).2
  · rw [lc_out (by omega)]; decide
theorem sp_signAt {g : GV} {d p : Nat} {L : List Nat} {σ : PS} (hL : Lay σ) (hX : TX σ L) (hp : p ≤ 2000) : CX12_signAt g d [.ref 179, .int (nI p)] σ (fun v s => v = nI (lc L p) ∧ s = σ) := by
  have hl := hX.2.1
  refine vcX12_signAt hL _ ?_
  rw [hX.1, zLE (by omega) (by omega), zIN (by omega) (by omega), zCL (by omega)]
  refine ⟨fun h => ⟨by rw [lc_out h]; rfl, rfl⟩, fun h => ⟨by omega, (hX.2.2 p (by omega)).1, rfl⟩⟩
theorem te_stop {L : List Nat} {b : Nat} (h : b < L.length) : (ltr (lc L b) = true → ltr (lc L (te L b)) = false) ∧ (ltr (lc L b) = false → dgt (lc L b) = true → dgt (lc L (te L b)) = false) := by
  constructor
  · intro hl
    have e : te L b = endR ltr L (b + 1) := by unfold te; rw [if_pos hl]
    have := endR_spec ltr L (i := b + 1) (by omega)
    rw [← e] at this
    by_cases q : te L b < L.length
    · exact this.2.2.2 q
    · rw [lc_out (by omega)]; rfl
  · intro hl hd
    have e : te L b = endR dgt L (b + 1) := by unfold te; rw [if_neg (by rw [hl]; simp), if_pos hd]
    have := endR_spec dgt L (i := b + 1) (by omega)
    rw [← e] at this
    by_cases q : te L b < L.length
    · exact this.2.2.2 q
    · rw [lc_out (by omega)]; rfl
theorem sp_nextToken {g : GV} {d p : Nat} {L : List Nat} {σ : PS} (hL : Lay σ) (hX : TX σ L) (hp : mi σ 179 4 = nI p) (hpl : p ≤ L.length) :
    CX12_nextToken g (d + 1) [.ref 179] σ (fun s => RT s L (nb L p) ∧ Ch chNT chNl σ s) := by
  have hl := hX.2.1
  generalize hP : (fun (s : PS) => RT s L (nb L p) ∧ Ch chNT chNl σ s) = P
  obtain ⟨n1, n2, n3, n4⟩ : p ≤ nb L p ∧ nb L p ≤ L.length ∧ (∀ j, p ≤ j → j < nb L p → blk (lc L j) = true) ∧ (nb L p < L.length → blk (lc L (nb L p)) = false) := endR_spec blk L hpl
  generalize hb : nb L p = b at *
  -- a word
  have word : b < L.length → ltr (lc L b) = true → ∀ (z k : Nat) (τ : PS), z = tlen L b - k → k ≤ tlen L b → Ch chNT chNl σ τ → mi τ 179 5 = nI b → mi τ 179 4 = nI (b + k) → ml τ 179 7 = lN (vk 27 96 L b (min k 8)) → VX12_nextToken g (d + 1) P 109 [some (.ref 179), none] [] τ := by
    intro hbl hlb z
    have htb := te_b hbl
    induction z with
    | zero =>
      intro k τ hz hk c h5 h4 h7
      have : k = tlen L b := by omega
      subst this
      have hLτ := c.lay hL
      have hXτ := hX.ch c (by omega) (fun i => by omega)
      have e4 : b + tlen L b = te L b := by unfold tlen; omega
      rw [e4] at h4
      refine vcX12_nextToken_109 hLτ ?_
      rw [h4]
      have hst := (te_stop hbl).1 hlb
      have h127 := lc_lt hX (te L b)
      have hsub : nI (te L b) - nI b = nI (tlen L b) := pk_sub (by omega)
      have fin : ∀ s : PS, s = si τ 179 6 (nI (if tlen L b ≤ 8 then 1 else 4)) → P s := by
        intro s es
        have hrt : rt L b = if tlen L b ≤ 8 then 1 else 4 := by unfold rt; rw [if_neg (by omega), if_pos hlb]
        rw [← hP]
        refine ⟨⟨by rw [es, mi_si, if_neg (by omega)]; exact h5, by rw [es, mi_si, if_neg (by omega), if_pos hbl]; exact h4, by rw [es, mi_si, if_pos ⟨rfl, rfl⟩, hrt], fun h => ?_, fun h => ?_⟩, c.trans (by rw [es]; exact (Ch.rf : Ch chNT chNl τ τ).si ⟨rfl, Or.inl ⟨by omega, by omega⟩⟩)⟩
        · rw [hrt] at h
          have : tlen L b ≤ 8 := by
            refine Classical.byContradiction (fun q => ?_)
            rw [if_neg q] at h; cases h
          rw [es, ml_si, h7, Nat.min_eq_left this]
          rfl
        · rw [hrt] at h
          split at h <;> cases h
      refine Ct.imp (sp_signAt hLτ hXτ (by omega)) (fun r s69 w => ?_)
      obtain ⟨v70, rfl, rfl, rfl⟩ := w
      refine ⟨_, rfl, Fr.rf, ?_⟩
      rw [h4, h5, hsub, lit32 97, lit32 8, zLT (by omega) (by omega), zLE (by unfold tlen; omega) (by omega)]
      refine ⟨fun _ => ⟨fun h8 s es => fin s (by rw [es, if_pos h8] <;> rfl), fun h8 s es => fin s (by rw [es, if_neg h8] <;> rfl)⟩, fun h97 => ?_⟩
      refine Ct.imp (sp_signAt hLτ hXτ (by omega)) (fun r s75 w => ?_)
      obtain ⟨v76, rfl, rfl, rfl⟩ := w
      refine ⟨_, rfl, Fr.rf, ?_⟩
      rw [h4, h5, hsub, lit32 122, zLT (by omega) (by omega), zLE (by unfold tlen; omega) (by omega)]
      refine ⟨fun _ => ⟨fun h8 s es => fin s (by rw [es, if_pos h8] <;> rfl), fun h8 s es => fin s (by rw [es, if_neg h8] <;> rfl)⟩, fun h122 => ?_⟩
      exfalso
      have : ltr (lc L (te L b)) = true := ltr_is.mpr (by omega)
      rw [hst] at this
      cases this
    | succ z ih =>
      intro k τ hz hk c h5 h4 h7
      have hLτ := c.lay hL
      have hXτ := hX.ch c (by omega) (fun i => by omega)
      have hlt := ltr_is.mp (te_all hbl hlb k (by omega))
      have hbk : b + k < te L b := by unfold tlen at hz hk; omega
      refine vcX12_nextToken_109 hLτ ?_
      rw [h4]
      have hsub : nI (b + k) - nI b = nI k := by rw [pk_sub (by omega)]; congr 1; omega
      refine Ct.imp (sp_signAt hLτ hXτ (by omega)) (fun r s69 w => ?_)
      obtain ⟨v70, rfl, rfl, rfl⟩ := w
      refine ⟨_, rfl, Fr.rf, ?_⟩
      rw [lit32 97, zLT (by omega) (by omega)]
      refine ⟨fun h => by omega, fun _ => ?_⟩
      rw [h4]
      refine Ct.imp (sp_signAt hLτ hXτ (by omega)) (fun r s75 w => ?_)
      obtain ⟨v76, rfl, rfl, rfl⟩ := w
      refine ⟨_, rfl, Fr.rf, ?_⟩
      rw [lit32 122, zLT (by omega) (by omega)]
      refine ⟨fun h => by omega, fun _ => ?_⟩
      rw [h4, h5, hsub, lit32 8, zLE (by omega) (by omega)]
      refine ⟨fun h8 s61 e61 => ?_, fun h8 => ?_⟩
      · rw [inc rfl] at e61
        refine ih (k + 1) s61 (by omega) (by omega) (c.trans (by rw [e61]; exact (Ch.rf : Ch chNT chNl _ _).si ⟨rfl, Or.inl ⟨by omega, by omega⟩⟩)) (by rw [e61, mi_si, if_neg (by omega)]; exact h5) (by rw [e61, mi_si, if_pos ⟨rfl, rfl⟩, Nat.add_assoc]) ?_
        rw [e61, ml_si, h7, show min k 8 = min (k + 1) 8 by omega]
      · refine Ct.imp (sp_signAt hLτ hXτ (by omega)) (fun r s83 w => ?_)
        obtain ⟨v84, rfl, rfl, rfl⟩ := w
        refine ⟨_, rfl, Fr.rf, fun s85 e85 s87 e87 => ?_⟩
        rw [h7, nI_l (by omega), litL 27, litL 96, lN_mul, lN_add, Nat.min_eq_left (by omega), lN_sub (by omega), show vk 27 96 L b k * 27 + lc L (b + k) - 96 = vk 27 96 L b (k + 1) by rw [vk_s]; omega] at e85
        have v85 : mi s85 179 4 = nI (b + k) := by rw [e85]; exact h4
        rw [v85, inc rfl] at e87
        refine ih (k + 1) s87 (by omega) (by omega) (c.trans (by rw [e87, e85]; exact ((Ch.rf : Ch chNT chNl _ _).sj ⟨rfl, rfl⟩).si ⟨rfl, Or.inl ⟨by omega, by omega⟩⟩)) (by rw [e87, mi_si, if_neg (by omega), e85]; exact h5) (by rw [e87, mi_si, if_pos ⟨rfl, rfl⟩, Nat.add_assoc]) ?_
        rw [e87, ml_si, e85, ml_sj, if_pos ⟨rfl, rfl⟩, Nat.min_eq_left (by omega)]
  -- a number
  have numb : b < L.length → ltr (lc L b) = false → dgt (lc L b) = true → ∀ (z k : Nat) (τ : PS), z = tlen L b - k → k ≤ tlen L b → Ch chNT chNl σ τ → mi τ 179 5 = nI b → mi τ 179 4 = nI (b + k) → mi τ 179 8 = nI (vk 10 48 L b (min k 4)) → VX12_nextToken g (d + 1) P 224 [some (.ref 179), none] [] τ := by
    intro hbl hlb hdb z
    have htb := te_b hbl
    have v4 : ∀ k, k ≤ 4 → k ≤ tlen L b → vk 10 48 L b k < 10000 := by
      intro k hk hkt
      have a := vk_lt (m := 10) (o := 48) (L := L) (b := b) (by decide) k (fun j hj => by have := dgt_is.mp (te_dig hbl hlb hdb j (by omega)); omega)
      exact Nat.lt_of_lt_of_le a (Nat.le_trans (Nat.pow_le_pow_right (by decide) hk) (by decide))
    induction z with
    | zero =>
      intro k τ hz hk c h5 h4 h7
      have : k = tlen L b := by omega
      subst this
      have hLτ := c.lay hL
      have hXτ := hX.ch c (by omega) (fun i => by omega)
      have e4 : b + tlen L b = te L b := by unfold tlen; omega
      rw [e4] at h4
      refine vcX12_nextToken_224 hLτ ?_
      rw [h4]
      have hst := (te_stop hbl).2 hlb hdb
      have h127 := lc_lt hX (te L b)
      have hsub : nI (te L b) - nI b = nI (tlen L b) := pk_sub (by omega)
      have fin : ∀ s : PS, s = si τ 179 6 (nI (if tlen L b ≤ 4 then 2 else 4)) → P s := by
        intro s es
        have hrt : rt L b = if tlen L b ≤ 4 then 2 else 4 := by unfold rt; rw [if_neg (by omega), if_neg (by rw [hlb]; simp), if_pos hdb]
        rw [← hP]
        refine ⟨⟨by rw [es, mi_si, if_neg (by omega)]; exact h5, by rw [es, mi_si, if_neg (by omega), if_pos hbl]; exact h4, by rw [es, mi_si, if_pos ⟨rfl, rfl⟩, hrt], fun h => ?_, fun h => ?_⟩, c.trans (by rw [es]; exact (Ch.rf : Ch chNT chNl τ τ).si ⟨rfl, Or.inl ⟨by omega, by omega⟩⟩)⟩
        · rw [hrt] at h
          split at h <;> cases h
        · rw [hrt] at h
          have h4' : tlen L b ≤ 4 := by
            refine Classical.byContradiction (fun q => ?_)
            rw [if_neg q] at h; cases h
          rw [es, mi_si, if_neg (by omega), h7, Nat.min_eq_left h4']
          unfold tv
          rw [if_neg (by rw [hlb]; simp), if_pos hdb, if_pos h4']
      refine Ct.imp (sp_signAt hLτ hXτ (by omega)) (fun r s69 w => ?_)
      obtain ⟨v70, rfl, rfl, rfl⟩ := w
      refine ⟨_, rfl, Fr.rf, ?_⟩
      rw [h4, h5, hsub, lit32 48, lit32 4, zLT (by omega) (by omega), zLE (by unfold tlen; omega) (by omega)]
      refine ⟨fun _ => ⟨fun h8 s es => fin s (by rw [es, if_pos h8] <;> rfl), fun h8 s es => fin s (by rw [es, if_neg h8] <;> rfl)⟩, fun h97 => ?_⟩
      refine Ct.imp (sp_signAt hLτ hXτ (by omega)) (fun r s75 w => ?_)
      obtain ⟨v76, rfl, rfl, rfl⟩ := w
      refine ⟨_, rfl, Fr.rf, ?_⟩
      rw [h4, h5, hsub, lit32 57, zLT (by omega) (by omega), zLE (by unfold tlen; omega) (by omega)]
      refine ⟨fun _ => ⟨fun h8 s es => fin s (by rw [es, if_pos h8] <;> rfl), fun h8 s es => fin s (by rw [es, if_neg h8] <;> rfl)⟩, fun h122 => ?_⟩
      exfalso
      have : dgt (lc L (te L b)) = true := dgt_is.mpr (by omega)
      rw [hst] at this
      cases this
    | succ z ih =>
      intro k τ hz hk c h5 h4 h7
      have hLτ := c.lay hL
      have hXτ := hX.ch c (by omega) (fun i => by omega)
      have hlt := dgt_is.mp (te_dig hbl hlb hdb k (by omega))
      have hbk : b + k < te L b := by unfold tlen at hz hk; omega
      refine vcX12_nextToken_224 hLτ ?_
      rw [h4]
      have hsub : nI (b + k) - nI b = nI k := by rw [pk_sub (by omega)]; congr 1; omega
      refine Ct.imp (sp_signAt hLτ hXτ (by omega)) (fun r s69 w => ?_)
      obtain ⟨v70, rfl, rfl, rfl⟩ := w
      refine ⟨_, rfl, Fr.rf, ?_⟩
      rw [lit32 48, zLT (by omega) (by omega)]
      refine ⟨fun h => by omega, fun _ => ?_⟩
      rw [h4]
      refine Ct.imp (sp_signAt hLτ hXτ (by omega)) (fun r s75 w => ?_)
      obtain ⟨v76, rfl, rfl, rfl⟩ := w
      refine ⟨_, rfl, Fr.rf, ?_⟩
      rw [lit32 57, zLT (by omega) (by omega)]
      refine ⟨fun h => by omega, fun _ => ?_⟩
      rw [h4, h5, hsub, lit32 4, zLE (by omega) (by omega)]
      refine ⟨fun h8 s61 e61 => ?_, fun h8 => ?_⟩
      · rw [inc rfl] at e61
        refine ih (k + 1) s61 (by omega) (by omega) (c.trans (by rw [e61]; exact (Ch.rf : Ch chNT chNl _ _).si ⟨rfl, Or.inl ⟨by omega, by omega⟩⟩)) (by rw [e61, mi_si, if_neg (by omega)]; exact h5) (by rw [e61, mi_si, if_pos ⟨rfl, rfl⟩, Nat.add_assoc]) ?_
        rw [e61, mi_si, if_neg (by omega), h7, show min k 4 = min (k + 1) 4 by omega]
      · refine Ct.imp (sp_signAt hLτ hXτ (by omega)) (fun r s83 w => ?_)
        obtain ⟨v84, rfl, rfl, rfl⟩ := w
        refine ⟨_, rfl, Fr.rf, fun s85 e85 s87 e87 => ?_⟩
        have hv := v4 k (by omega) (by omega)
        rw [h7, Nat.min_eq_left (by omega), lit32 10, pk_mul, nI_add, pk_sub (by omega), show vk 10 48 L b k * 10 + lc L (b + k) - 48 = vk 10 48 L b (k + 1) by rw [vk_s]; omega] at e85
        have v85 : mi s85 179 4 = nI (b + k) := by rw [e85, mi_si, if_neg (by omega)]; exact h4
        rw [v85, inc rfl] at e87
        refine ih (k + 1) s87 (by omega) (by omega) (c.trans (by rw [e87, e85]; exact ((Ch.rf : Ch chNT chNl _ _).si ⟨rfl, Or.inr rfl⟩).si ⟨rfl, Or.inl ⟨by omega, by omega⟩⟩)) (by rw [e87, mi_si, if_neg (by omega), e85, mi_si, if_neg (by omega)]; exact h5) (by rw [e87, mi_si, if_pos ⟨rfl, rfl⟩, Nat.add_assoc]) ?_
        rw [e87, mi_si, if_neg (by omega), e85, mi_si, if_pos ⟨rfl, rfl⟩, Nat.min_eq_left (by omega)]
  -- a sign
  have sign : b < L.length → ltr (lc L b) = false → dgt (lc L b) = false → ∀ (τ : PS), Ch chNT chNl σ τ → mi τ 179 5 = nI b → mi τ 179 4 = nI b → VX12_nextToken g (d + 1) P 322 [some (.ref 179), some (.int (nI (lc L b)))] [] τ := by
    intro hbl hlb hdb τ c h5 h4
    have hLτ := c.lay hL
    have h127 := lc_lt hX b
    have ht : te L b = b + 1 := by unfold te; rw [if_neg (by rw [hlb]; simp), if_neg (by rw [hdb]; simp)]
    refine vcX12_nextToken_322 hLτ _ (fun s29 e29 => ?_)
    rw [h4, inc rfl] at e29
    have fin : ∀ (K : Nat), K = (if sgC (lc L b) = true then 3 else 4) → ∀ s : PS, s = si s29 179 6 (nI K) → P s := by
      intro K hK s es
      have hrt : rt L b = if sgC (lc L b) = true then 3 else 4 := by unfold rt; rw [if_neg (by omega), if_neg (by rw [hlb]; simp), if_neg (by rw [hdb]; simp)]
      rw [← hP]
      refine ⟨⟨by rw [es, mi_si, if_neg (by omega), e29, mi_si, if_neg (by omega)]; exact h5, by rw [es, mi_si, if_neg (by omega), e29, mi_si, if_pos ⟨rfl, rfl⟩, if_pos hbl, ht], by rw [es, mi_si, if_pos ⟨rfl, rfl⟩, hrt, hK], fun h => ?_, fun h => ?_⟩, c.trans (by rw [es, e29]; exact ((Ch.rf : Ch chNT chNl τ τ).si ⟨rfl, Or.inl ⟨by omega, by omega⟩⟩).si ⟨rfl, Or.inl ⟨by omega, by omega⟩⟩)⟩ <;> (rw [hrt] at h; split at h <;> cases h)
    have y : sgC (lc L b) = true → ∀ s : PS, s = si s29 179 6 3 → P s := fun h s es => fin 3 (by rw [if_pos h]) s es
    have n : ¬ sgC (lc L b) = true → ∀ s : PS, s = si s29 179 6 4 → P s := fun h s es => fin 4 (by rw [if_neg h]) s es
    rw [sgC_is] at y n
    rw [lit32 40, lit32 45, lit32 59, lit32 61, lit32 43, zLT (by omega) (by omega), zEQ (by omega) (by omega), zLT (by omega) (by omega), zLT (by omega) (by omega), zLE (by omega) (by omega)]
    exact ⟨fun h1 => ⟨fun h2 => y (by omega), fun h2 => ⟨fun h3 => n (by omega), fun h3 => ⟨fun h4 => n (by omega), fun h4 => y (by omega)⟩⟩⟩, fun h1 => ⟨fun h2 => y (by omega), fun h2 => ⟨fun h3 => y (by omega), fun h3 => ⟨fun h4 => n (by omega), fun h4 => ⟨fun h5 => n (by omega), fun h5 => y (by omega)⟩⟩⟩⟩⟩
  -- behind the blanks
  have disp : ∀ (τ : PS), Ch chNT chNl σ τ → mi τ 179 4 = nI b → ∀ s1, s1 = si τ 179 5 (nI b) → ∀ s3, s3 = sj s1 179 7 0 → ∀ s5, s5 = si s3 179 8 0 → Ch chNT chNl σ s5 ∧ mi s5 179 4 = nI b ∧ mi s5 179 5 = nI b ∧ ml s5 179 7 = lN 0 ∧ mi s5 179 8 = nI 0 := by
    intro τ c h4 s1 e1 s3 e3 s5 e5
    refine ⟨c.trans (by rw [e5, e3, e1]; exact (((Ch.rf : Ch chNT chNl τ τ).si ⟨rfl, Or.inl ⟨by omega, by omega⟩⟩).sj ⟨rfl, rfl⟩).si ⟨rfl, Or.inr rfl⟩), ?_, ?_, ?_, ?_⟩
    · rw [e5, mi_si, if_neg (by omega), e3, mi_sj, e1, mi_si, if_neg (by omega)]; exact h4
    · rw [e5, mi_si, if_neg (by omega), e3, mi_sj, e1, mi_si, if_pos ⟨rfl, rfl⟩]
    · rw [e5, ml_si, e3, ml_sj, if_pos ⟨rfl, rfl⟩]; rfl
    · rw [e5, mi_si, if_pos ⟨rfl, rfl⟩]; rfl
  have goDisp : ∀ (s5 : PS), Ch chNT chNl σ s5 → mi s5 179 4 = nI b → mi s5 179 5 = nI b → ml s5 179 7 = lN 0 → mi s5 179 8 = nI 0 → (¬ (mi s5 179 4) = (mi s5 179 3) → vp_in (mi s5 179 4) 1000 ∧ ∀ x8 : Int32, x8 = mi s5 180 (Int32.toNatClampNeg (mi s5 179 4)) → (x8 < 97 → (x8 < 48 → VX12_nextToken g (d + 1) P 322 [some (.ref 179), some (.int x8)] [] s5) ∧ (¬ x8 < 48 → (57 < x8 → VX12_nextToken g (d + 1) P 322 [some (.ref 179), some (.int x8)] [] s5) ∧ (¬ 57 < x8 → VX12_nextToken g (d + 1) P 224 [some (.ref 179), none] [] s5))) ∧ (¬ x8 < 97 → (122 < x8 → (x8 < 48 → VX12_nextToken g (d + 1) P 322 [some (.ref 179), some (.int x8)] [] s5) ∧ (¬ x8 < 48 → (57 < x8 → VX12_nextToken g (d + 1) P 322 [some (.ref 179), some (.int x8)] [] s5) ∧ (¬ 57 < x8 → VX12_nextToken g (d + 1) P 224 [some (.ref 179), none] [] s5))) ∧ (¬ 122 < x8 → VX12_nextToken g (d + 1) P 109 [some (.ref 179), none] [] s5))) ∧ ((mi s5 179 4) = (mi s5 179 3) → ∀ s10 : PS, s10 = si s5 179 6 0 → P s10) := by
    intro s5 c h4 h5 h7 h8
    have hXs := hX.ch c (by omega) (fun i => by omega)
    rw [h4, hXs.1, zEQ (by omega) (by omega), zIN (by omega) (by omega), zCL (by omega)]
    refine ⟨fun hne => ⟨by omega, fun x8 e8 => ?_⟩, fun he s10 e10 => ?_⟩
    · have hbl : b < L.length := by omega
      rw [(hXs.2.2 b hbl).1] at e8
      have h127 := lc_lt hX b
      rw [e8, lit32 97, lit32 48, lit32 57, lit32 122, zLT (by omega) (by omega), zLT (by omega) (by omega), zLT (by omega) (by omega), zLT (by omega) (by omega)]
      have fl : ¬ (97 ≤ lc L b ∧ lc L b ≤ 122) → ltr (lc L b) = false := fun h => by
        cases q : ltr (lc L b) with
        | false => rfl
        | true => exact absurd (ltr_is.mp q) h
      have fd' : ¬ (48 ≤ lc L b ∧ lc L b ≤ 57) → dgt (lc L b) = false := fun h => by
        cases q : dgt (lc L b) with
        | false => rfl
        | true => exact absurd (dgt_is.mp q) h
      have W := fun hlb => word hbl hlb (tlen L b) 0 s5 rfl (Nat.zero_le _) c h5 (by rw [Nat.add_zero]; exact h4) h7
      have N := fun hlb hdb => numb hbl hlb hdb (tlen L b) 0 s5 rfl (Nat.zero_le _) c h5 (by rw [Nat.add_zero]; exact h4) h8
      have S := fun hlb hdb => sign hbl hlb hdb s5 c h5 h4
      exact ⟨fun h1 => ⟨fun h2 => S (fl (by omega)) (fd' (by omega)), fun h2 => ⟨fun h3 => S (fl (by omega)) (fd' (by omega)), fun h3 => N (fl (by omega)) (dgt_is.mpr (by omega))⟩⟩, fun h1 => ⟨fun h2 => ⟨fun h3 => S (fl (by omega)) (fd' (by omega)), fun h3 => ⟨fun h4 => S (fl (by omega)) (fd' (by omega)), fun h4 => by omega⟩⟩, fun h2 => W (ltr_is.mpr (by omega))⟩⟩
    · have hrt : rt L b = 0 := by unfold rt; rw [if_pos (by omega)]
      rw [← hP]
      refine ⟨⟨by rw [e10, mi_si, if_neg (by omega)]; exact h5, by rw [e10, mi_si, if_neg (by omega), if_neg (by omega), h4, he], by rw [e10, mi_si, if_pos ⟨rfl, rfl⟩, hrt]; rfl, fun h => ?_, fun h => ?_⟩, c.trans (by rw [e10]; exact (Ch.rf : Ch chNT chNl _ _).si ⟨rfl, Or.inl ⟨by omega, by omega⟩⟩)⟩ <;> (rw [hrt] at h; cases h)
  have blanks : ∀ (z q : Nat) (τ : PS), z = b - q → p ≤ q → q ≤ b → Ch chNT chNl σ τ → mi τ 179 4 = nI q → VX12_nextToken g (d + 1) P 0 [some (.ref 179), none] [] τ := by
    intro z
    induction z with
    | zero =>
      intro q τ hz hpq hqb c h4
      have : q = b := by omega
      subst this
      have hLτ := c.lay hL
      have hXτ := hX.ch c (by omega) (fun i => by omega)
      refine vcX12_nextToken_0 hLτ ?_
      rw [h4, hXτ.1, zLE (by omega) (by omega), zIN (by omega) (by omega), zCL (by omega)]
      refine ⟨fun _ s1 e1 s3 e3 s5 e5 => ?_, fun hlt => ⟨by omega, fun h32 => ?_, fun h32 => ⟨by omega, fun h10 s1 e1 s3 e3 s5 e5 => ?_, fun h10 => ?_⟩⟩⟩
      · obtain ⟨a1, a2, a3, a4, a5⟩ := disp τ c h4 s1 e1 s3 e3 s5 e5
        exact goDisp s5 a1 a2 a3 a4 a5
      · exfalso
        rw [(hXτ.2.2 q (by omega)).1, lit32 32, zEQ (by have := lc_lt hX q; omega) (by omega)] at h32
        have := n4 (by omega)
        rw [h32] at this
        cases this
      · obtain ⟨a1, a2, a3, a4, a5⟩ := disp τ c h4 s1 e1 s3 e3 s5 e5
        exact goDisp s5 a1 a2 a3 a4 a5
      · exfalso
        rw [(hXτ.2.2 q (by omega)).1, lit32 10, zEQ (by have := lc_lt hX q; omega) (by omega)] at h10
        have := n4 (by omega)
        rw [h10] at this
        cases this
    | succ z ih =>
      intro q τ hz hpq hqb c h4
      have hLτ := c.lay hL
      have hXτ := hX.ch c (by omega) (fun i => by omega)
      have hblk := blk_is.mp (n3 q hpq (by omega))
      refine vcX12_nextToken_0 hLτ ?_
      rw [h4, hXτ.1, zLE (by omega) (by omega), zIN (by omega) (by omega), zCL (by omega), (hXτ.2.2 q (by omega)).1, lit32 32, lit32 10, zEQ (by have := lc_lt hX q; omega) (by omega), zEQ (by have := lc_lt hX q; omega) (by omega)]
      have nxt : ∀ s13 : PS, s13 = si τ 179 4 (nI q + 1) → VX12_nextToken g (d + 1) P 0 [some (.ref 179), none] [] s13 := by
        intro s13 e13
        rw [inc rfl] at e13
        exact ih (q + 1) s13 (by omega) (by omega) (by omega) (c.trans (by rw [e13]; exact (Ch.rf : Ch chNT chNl _ _).si ⟨rfl, Or.inl ⟨by omega, by omega⟩⟩)) (by rw [e13, mi_si, if_pos ⟨rfl, rfl⟩])
      exact ⟨fun h => by omega, fun _ => ⟨by omega, fun h32 => nxt, fun h32 => ⟨by omega, fun h10 => by omega, fun h10 => nxt⟩⟩⟩
  refine x_entry (L := [some (.ref 179), none]) pn_12 (Nat.le_of_ble_eq_true rfl) ⟨1, rfl⟩ ?_
  exact blanks (b - p) p σ rfl (Nat.le_refl _) n1 Ch.rf hp
