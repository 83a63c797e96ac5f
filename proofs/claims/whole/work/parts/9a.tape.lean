/-! ===== the class cuts its TAPE into TOKENS ===== -/
theorem sp_isBlank {g : GV} {d c : Nat} {σ : PS} (hL : Lay σ) (hc : c < 1000) : CX8_isBlank g d [.int (nI c)] σ (fun v s => v = (if blk c = true then 1 else 0) ∧ s = σ) := by
  refine vcX8_isBlank hL _ ?_
  rw [lit32 10, lit32 32, zEQ (by omega) (by omega), zEQ (by omega) (by omega)]
  refine ⟨fun h => ⟨by rw [if_pos (blk_is.mpr (Or.inl h))], rfl⟩, fun h => ⟨fun h2 => ⟨by rw [if_neg (fun q => by rw [blk_is] at q; omega)], rfl⟩, fun h2 => ⟨by rw [if_pos (blk_is.mpr (Or.inr h2))], rfl⟩⟩⟩
theorem sp_isLetter {g : GV} {d c : Nat} {σ : PS} (hL : Lay σ) (hc : c < 1000) : CX8_isLetter g d [.int (nI c)] σ (fun v s => v = (if ltr c = true then 1 else 0) ∧ s = σ) := by
  refine vcX8_isLetter hL _ ?_
  rw [lit32 97, lit32 122, zLT (by omega) (by omega), zLT (by omega) (by omega)]
  refine ⟨fun h => ⟨by rw [if_neg (fun q => by rw [ltr_is] at q; omega)], rfl⟩, fun h => ⟨fun h2 => ⟨by rw [if_neg (fun q => by rw [ltr_is] at q; omega)], rfl⟩, fun h2 => ⟨by rw [if_pos (ltr_is.mpr (by omega))], rfl⟩⟩⟩
theorem sp_isDigit {g : GV} {d c : Nat} {σ : PS} (hL : Lay σ) (hc : c < 1000) : CX8_isDigit g d [.int (nI c)] σ (fun v s => v = (if dgt c = true then 1 else 0) ∧ s = σ) := by
  refine vcX8_isDigit hL _ ?_
  rw [lit32 48, lit32 57, zLT (by omega) (by omega), zLT (by omega) (by omega)]
  refine ⟨fun h => ⟨by rw [if_neg (fun q => by rw [dgt_is] at q; omega)], rfl⟩, fun h => ⟨fun h2 => ⟨by rw [if_neg (fun q => by rw [dgt_is] at q; omega)], rfl⟩, fun h2 => ⟨by rw [if_pos (dgt_is.mpr (by omega))], rfl⟩⟩⟩
theorem TC.at {σ : PS} {L : List Nat} (h : TC σ L) {i : Nat} (hi : i < L.length) : mi σ 12 i = nI (lc L i) ∧ lc L i < 127 ∧ (lc L i = 10 ∨ 32 ≤ lc L i) := by
  have e : L[i]? = some (lc L i) := by unfold lc; rw [List.getD_eq_getElem?_getD, List.getElem?_eq_getElem hi]; rfl
  obtain ⟨a, b⟩ := h.2.2 i _ e
  exact ⟨a, by omega, by omega⟩
theorem sp_endOfRun {g : GV} {d b : Nat} {L : List Nat} {σ : PS} (hL : Lay σ) (hT : TC σ L) (hb : b < L.length) :
    CX8_endOfRun g (d + 1) [.ref 11, .int (nI b)] σ (fun v s => v = nI (te L b) ∧ s = σ) := by
  have hl := hT.2.1
  have h0 := hT.1
  obtain ⟨c1, c2, -⟩ := hT.at hb
  have lw : ∀ (z i : Nat), z = L.length - i → i ≤ L.length → (∀ j, b + 1 ≤ j → j < i → ltr (lc L j) = true) → b + 1 ≤ i → ltr (lc L b) = true → VX8_endOfRun g (d + 1) (fun v s => v = nI (te L b) ∧ s = σ) 16 [some (.ref 11), none, some (.int (nI i))] [] σ := by
    intro z
    induction z with
    | zero =>
      intro i hz hi hq hbi hlb
      have : i = L.length := by omega
      refine vcX8_endOfRun_16 hL _ ⟨fun _ => ⟨?_, rfl⟩, fun h => absurd (by rw [h0, zLE (by omega) (by omega)]; omega) h⟩
      congr 1
      unfold te
      rw [if_pos hlb]
      exact (endR_is ltr L hbi hi hq (fun h => by omega)).symm
    | succ z ih =>
      intro i hz hi hq hbi hlb
      obtain ⟨d1, d2, -⟩ := hT.at (i := i) (by omega)
      refine vcX8_endOfRun_16 hL _ ⟨fun h => ?_, fun _ => ?_⟩
      · rw [h0, zLE (by omega) (by omega)] at h
        omega
      · rw [zIN (by omega) (by omega), zCL (by omega), d1]
        refine ⟨by omega, Ct.imp (sp_isLetter hL (by omega)) (fun r s w => ?_)⟩
        obtain ⟨v, rfl, hv, rfl⟩ := w
        refine ⟨_, rfl, Fr.rf, fun h => ⟨?_, rfl⟩, fun h x12 e12 => ?_⟩
        · rw [i01 hv] at h
          congr 1
          unfold te
          rw [if_pos hlb]
          exact (endR_is ltr L hbi hi hq (fun _ => by simpa using h)).symm
        · rw [i01 hv, Classical.not_not] at h
          rw [inc e12]
          refine ih (i + 1) (by omega) (by omega) (fun j h1 h2 => ?_) (by omega) hlb
          by_cases q : j = i
          · rw [q]; exact h
          · exact hq j h1 (by omega)
  have dw : ∀ (z i : Nat), z = L.length - i → i ≤ L.length → (∀ j, b + 1 ≤ j → j < i → dgt (lc L j) = true) → b + 1 ≤ i → ltr (lc L b) = false → dgt (lc L b) = true → VX8_endOfRun g (d + 1) (fun v s => v = nI (te L b) ∧ s = σ) 54 [some (.ref 11), none, some (.int (nI i))] [] σ := by
    intro z
    induction z with
    | zero =>
      intro i hz hi hq hbi hlb hdb
      have : i = L.length := by omega
      refine vcX8_endOfRun_54 hL _ ⟨fun _ => ⟨?_, rfl⟩, fun h => absurd (by rw [h0, zLE (by omega) (by omega)]; omega) h⟩
      congr 1
      unfold te
      rw [if_neg (by rw [hlb]; simp), if_pos hdb]
      exact (endR_is dgt L hbi hi hq (fun h => by omega)).symm
    | succ z ih =>
      intro i hz hi hq hbi hlb hdb
      obtain ⟨d1, d2, -⟩ := hT.at (i := i) (by omega)
      refine vcX8_endOfRun_54 hL _ ⟨fun h => ?_, fun _ => ?_⟩
      · rw [h0, zLE (by omega) (by omega)] at h
        omega
      · rw [zIN (by omega) (by omega), zCL (by omega), d1]
        refine ⟨by omega, Ct.imp (sp_isDigit hL (by omega)) (fun r s w => ?_)⟩
        obtain ⟨v, rfl, hv, rfl⟩ := w
        refine ⟨_, rfl, Fr.rf, fun h => ⟨?_, rfl⟩, fun h x12 e12 => ?_⟩
        · rw [i01 hv] at h
          congr 1
          unfold te
          rw [if_neg (by rw [hlb]; simp), if_pos hdb]
          exact (endR_is dgt L hbi hi hq (fun _ => by simpa using h)).symm
        · rw [i01 hv, Classical.not_not] at h
          rw [inc e12]
          refine ih (i + 1) (by omega) (by omega) (fun j h1 h2 => ?_) (by omega) hlb hdb
          by_cases q : j = i
          · rw [q]; exact h
          · exact hq j h1 (by omega)
  refine vcX8_endOfRun hL _ (fun x1 e1 => ?_)
  rw [zIN (by omega) (by omega), zCL (by omega), c1, inc e1]
  refine ⟨by omega, Ct.imp (sp_isLetter hL (by omega)) (fun r s w => ?_)⟩
  obtain ⟨v, rfl, hv, rfl⟩ := w
  refine ⟨_, rfl, Fr.rf, fun h => ⟨by omega, ?_⟩, fun h => ?_⟩
  · rw [i01 hv] at h
    rw [c1]
    refine Ct.imp (sp_isDigit hL (by omega)) (fun r s w => ?_)
    obtain ⟨v2, rfl, hv2, rfl⟩ := w
    refine ⟨_, rfl, Fr.rf, fun h2 => ⟨?_, rfl⟩, fun h2 => ?_⟩
    · rw [i01 hv2] at h2
      unfold te
      rw [if_neg h, if_neg h2]
    · rw [i01 hv2, Classical.not_not] at h2
      exact dw _ (b + 1) rfl (by omega) (fun j h3 h4 => by omega) (Nat.le_refl _) (by simpa using h) h2
  · rw [i01 hv, Classical.not_not] at h
    exact lw _ (b + 1) rfl (by omega) (fun j h3 h4 => by omega) (Nat.le_refl _) h
theorem kw_lt (v : Nat) : 3 ≤ kw v ∧ kw v ≤ 8 := by unfold kw; split <;> (try split) <;> (try split) <;> (try split) <;> (try split) <;> omega
theorem sp_kindOfWord {g : GV} {d v : Nat} {σ : PS} (hL : Lay σ) (hv : v < 2 ^ 63) : CX8_kindOfWord g d [.long (lN v)] σ (fun r s => r = nI (kw v) ∧ s = σ) := by
  have e : ∀ k : Nat, k < 2 ^ 63 → ((lg_cmp (lN v) (OfNat.ofNat k) = 0) = (v = k)) := fun k hk => propext (by rw [litL, lg0, pk_lEQ hv hk])
  refine vcX8_kindOfWord hL _ ?_
  rw [e 1667591276 (by decide), e 1919247220 (by decide), e 1818588019 (by decide), e 7103860 (by decide), e 1700881256 (by decide)]
  unfold kw
  refine ⟨fun h1 => ⟨fun h2 => ⟨fun h3 => ⟨fun h4 => ⟨fun h5 => ⟨by rw [if_neg h1, if_neg h2, if_neg h3, if_neg h4, if_neg h5]; rfl, rfl⟩, fun h5 => ⟨by rw [if_neg h1, if_neg h2, if_neg h3, if_neg h4, if_pos h5]; rfl, rfl⟩⟩, fun h4 => ⟨by rw [if_neg h1, if_neg h2, if_neg h3, if_pos h4]; rfl, rfl⟩⟩, fun h3 => ⟨by rw [if_neg h1, if_neg h2, if_pos h3]; rfl, rfl⟩⟩, fun h2 => ⟨by rw [if_neg h1, if_pos h2]; rfl, rfl⟩⟩, fun h1 => ⟨by rw [if_pos h1]; rfl, rfl⟩⟩
/-- String.indexOf of the signs: proved where the text's own methods are walked -/
def HSg (g : GV) : Prop := ∀ (d c : Nat) (τ : PS), c < 127 → Lay τ → CX8_isSign g (d + 6) [.int (nI c)] τ (fun v s => v = (if sgC c = true then 1 else 0) ∧ s = τ)
/-- the first k TOKENS as the class keeps them -/
def TK (σ : PS) (L : List Nat) (k : Nat) : Prop := ∀ i, i < k → mi σ 13 i = nI (tk L (tb L i)) ∧ mi σ 14 i = nI (tb L i) ∧ ml σ 15 i = lN (tv L (tb L i))
abbrev chKp : Nat → Nat → Prop := fun a i => a = 11 ∧ i = 5 ∨ a = 13 ∨ a = 14
abbrev chKl : Nat → Nat → Prop := fun a _ => a = 15
theorem v256_le {L : List Nat} {b : Nat} (h : b < L.length) (hl : ltr (lc L b) = true) : ∀ k, k + 1 ≤ tlen L b → vk 256 0 L b (k + 1) + 1 ≤ 123 * 256 ^ k := by
  intro k
  induction k with
  | zero =>
    intro hk
    have c := ltr_is.mp (te_all h hl 0 (by omega))
    rw [vk_s]
    show 0 * 256 + (lc L (b + 0) - 0) + 1 ≤ 123 * 1
    omega
  | succ k ih =>
    intro hk
    have c := ltr_is.mp (te_all h hl (k + 1) (by omega))
    have a := ih (by omega)
    rw [vk_s, Nat.pow_succ]
    generalize 256 ^ k = p at *
    omega
theorem v256_lt {L : List Nat} {b : Nat} (h : b < L.length) (hl : ltr (lc L b) = true) : ∀ k, k ≤ 8 → k ≤ tlen L b → vk 256 0 L b k < 2 ^ 63 := by
  intro k hk hkt
  cases k with
  | zero => exact Nat.two_pow_pos 63
  | succ k =>
    have a := v256_le h hl k hkt
    have e : 256 ^ k ≤ 256 ^ 7 := Nat.pow_le_pow_right (by decide) (by omega)
    have e7 : (256 : Nat) ^ 7 = 72057594037927936 := by decide
    have e63 : (2 : Nat) ^ 63 = 9223372036854775808 := by decide
    rw [e7] at e
    rw [e63]
    omega
theorem sp_keep8 {g : GV} {d i : Nat} {L : List Nat} {σ : PS} (hS : HSg g) (hL : Lay σ) (hT : TC σ L) (hk : mi σ 11 5 = nI i) (hi : i ≤ 1000) (hb : tb L i < L.length) (hTK : TK σ L i) :
    CX8_keep g (d + 7) [.ref 11, .int (nI (tb L i)), .int (nI (te L (tb L i)))] σ (fun s => TK s L (i + 1) ∧ mi s 11 5 = nI (i + 1) ∧ Ch chKp chKl σ s) := by
  have hl := hT.2.1
  generalize hbb : tb L i = b at hb
  obtain ⟨c1, c2, c3⟩ := hT.at hb
  have hte := te_b hb
  generalize hP : (fun (s : PS) => TK s L (i + 1) ∧ mi s 11 5 = nI (i + 1) ∧ Ch chKp chKl σ s) = P
  -- the end: the token is written
  have fin : ∀ (K V : Nat), K = tk L b → V = tv L b → ∀ s11, s11 = si σ 13 i (nI K) → ∀ s14, s14 = si s11 14 (Int32.toNatClampNeg (mi s11 11 5)) (nI b) → ∀ s17, s17 = sj s14 15 (Int32.toNatClampNeg (mi s14 11 5)) (lN V) → ∀ s19, s19 = si s17 11 5 (mi s17 11 5 + 1) → vp_in (mi s11 11 5) 1001 ∧ vp_in (mi s14 11 5) 1001 ∧ P s19 := by
    intro K V eK eV s11 e11 s14 e14 s17 e17 s19 e19
    have v11 : mi s11 11 5 = nI i := by rw [e11, mi_si, if_neg (by omega)]; exact hk
    rw [v11, zCL (by omega)] at e14
    have v14 : mi s14 11 5 = nI i := by rw [e14, mi_si, if_neg (by omega)]; exact v11
    rw [v14, zCL (by omega)] at e17
    have v17 : mi s17 11 5 = nI i := by rw [e17]; exact v14
    rw [v17, inc rfl] at e19
    rw [v11, v14, zIN (by omega) (by omega)]
    refine ⟨by omega, by omega, ?_⟩
    rw [← hP]
    have c19 : Ch chKp chKl σ s19 := by
      rw [e19, e17, e14, e11]
      exact (((((Ch.rf : Ch chKp chKl σ σ).si (Or.inr (Or.inl rfl))).si (Or.inr (Or.inr rfl))).sj rfl).si (Or.inl ⟨rfl, rfl⟩))
    refine ⟨fun j hj => ?_, by rw [e19, mi_si, if_pos ⟨rfl, rfl⟩], c19⟩
    by_cases q : j = i
    · subst q
      rw [hbb]
      refine ⟨?_, ?_, ?_⟩
      · rw [e19, mi_si, if_neg (by omega), e17, mi_sj, e14, mi_si, if_neg (by omega), e11, mi_si, if_pos ⟨rfl, rfl⟩, eK]
      · rw [e19, mi_si, if_neg (by omega), e17, mi_sj, e14, mi_si, if_pos ⟨rfl, rfl⟩]
      · rw [e19, ml_si, e17, ml_sj, if_pos ⟨rfl, rfl⟩, eV]
    · obtain ⟨t1, t2, t3⟩ := hTK j (by omega)
      refine ⟨?_, ?_, ?_⟩
      · rw [e19, mi_si, if_neg (by omega), e17, mi_sj, e14, mi_si, if_neg (by omega), e11, mi_si, if_neg (by omega)]; exact t1
      · rw [e19, mi_si, if_neg (by omega), e17, mi_sj, e14, mi_si, if_neg (by omega), e11, mi_si, if_neg (by omega)]; exact t2
      · rw [e19, ml_si, e17, ml_sj, if_neg (by omega), e14, ml_si, e11, ml_si]; exact t3
  have e0 : vp_in (mi σ 11 5) 1001 := by rw [hk, zIN (by omega) (by omega)]; omega
  have ecl : Int32.toNatClampNeg (mi σ 11 5) = i := by rw [hk, zCL (by omega)]
  -- not a short word, not a short number
  have sign : ∀ (l2 : Int32), (ltr (lc L b) = true → 8 < tlen L b) → (dgt (lc L b) = true → 4 < tlen L b) → CX8_isSign g (d + 6) [.int (nI (lc L b))] σ (fun v s => v = (if sgC (lc L b) = true then 1 else 0) ∧ s = σ) := fun _ _ _ => hS d _ σ c2 hL
  have kS : (ltr (lc L b) = true → 8 < tlen L b) → (dgt (lc L b) = true → 4 < tlen L b) → tk L b = (if sgC (lc L b) = true then lc L b else 1) ∧ tv L b = 0 := by
    intro h1 h2
    unfold tk tv
    rw [if_neg (by omega)]
    by_cases q : ltr (lc L b) = true
    · have := h1 q
      have hs : ¬ sgC (lc L b) = true := fun w => by rw [sgC_is] at w; rw [ltr_is] at q; omega
      rw [if_pos q, if_neg (by omega), if_neg hs, if_pos q, if_neg (by omega)]
      exact ⟨rfl, rfl⟩
    · rw [if_neg q, if_neg q]
      by_cases q2 : dgt (lc L b) = true
      · have := h2 q2
        have hs : ¬ sgC (lc L b) = true := fun w => by rw [sgC_is] at w; rw [dgt_is] at q2; omega
        rw [if_pos q2, if_neg (by omega), if_neg hs, if_pos q2, if_neg (by omega)]
        exact ⟨rfl, rfl⟩
      · rw [if_neg q2, if_neg q2]
        exact ⟨rfl, rfl⟩
  have tl : nI (te L b) - nI b = nI (tlen L b) := pk_sub (by omega)
  have s68 : (ltr (lc L b) = true → 8 < tlen L b) → VX8_keep g (d + 7) P 68 [some (.ref 11), some (.int (nI b)), some (.int (nI (te L b))), some (.long 0), none, none] [] σ := by
    intro h8
    refine vcX8_keep_68 hL _ _ _ ?_
    rw [zIN (by omega) (by omega), zCL (by omega), c1]
    refine ⟨by omega, Ct.imp (sp_isDigit hL (by omega)) (fun r s5 w => ?_)⟩
    obtain ⟨v6, rfl, hv6, rfl⟩ := w
    refine ⟨_, rfl, Fr.rf, fun h => ⟨by omega, ?_⟩, fun h => ?_⟩
    · rw [i01 hv6] at h
      obtain ⟨k1, k2⟩ := kS h8 (fun q => absurd q h)
      rw [c1]
      refine Ct.imp (hS d _ _ c2 hL) (fun r s8 w => ?_)
      obtain ⟨v9, rfl, hv9, rfl⟩ := w
      refine ⟨_, rfl, Fr.rf, ?_⟩
      rw [c1]
      refine ⟨fun h9 => ⟨e0, fun s11 e11 => ?_⟩, fun h9 => ⟨by omega, e0, fun s11 e11 => ?_⟩⟩
      · rw [i01 hv9] at h9
        rw [if_neg h9] at k1
        rw [ecl] at e11
        obtain ⟨f1, f2, f3⟩ : vp_in (mi s11 11 5) 1001 ∧ (∀ s14, s14 = si s11 14 (Int32.toNatClampNeg (mi s11 11 5)) (nI b) → vp_in (mi s14 11 5) 1001) ∧ (∀ s14, s14 = si s11 14 (Int32.toNatClampNeg (mi s11 11 5)) (nI b) → ∀ s17, s17 = sj s14 15 (Int32.toNatClampNeg (mi s14 11 5)) (lN 0) → ∀ s19, s19 = si s17 11 5 (mi s17 11 5 + 1) → P s19) := ⟨(fin 1 0 k1.symm k2.symm s11 e11 _ rfl _ rfl _ rfl).1, fun s14 e14 => (fin 1 0 k1.symm k2.symm s11 e11 s14 e14 _ rfl _ rfl).2.1, fun s14 e14 s17 e17 s19 e19 => (fin 1 0 k1.symm k2.symm s11 e11 s14 e14 s17 e17 s19 e19).2.2⟩
        exact ⟨f1, fun s14 e14 => ⟨f2 s14 e14, fun s17 e17 s19 e19 => f3 s14 e14 s17 e17 s19 e19⟩⟩
      · rw [i01 hv9, Classical.not_not] at h9
        rw [if_pos h9] at k1
        rw [ecl] at e11
        exact ⟨(fin _ 0 k1.symm k2.symm s11 e11 _ rfl _ rfl _ rfl).1, fun s14 e14 => ⟨(fin _ 0 k1.symm k2.symm s11 e11 s14 e14 _ rfl _ rfl).2.1, fun s17 e17 s19 e19 => (fin _ 0 k1.symm k2.symm s11 e11 s14 e14 s17 e17 s19 e19).2.2⟩⟩
    · rw [i01 hv6, Classical.not_not] at h
      have hnl : ltr (lc L b) = false := by
        cases q : ltr (lc L b) with
        | false => rfl
        | true => rw [ltr_is] at q; rw [dgt_is] at h; omega
      rw [tl, lit32 4, zLT (by omega) (by unfold tlen; omega)]
      refine ⟨fun h4 => ⟨by omega, ?_⟩, fun h4 => ?_⟩
      · obtain ⟨k1, k2⟩ := kS h8 (fun _ => h4)
        rw [c1]
        refine Ct.imp (hS d _ _ c2 hL) (fun r s8 w => ?_)
        obtain ⟨v9, rfl, hv9, rfl⟩ := w
        refine ⟨_, rfl, Fr.rf, ?_⟩
        rw [c1]
        refine ⟨fun h9 => ⟨e0, fun s11 e11 => ?_⟩, fun h9 => ⟨by omega, e0, fun s11 e11 => ?_⟩⟩
        · rw [i01 hv9] at h9
          rw [if_neg h9] at k1
          rw [ecl] at e11
          exact ⟨(fin 1 0 k1.symm k2.symm s11 e11 _ rfl _ rfl _ rfl).1, fun s14 e14 => ⟨(fin 1 0 k1.symm k2.symm s11 e11 s14 e14 _ rfl _ rfl).2.1, fun s17 e17 s19 e19 => (fin 1 0 k1.symm k2.symm s11 e11 s14 e14 s17 e17 s19 e19).2.2⟩⟩
        · rw [i01 hv9, Classical.not_not] at h9
          rw [if_pos h9] at k1
          rw [ecl] at e11
          exact ⟨(fin _ 0 k1.symm k2.symm s11 e11 _ rfl _ rfl _ rfl).1, fun s14 e14 => ⟨(fin _ 0 k1.symm k2.symm s11 e11 s14 e14 _ rfl _ rfl).2.1, fun s17 e17 s19 e19 => (fin _ 0 k1.symm k2.symm s11 e11 s14 e14 s17 e17 s19 e19).2.2⟩⟩
      · have eK : 2 = tk L b := by unfold tk; rw [if_neg (by omega), if_neg (by rw [hnl]; simp), if_pos h, if_pos (by omega)]
        have eV : vk 10 48 L b (tlen L b) = tv L b := by unfold tv; rw [if_neg (by rw [hnl]; simp), if_pos h, if_pos (by omega)]
        have loop : ∀ (z k : Nat), z = tlen L b - k → k ≤ tlen L b → VX8_keep g (d + 7) P 90 [some (.ref 11), some (.int (nI b)), some (.int (nI (te L b))), some (.long (lN (vk 10 48 L b k))), none, some (.int (nI (b + k)))] [] s5 := by
          intro z
          induction z with
          | zero =>
            intro k hz hkl
            have : k = tlen L b := by omega
            subst this
            refine vcX8_keep_90 hL _ _ _ _ ⟨fun _ => ?_, fun hc => absurd (by rw [zLE (by omega) (by unfold tlen; omega)]; unfold tlen; omega) hc⟩
            refine ⟨e0, fun s11 e11 => ?_⟩
            rw [ecl] at e11
            exact ⟨(fin 2 _ eK eV s11 e11 _ rfl _ rfl _ rfl).1, fun s14 e14 => ⟨(fin 2 _ eK eV s11 e11 s14 e14 _ rfl _ rfl).2.1, fun s17 e17 s19 e19 => (fin 2 _ eK eV s11 e11 s14 e14 s17 e17 s19 e19).2.2⟩⟩
          | succ z ih =>
            intro k hz hkl
            have hkt : b + k < te L b := by unfold tlen at hz hkl; omega
            obtain ⟨d1, d2, -⟩ := hT.at (i := b + k) (by omega)
            have hd := dgt_is.mp (te_dig hb hnl h k (by omega))
            refine vcX8_keep_90 hL _ _ _ _ ⟨fun hc => ?_, fun _ => ?_⟩
            · rw [zLE (by omega) (by omega)] at hc
              omega
            · rw [zIN (by omega) (by omega), zCL (by omega), d1]
              refine ⟨by omega, fun x89 e89 x91 e91 => ?_⟩
              rw [nI_l (by omega), litL 10, litL 48, lN_mul, lN_add, lN_sub (by omega), show vk 10 48 L b k * 10 + lc L (b + k) - 48 = vk 10 48 L b (k + 1) by rw [vk_s]; omega] at e89
              rw [inc e91, e89]
              exact ih (k + 1) (by omega) (by omega)
        exact loop _ 0 rfl (Nat.zero_le _)
  refine vcX8_keep hL _ _ ?_
  rw [zIN (by omega) (by omega), zCL (by omega), c1]
  refine ⟨by omega, Ct.imp (sp_isLetter hL (by omega)) (fun r s2 w => ?_)⟩
  obtain ⟨v3, rfl, hv3, rfl⟩ := w
  refine ⟨_, rfl, Fr.rf, fun h => ?_, fun h => ?_⟩
  · rw [i01 hv3] at h
    exact s68 (fun q => absurd q h)
  · rw [i01 hv3, Classical.not_not] at h
    rw [tl, lit32 8, zLT (by omega) (by unfold tlen; omega)]
    refine ⟨fun h8 => s68 (fun _ => h8), fun h8 => ?_⟩
    have eK : kw (vk 256 0 L b (tlen L b)) = tk L b := by unfold tk; rw [if_neg (by omega), if_pos h, if_pos (by omega)]
    have eV : vk 256 0 L b (tlen L b) = tv L b := by unfold tv; rw [if_pos h, if_pos (by omega)]
    have loop : ∀ (z k : Nat), z = tlen L b - k → k ≤ tlen L b → VX8_keep g (d + 7) P 25 [some (.ref 11), some (.int (nI b)), some (.int (nI (te L b))), some (.long (lN (vk 256 0 L b k))), none, some (.int (nI (b + k)))] [] s2 := by
      intro z
      induction z with
      | zero =>
        intro k hz hkl
        have : k = tlen L b := by omega
        subst this
        refine vcX8_keep_25 hL _ _ _ _ ⟨fun _ => ?_, fun hc => absurd (by rw [zLE (by omega) (by unfold tlen; omega)]; unfold tlen; omega) hc⟩
        refine Ct.imp (sp_kindOfWord hL (v256_lt hb h _ (by omega) (Nat.le_refl _))) (fun r s59 w => ?_)
        obtain ⟨v60, rfl, rfl, rfl⟩ := w
        refine ⟨_, rfl, Fr.rf, e0, fun s11 e11 => ?_⟩
        rw [ecl] at e11
        exact ⟨(fin _ _ eK eV s11 e11 _ rfl _ rfl _ rfl).1, fun s14 e14 => ⟨(fin _ _ eK eV s11 e11 s14 e14 _ rfl _ rfl).2.1, fun s17 e17 s19 e19 => (fin _ _ eK eV s11 e11 s14 e14 s17 e17 s19 e19).2.2⟩⟩
      | succ z ih =>
        intro k hz hkl
        have hkt : b + k < te L b := by unfold tlen at hz hkl; omega
        obtain ⟨d1, d2, -⟩ := hT.at (i := b + k) (by omega)
        refine vcX8_keep_25 hL _ _ _ _ ⟨fun hc => ?_, fun _ => ?_⟩
        · rw [zLE (by omega) (by omega)] at hc
          omega
        · rw [zIN (by omega) (by omega), zCL (by omega), d1]
          refine ⟨by omega, fun x89 e89 x91 e91 => ?_⟩
          rw [nI_l (by omega), litL 256, lN_mul, lN_add, show vk 256 0 L b k * 256 + lc L (b + k) = vk 256 0 L b (k + 1) by rw [vk_s]; omega] at e89
          rw [inc e91, e89]
          exact ih (k + 1) (by omega) (by omega)
    exact loop _ 0 rfl (Nat.zero_le _)
