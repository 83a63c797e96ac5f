/-! ===== how many TOKENS; the class cuts its TAPE ===== -/
def nt (L : List Nat) : Nat := (fnd (fun k => decide (L.length ≤ tb L k)) (L.length + 1)).getD 0
theorem tb_ge (L : List Nat) : ∀ i, i ≤ tb L i ∨ tb L i = L.length := by
  intro i
  induction i with
  | zero => exact Or.inl (Nat.zero_le _)
  | succ i ih =>
    by_cases e : tb L i < L.length
    · have := tb_lt e
      rcases ih with h | h
      · exact Or.inl (by omega)
      · omega
    · right
      rw [tb_s, if_neg e]
      have := tb_le L i
      omega
theorem nt_spec (L : List Nat) : tb L (nt L) = L.length ∧ (∀ j, j < nt L → tb L j < L.length) ∧ nt L ≤ L.length := by
  have h0 : decide (L.length ≤ tb L L.length) = true := by
    rw [decide_eq_true_eq]
    rcases tb_ge L L.length with h | h <;> omega
  obtain ⟨j, hj, h1, h2⟩ := fnd_ex (p := fun k => decide (L.length ≤ tb L k)) (n := L.length + 1) (Nat.lt_succ_self _) h0
  have e : nt L = j := by unfold nt; rw [hj]; rfl
  rw [e]
  have h3 := (fnd_some hj).2.2
  have := tb_le L j
  rw [decide_eq_true_eq] at h2
  exact ⟨by omega, fun i hi => by simpa using h3 i hi, by omega⟩
theorem nt_is {L : List Nat} {k : Nat} (h1 : L.length ≤ tb L k) (h2 : ∀ j, j < k → tb L j < L.length) : k = nt L := by
  obtain ⟨a, b, -⟩ := nt_spec L
  rcases Nat.lt_trichotomy k (nt L) with z | z | z
  · have := b k z; omega
  · exact z
  · have := h2 _ z; omega
theorem tb_after {L : List Nat} : ∀ k, tb L (nt L + k) = L.length := by
  intro k
  induction k with
  | zero => exact (nt_spec L).1
  | succ k ih => rw [← Nat.add_assoc, tb_s, if_neg (by omega)]; exact ih
theorem tb_end {L : List Nat} {i : Nat} (h : nt L ≤ i) : tb L i = L.length := by
  have := tb_after (L := L) (i - nt L)
  rwa [show nt L + (i - nt L) = i by omega] at this
theorem tk_end {L : List Nat} {i : Nat} (h : nt L ≤ i) : tk L (tb L i) = 0 := by unfold tk; rw [tb_end h, if_pos (Nat.le_refl _)]
/-- where the search of the k-th token begins -/
def bh (L : List Nat) (k : Nat) : Nat := if k = 0 then 0 else te L (tb L (k - 1))
theorem bh_tb {L : List Nat} {k : Nat} (h : ∀ j, j < k → tb L j < L.length) : tb L k = nb L (bh L k) ∧ bh L k ≤ L.length := by
  cases k with
  | zero => exact ⟨rfl, Nat.zero_le _⟩
  | succ k =>
    have := h k (by omega)
    unfold bh
    rw [if_neg (by omega), Nat.add_sub_cancel, tb_s, if_pos this]
    exact ⟨rfl, (te_b this).2⟩
/-- all TOKENS as the class holds them -/
def TKA (σ : PS) (L : List Nat) : Prop := mi σ 11 5 = nI (nt L) ∧ (∀ i, i ≤ nt L → mi σ 13 i = nI (tk L (tb L i)) ∧ mi σ 14 i = nI (tb L i)) ∧ ∀ i, i < nt L → ml σ 15 i = lN (tv L (tb L i))
theorem sp_cut {g : GV} {d : Nat} {L : List Nat} {σ : PS} (hS : HSg g) (hL : Lay σ) (hT : TC σ L) :
    CX8_cut g (d + 8) [.ref 11] σ (fun s => TKA s L ∧ Ch chKp chKl σ s) := by
  have hl := hT.2.1
  refine vcX8_cut hL (fun s1 e1 => ?_)
  have c1 : Ch chKp chKl σ s1 := by rw [e1]; exact Ch.rf.si (Or.inl ⟨rfl, rfl⟩)
  have loop : ∀ (z at' k : Nat) (τ : PS), z = L.length - at' → at' ≤ tb L k → Ch chKp chKl σ τ → TK τ L k → mi τ 11 5 = nI k → (∀ j, j < k → tb L j < L.length) → VX8_cut g (d + 8) (fun s => TKA s L ∧ Ch chKp chKl σ s) 9 [some (.ref 11), some (.int (nI (bh L k))), some (.int (nI at'))] [] τ := by
    intro z
    induction z with
    | zero =>
      intro at' k τ hz ha c hK h5 hj
      have hle := tb_le L k
      have hLτ := c.lay hL
      have ek := nt_is (L := L) (k := k) (by omega) hj
      have hTτ := hT.ch c (by omega) (fun i => by omega)
      have hn := (nt_spec L).2.2
      refine vcX8_cut_9 hLτ _ _ ⟨fun _ => ?_, fun h => absurd (by rw [hTτ.1, zLE (by omega) (by omega)]; omega) h⟩
      rw [h5, zIN (by omega) (by omega), zCL (by omega)]
      refine ⟨by omega, fun s4 e4 => ?_⟩
      have v4 : mi s4 11 5 = nI k := by rw [e4, mi_si, if_neg (by omega)]; exact h5
      rw [v4, zIN (by omega) (by omega), zCL (by omega)]
      have w4 : mi s4 11 1 = nI L.length := by rw [e4, mi_si, if_neg (by omega)]; exact hTτ.1
      rw [w4]
      refine ⟨by omega, fun s7 e7 => ⟨⟨by rw [e7, mi_si, if_neg (by omega), v4, ek], fun i hi => ?_, fun i hi => ?_⟩, c.trans (by rw [e7, e4]; exact ((Ch.rf : Ch chKp chKl τ τ).si (Or.inr (Or.inl rfl))).si (Or.inr (Or.inr rfl)))⟩⟩
      · by_cases q : i = k
        · subst q
          rw [ek, tk_end (Nat.le_refl _), (nt_spec L).1, ← ek]
          refine ⟨?_, ?_⟩
          · rw [e7, mi_si, if_neg (by omega), e4, mi_si, if_pos ⟨rfl, rfl⟩]; rfl
          · rw [e7, mi_si, if_pos ⟨rfl, rfl⟩]
        · obtain ⟨t1, t2, -⟩ := hK i (by omega)
          refine ⟨?_, ?_⟩
          · rw [e7, mi_si, if_neg (by omega), e4, mi_si, if_neg (by omega)]; exact t1
          · rw [e7, mi_si, if_neg (by omega), e4, mi_si, if_neg (by omega)]; exact t2
      · rw [e7, ml_si, e4, ml_si]
        exact (hK i (by omega)).2.2
    | succ z ih =>
      intro at' k τ hz ha c hK h5 hj
      have hle := tb_le L k
      have hLτ := c.lay hL
      have hTτ := hT.ch c (by omega) (fun i => by omega)
      obtain ⟨b1, b2⟩ := bh_tb hj
      have hsp := endR_spec blk L b2
      change bh L k ≤ nb L (bh L k) ∧ nb L (bh L k) ≤ L.length ∧ (∀ j, bh L k ≤ j → j < nb L (bh L k) → blk (lc L j) = true) ∧ (nb L (bh L k) < L.length → blk (lc L (nb L (bh L k))) = false) at hsp
      rw [← b1] at hsp
      have skip : at' < tb L k → ∀ x, x = nI at' + 1 → VX8_cut g (d + 8) (fun s => TKA s L ∧ Ch chKp chKl σ s) 9 [some (.ref 11), some (.int (nI (bh L k))), some (.int x)] [] τ := by
        intro h x ex
        rw [inc ex]
        exact ih (at' + 1) k τ (by omega) (by omega) c hK h5 hj
      refine vcX8_cut_9 hLτ _ _ ⟨fun h => ?_, fun _ => ?_⟩
      · rw [hTτ.1, zLE (by omega) (by omega)] at h
        omega
      · rw [zLT (by omega) (by omega), zIN (by omega) (by omega), zCL (by omega)]
        refine ⟨fun h x9 e9 => skip (by omega) x9 e9, fun h => ⟨by omega, ?_⟩⟩
        obtain ⟨d1, d2, -⟩ := hTτ.at (i := at') (by omega)
        rw [d1]
        refine Ct.imp (sp_isBlank hLτ (by omega)) (fun r s w => ?_)
        obtain ⟨v13, rfl, hv, rfl⟩ := w
        refine ⟨_, rfl, Fr.rf, fun hb x14 e14 => ?_, fun hb => ?_⟩
        · rw [i01 hv, Classical.not_not] at hb
          refine skip (Nat.lt_of_le_of_ne ha (fun e => ?_)) x14 e14
          rw [e, hsp.2.2.2 (by omega)] at hb
          cases hb
        · rw [i01 hv] at hb
          have ea : at' = tb L k := by
            refine Classical.byContradiction (fun hne => ?_)
            exact hb (hsp.2.2.1 at' (by omega) (by omega))
          have hb2 : tb L k < L.length := by omega
          have htb := te_b hb2
          have hte := tb_te hb2
          rw [ea]
          have hkl : k ≤ 1000 := by
            rcases tb_ge L k with q | q <;> omega
          refine Ct.imp (sp_endOfRun (d := d + 6) hLτ hTτ hb2) (fun r s16 w => ?_)
          obtain ⟨v17, rfl, rfl, rfl⟩ := w
          refine ⟨_, rfl, Fr.rf, Ct.imp (sp_keep8 (d := d) hS hLτ hTτ h5 hkl hb2 hK) (fun r s18 w => ?_)⟩
          obtain ⟨rfl, k1, k2, c18⟩ := w
          refine ⟨rfl, c18.fr, fun x20 e20 => ?_⟩
          rw [inc e20]
          have := ih (tb L k + 1) (k + 1) s18 (by omega) (by omega) (c.trans c18) k1 k2 (fun j hj2 => by
            by_cases q : j = k
            · rw [q]; exact hb2
            · exact hj j (by omega))
          unfold bh at this
          rw [if_neg (by omega), Nat.add_sub_cancel] at this
          exact this
  have := loop L.length 0 0 s1 rfl (Nat.zero_le _) c1 (fun i hi => by omega) (by rw [e1, mi_si, if_pos ⟨rfl, rfl⟩]; rfl) (fun j hj => by omega)
  exact this
