/-! ===== the world at the law's start ===== -/
/-- two stores look alike from number 179 up to m -/
def agn (m : Nat) (σ τ : PS) : Prop := ∀ b, 179 ≤ b → b < m → kd σ b = kd τ b ∧ mi σ b = mi τ b ∧ ml σ b = ml τ b ∧ mr σ b = mr τ b
theorem agnK {σ τ : PS} {a : Nat} {q : KD} (h : agn a σ τ) : agn (a + 1) (nK σ a q) (nK τ a q) := fun b hb hb2 => by
  rw [kd_nK, kd_nK, mi_nK, mi_nK, ml_nK, ml_nK, mr_nK, mr_nK]
  by_cases e : b = a
  · refine ⟨?_, ?_, ?_, ?_⟩ <;> rw [if_pos e, if_pos e]
  · obtain ⟨h1, h2, h3, h4⟩ := h b hb (by omega)
    exact ⟨by rw [if_neg e, if_neg e]; exact h1, by rw [if_neg e, if_neg e]; exact h2, by rw [if_neg e, if_neg e]; exact h3, by rw [if_neg e, if_neg e]; exact h4⟩
theorem agnQ {σ τ : PS} {m a i : Nat} {v : Option Nat} (h : agn m σ τ) : agn m (sq σ a i v) (sq τ a i v) := fun b hb hb2 => by
  obtain ⟨h1, h2, h3, h4⟩ := h b hb hb2
  refine ⟨h1, h2, h3, funext fun j => ?_⟩
  rw [mr_sq, mr_sq, h4]
theorem agnI {σ τ : PS} {m a i : Nat} {v : Int32} (h : agn m σ τ) : agn m (si σ a i v) (si τ a i v) := fun b hb hb2 => by
  obtain ⟨h1, h2, h3, h4⟩ := h b hb hb2
  refine ⟨h1, funext fun j => ?_, h3, h4⟩
  rw [mi_si, mi_si, h2]
theorem k12_agn {σ τ : PS} (h : agn 180 σ τ) : agn 234 (k12 σ) (k12 τ) := (agnI (agnQ (agnK (agnQ (agnK (agnQ (agnK (agnQ (agnK (agnQ (agnK (agnQ (agnK (agnQ (agnK (agnQ (agnK (agnQ (agnK (agnQ (agnK (agnQ (agnK (agnQ (agnK (agnQ (agnK (agnQ (agnK (agnQ (agnK (agnQ (agnK (agnQ (agnK (agnQ (agnK (agnQ (agnK (agnQ (agnK (agnQ (agnK (agnQ (agnK (agnQ (agnK (agnQ (agnK (agnQ (agnK (agnQ (agnK (agnQ (agnK (agnQ (agnK (agnQ (agnK (agnQ (agnK (agnQ (agnK (agnQ (agnK (agnQ (agnK (agnQ (agnK (agnQ (agnK (agnQ (agnK (agnQ (agnK (agnQ (agnK (agnQ (agnK (agnQ (agnK (agnQ (agnK (agnQ (agnK (agnQ (agnK (agnQ (agnK (agnQ (agnK (agnQ (agnK (agnQ (agnK (agnQ (agnK (agnQ (agnK (agnQ (agnK (agnQ (agnK (agnQ (agnK (agnQ (agnK (agnQ (agnK h)))))))))))))))))))))))))))))))))))))))))))))))))))))))))))))))))))))))))))))))))))))))))))))))))))))))))))))
/-- the reference's constructor over the empty store -/
def cM : PS := nK eS0 179 (.inl 12)
theorem k12_c (s : PS) : agn 234 (k12 (nK s 179 (.inl 12))) (k12 cM) := k12_agn (agnK (a := 179) (fun b h1 h2 => by omega))
theorem cM_K : ∀ q ∈ layK.take 224, 179 ≤ q.1 → kd (k12 cM) q.1 = some q.2 := by decide +kernel
theorem cM_R : ∀ q ∈ layR, 179 ≤ q.1 → mr (k12 cM) q.1 q.2.1 = some q.2.2 := by decide +kernel
theorem lay_hi : ∀ q ∈ layK.take 224, q.1 < 234 := by decide +kernel
theorem lay_hiR : ∀ q ∈ layR.take 186, q.1 < 234 := by decide +kernel
theorem lay_dK : ∀ q ∈ (layK.take 224).drop 169, 179 ≤ q.1 := by decide +kernel
theorem lay_loK (q : Nat × KD) (hq : q ∈ layK.take 224) (h : q.1 < 179) : q ∈ layK.take 169 := by
  rw [← List.take_append_drop 169 (layK.take 224)] at hq
  rcases List.mem_append.mp hq with h1 | h1
  · rw [List.take_take] at h1
    exact h1
  · have := lay_dK q h1
    omega
theorem lay_dR : ∀ q ∈ (layR.take 186).drop 132, 179 ≤ q.1 := by decide +kernel
theorem lay_loR (q : Nat × Nat × Nat) (hq : q ∈ layR.take 186) (h : q.1 < 179) : q ∈ layR.take 132 := by
  rw [← List.take_append_drop 132 (layR.take 186)] at hq
  rcases List.mem_append.mp hq with h1 | h1
  · rw [List.take_take] at h1
    exact h1
  · have := lay_dR q h1
    omega
theorem lay_tR : layR.take 186 = layR := by decide +kernel
theorem k12_lay {s : PS} (hL : LayZ s) : LayY (k12 (nK s 179 (.inl 12))) := by
  have h0 : ol s (nK s 179 (.inl 12)) := olK olR (by decide)
  refine ⟨fun q hq => ?_, fun q hq => ?_⟩
  · by_cases h : q.1 < 179
    · rw [(k12_ol q.1 h).1, (h0 q.1 h).1]
      exact hL.1 q (lay_loK q hq h)
    · rw [(k12_c s q.1 (by omega) (lay_hi q hq)).1]
      exact cM_K q hq (by omega)
  · by_cases h : q.1 < 179
    · rw [(k12_ol q.1 h).2.2.2, (h0 q.1 h).2.2.2]
      exact hL.2 q (lay_loR q hq h)
    · rw [(k12_c s q.1 (by omega) (lay_hiR q hq)).2.2.2]
      exact cM_R q (by rw [lay_tR] at hq; exact hq) (by omega)
/-- the first figure: one square -/
def rw1 : Nat → Nat := fun r => if r = 0 then 1 else 0
theorem n1 : fN rw1 = 1 := by decide +kernel
theorem x1y1 : fX rw1 0 = 0 ∧ fY rw1 0 = 0 := by decide +kernel
theorem gf1 : GF rw1 4 := by
  have p1 : ∀ j, j < 4 → 0 < j → tr (fN rw1) (fX rw1) (fY rw1) j ≠ (0, 0) := by decide +kernel
  have p2 : ∀ i, i < 4 → ∀ j, j < 4 → tr (fN rw1) (fX rw1) (fY rw1) i = tr (fN rw1) (fX rw1) (fY rw1) j → i = j := by decide +kernel
  have p3 : tr (fN rw1) (fX rw1) (fY rw1) 4 = (0, 0) := by decide +kernel
  have p4 : bhd (fN rw1) (fX rw1) (fY rw1) 0 0 = none := by decide +kernel
  have p5 : 4 = opc (fN rw1) (fX rw1) (fY rw1) := by decide +kernel
  have p6 : itr (fN rw1) (fX rw1) (fY rw1) (fN rw1) = 2 ^ fN rw1 - 1 := by decide +kernel
  have hn := n1
  exact ⟨⟨by omega, by omega, fun i j hi hj _ _ => by omega, ⟨by show 0 < fN rw1; omega, by decide, p4⟩, ⟨by decide, p3, fun j h1 h2 => p1 j h2 h1, fun i j h1 h2 => p2 i h1 j h2⟩, p5, by decide⟩, p6⟩
theorem cS_rows : RowsF cS 17 rw1 := by
  have h : ∀ r, r < 16 → mi cS 17 r = nI (rw1 r) ∧ rw1 r < 65536 := by decide +kernel
  exact h
theorem cS_A : RowsA cS (fun i => 40 + i) := by
  have h : ∀ i, i < 41 → mr cS 39 i = some (40 + i) := by decide +kernel
  exact ⟨fun i hi => ⟨h i (by omega), Nat.le_add_right 40 i, Nat.add_le_add_left hi 40⟩, fun i j _ _ e => Nat.add_left_cancel e⟩
theorem cS_mk : ∀ i, i < 4 → mi cS 168 i = 0 := by decide +kernel
theorem cS_tp : mi cS 11 1 = 0 := by decide +kernel
/-- what stands behind the class's constructor -/
def P11 (s : PS) : Prop := LayZ s ∧ CW s rw1 4 (fun i => 40 + i) (fun _ => nm) 0 0 (fun _ => none) []
theorem kd_17S : kd cS 17 = some (.inr (0, 16)) := by decide +kernel
theorem tk1 {g : GV} {d : Nat} : CX11_takeFigure g (d + 3) [.ref 10, .ref 17] cS P11 := by
  have hn : fN rw1 ≤ 10 := by rw [n1]; decide
  refine Ct.imp (sp_takeFigureZ (d := d) cS_lay (kd_17S) (by decide) (Or.inl (by decide)) cS_rows gf1 cS_A) (fun r s q => ?_)
  obtain ⟨rfl, m1, m2, m3, m4, m5, m6, c1⟩ := q
  refine ⟨rfl, c1.layZ cS_lay, m1, m2, fun q => absurd m3 q, fun q => absurd m4 q, LKo.no m5 hn, UKo.no m6, fun i hi => ⟨fun _ => ?_, fun t ht => nomatch ht⟩, ?_, by decide, fun i c e => nomatch e⟩
  · rw [c1.i (by simp only [chTk, chF, chSt]; omega)]
    exact cS_mk i hi
  · rw [c1.i (by simp only [chTk, chF, chSt]; omega)]
    exact cS_tp
