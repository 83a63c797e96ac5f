/-! ===== the reference's glue, choose, undo, redo ===== -/
def MH (σ : PS) (S : Nat → Mat) (at' last : Nat) : Prop := MA σ 209 24 (S at') ∧ mi σ 179 51 = nI at' ∧ mi σ 179 52 = nI (last - at') ∧ (∀ i, i < at' → RW σ 213 i (S i)) ∧ ∀ j, j < last - at' → RW σ 214 j (S (last - j))
theorem MH.ch {σ s : PS} {S : Nat → Mat} {at' last : Nat} {Pm Pl : Nat → Nat → Prop} (h : MH σ S at' last) (c : Ch Pm Pl σ s) (h1 : ¬ Pm 179 51) (h2 : ¬ Pm 179 52) (h9 : ∀ i, ¬ Pm 209 i) (h13 : ∀ i, ¬ Pm 213 i) (h14 : ∀ i, ¬ Pm 214 i) : MH s S at' last :=
  ⟨h.1.ch c (fun i _ => h9 i), by rw [c.i h1]; exact h.2.1, by rw [c.i h2]; exact h.2.2.1, fun i hi => (h.2.2.2.1 i hi).ch c (fun e _ => h13 _), fun j hj => (h.2.2.2.2 j hj).ch c (fun e _ => h14 _)⟩
def newS (S : Nat → Mat) (at' : Nat) (m : Mat) : Nat → Mat := fun i => if i = shD at' then m else shS S at' i
abbrev chGl : Nat → Nat → Prop := fun a k => a = 179 ∧ (k = 0 ∨ k = 51 ∨ k = 52) ∨ a = 209 ∨ a = 210 ∨ a = 213 ∨ a = 214
theorem shD_le {at' : Nat} (h : at' ≤ 40) : 0 < shD at' ∧ shD at' ≤ 40 := by
  unfold shD
  split <;> omega
theorem sp_glue12 {g : GV} {d E at' last : Nat} {q : Nat → Nat} {S : Nat → Mat} {a b : Int32} {σ : PS} (hL : Lay σ) (hE : E ≤ 22) (h0 : mi σ 179 38 = nI E) (hq : ∀ i, i < E → mi σ 205 i = nI (q i) ∧ q i ≤ 4) (hal : at' ≤ last) (hl : last ≤ 40) (hH : MH σ S at' last) (hI : ∀ i, i ≤ last → Inv E (S i)) :
    CX12_glue g (d + 3) [.ref 179, .int a, .int b] σ (fun v s => mi s 179 0 = 0 ∧ Ch chGl noL σ s ∧ RfP E q (S at') a b v ∧ (¬ v = 0 → MH s S at' last) ∧ (v = 0 → ∃ i j, i < E ∧ j < E ∧ i ≠ j ∧ a = nI i ∧ b = nI j ∧ MH s (newS S at' (setp (S at') i j)) (shD at') (shD at'))) := by
  refine vcX12_glue hL _ _ (fun s1 e1 => ?_)
  have c1 : Ch (fun a k => a = 179 ∧ k = 0) noL σ s1 := by rw [e1]; exact Ch.rf.si ⟨rfl, rfl⟩
  have hL1 := c1.lay hL
  have hH1 := hH.ch c1 (by omega) (by omega) (fun i => by omega) (fun i => by omega) (fun i => by omega)
  have z1 : mi s1 179 0 = 0 := by rw [e1, mi_si, if_pos ⟨rfl, rfl⟩]
  refine Ct.imp (sp_refused (q := q) (d := d) hL1 hE (by rw [c1.i (by omega)]; exact h0) (fun k hk => by rw [c1.i (by omega)]; exact hq k hk) hH1.1 (hI at' hal)) (fun r s3 w => ?_)
  obtain ⟨v, rfl, hv, hM3, c3⟩ := w
  have hH3 : MH s3 S at' last := ⟨hM3, by rw [c3.i (by omega)]; exact hH1.2.1, by rw [c3.i (by omega)]; exact hH1.2.2.1, fun i hi => (hH1.2.2.2.1 i hi).ch c3 (fun e _ => by omega), fun j hj => (hH1.2.2.2.2 j hj).ch c3 (fun e _ => by omega)⟩
  have c03 : Ch chGl noL σ s3 := (c1.mono (fun a k h => by simp only [chGl]; omega) (fun _ _ h => h)).trans (c3.mono (fun a k h => by simp only [chGl]; omega) (fun _ _ h => h))
  have z3 : mi s3 179 0 = 0 := by rw [c3.i (by omega)]; exact z1
  refine ⟨_, rfl, c3.fr, fun hle => ?_, fun hgt => ⟨z3, c03, hv, fun _ => hH3, fun h => absurd (by rw [h]; decide) hgt⟩⟩
  have hrf : ∀ i j, rfn E q (S at') i j ≤ 5 := fun i j => by unfold rfn; repeat (first | omega | split)
  have hv2 : ∃ i j, i < E ∧ j < E ∧ i ≠ j ∧ a = nI i ∧ b = nI j ∧ v = nI (rfn E q (S at') i j) := by
    rcases hv with h | ⟨-, hv1⟩
    · exact h
    · rw [hv1] at hle; exact absurd hle (by decide)
  obtain ⟨i, j, hi, hj, hij, rfl, rfl, hvv⟩ := hv2
  have hr0 : rfn E q (S at') i j = 0 := by
    rw [hvv, lit32 0, zLE (by have := hrf i j; omega) (by omega)] at hle
    omega
  have h00 : S at' i = none ∧ S at' j = none := by
    unfold rfn at hr0
    by_cases w : S at' i ≠ none ∨ S at' j ≠ none
    · rw [if_pos w] at hr0; omega
    · exact ⟨Classical.not_not.mp (fun z => w (Or.inl z)), Classical.not_not.mp (fun z => w (Or.inr z))⟩
  refine Ct.imp (sp_remembers (d := d + 1) (c03.lay hL) (show at' ≤ 40 by omega) hH3.2.1 hM3 hH3.2.2.2.1 (fun k e x hk hx => by have := (hI k (by omega) e x hx).2.1; omega)) (fun r s5 w => ?_)
  obtain ⟨rfl, h51, hrow, c5⟩ := w
  refine ⟨rfl, c5.fr, fun s7 e7 => ?_⟩
  simp (disch := omega) only [zIN, zCL]
  refine ⟨by omega, fun s10 e10 => ⟨by omega, fun s13 e13 => ?_⟩⟩
  have c13 : Ch (fun a k => a = 179 ∧ k = 52 ∨ a = 209) noL s5 s13 := by rw [e13, e10, e7]; exact ((Ch.rf.si (Or.inl ⟨rfl, rfl⟩)).si (Or.inr rfl)).si (Or.inr rfl)
  have cc : Ch chGl noL σ s13 := (c03.trans (c5.mono (fun a k h => by simp only [chRem] at h; simp only [chGl]; omega) (fun _ _ h => h))).trans (c13.mono (fun a k h => by simp only [chGl]; omega) (fun _ _ h => h))
  have hD := shD_le (show at' ≤ 40 by omega)
  refine ⟨by rw [c13.i (by omega), c5.i (by simp [chRem])]; exact z3, cc, Or.inl ⟨i, j, hi, hj, hij, rfl, rfl, by rw [hr0]; rfl⟩, fun h => absurd trivial h, fun _ => ⟨i, j, hi, hj, hij, rfl, rfl, ?_, ?_, ?_, fun k hk => ?_, fun k hk => by omega⟩⟩
  · intro e he
    show mi s13 209 e = oI (newS S at' (setp (S at') i j) (shD at') e)
    rw [show newS S at' (setp (S at') i j) (shD at') = setp (S at') i j from if_pos rfl]
    have old : mi s5 209 e = oI (S at' e) := by rw [c5.i (by simp [chRem])]; exact hM3 e he
    unfold setp
    rw [e13, mi_si, e10, mi_si]
    by_cases q1 : e = i
    · rw [if_pos q1, if_neg (by omega), if_pos ⟨rfl, q1⟩]; rfl
    · rw [if_neg q1]
      by_cases q2 : e = j
      · rw [if_pos q2, if_pos ⟨rfl, q2⟩]; rfl
      · rw [if_neg q2, if_neg (by omega), if_neg (by omega), e7, mi_si, if_neg (by omega)]
        exact old
  · rw [c13.i (by omega)]; exact h51
  · rw [e13, mi_si, if_neg (by omega), e10, mi_si, if_neg (by omega), e7, mi_si, if_pos ⟨rfl, rfl⟩, Nat.sub_self]; rfl
  · rw [show newS S at' (setp (S at') i j) k = shS S at' k from if_neg (by omega)]
    exact (hrow k hk).ch c13 (fun e _ => by omega)
theorem sp_undo12 {g : GV} {d E at' last : Nat} {S : Nat → Mat} {σ : PS} (hL : Lay σ) (hE : E ≤ 22) (hal : at' ≤ last) (hl : last ≤ 40) (hH : MH σ S at' last) (hI : ∀ i, i ≤ last → Inv E (S i)) :
    CX12_undo g (d + 1) [.ref 179] σ (fun v s => mi s 179 0 = 0 ∧ Ch chGl noL σ s ∧ v = (if 0 < at' then 1 else 0) ∧ MH s S (at' - 1) last) := by
  refine vcX12_undo hL (fun s1 e1 => ?_)
  have c1 : Ch (fun a k => a = 179 ∧ k = 0) noL σ s1 := by rw [e1]; exact Ch.rf.si ⟨rfl, rfl⟩
  have hL1 := c1.lay hL
  have hH1 := hH.ch c1 (by omega) (by omega) (fun i => by omega) (fun i => by omega) (fun i => by omega)
  have z1 : mi s1 179 0 = 0 := by rw [e1, mi_si, if_pos ⟨rfl, rfl⟩]
  obtain ⟨m1, m2, m3, m4, m5⟩ := id hH1
  rw [m2, m3, lit32 0, zEQ (by omega) (by omega)]
  refine ⟨fun hne => ?_, fun h0 => ⟨z1, c1.mono (fun a k h => by simp only [chGl]; omega) (fun _ _ h => h), by rw [if_neg (by omega)], by rw [h0]; rw [h0] at hH1; exact hH1⟩⟩
  refine Ct.imp (sp_keeps (m := S at') hL1 (kd_214 hL1) (by omega) (show last - at' < 40 by omega) m1 (fun e k hk => by have := (hI at' hal e k hk).2.1; omega)) (fun r s3 w => ?_)
  obtain ⟨rfl, hr3, c3⟩ := w
  refine ⟨rfl, c3.fr, fun s5 e5 s7 e7 => ?_⟩
  rw [c3.i (by simp [chRow]), m3, inc rfl] at e5
  have v51 : mi s5 179 51 = nI at' := by rw [e5, mi_si, if_neg (by omega), c3.i (by simp [chRow])]; exact m2
  rw [v51, lit32 1, pk_sub (by omega)] at e7
  have w51 : mi s7 179 51 = nI (at' - 1) := by rw [e7, mi_si, if_pos ⟨rfl, rfl⟩]
  have c7 : Ch (fun a k => a = 179 ∧ (k = 51 ∨ k = 52)) noL s3 s7 := by rw [e7, e5]; exact (Ch.rf.si ⟨rfl, Or.inr rfl⟩).si ⟨rfl, Or.inl rfl⟩
  rw [w51]
  have hL7 := c7.lay (c3.lay hL1)
  have r213 : ∀ i, i < at' → RW s7 213 i (S i) := fun i hi => ((m4 i hi).ch c3 (fun e _ => by simp [chRow])).ch c7 (fun e _ => by omega)
  refine Ct.imp (sp_brings (m := S (at' - 1)) hL7 (kd_213 hL7) (by omega) (by omega) (r213 (at' - 1) (by omega))) (fun r s9 w => ?_)
  obtain ⟨rfl, hM9, c9⟩ := w
  refine ⟨rfl, c9.fr, ?_, ?_, by rw [if_pos (by omega)], hM9, ?_, ?_, fun i hi => (r213 i (by omega)).ch c9 (fun e _ => by omega), fun j hj => ?_⟩
  · rw [c9.i (by omega), c7.i (by omega), c3.i (by simp [chRow])]; exact z1
  · exact (((c1.mono (fun a k h => by simp only [chGl]; omega) (fun _ _ h => h)).trans (c3.mono (fun a k h => by simp only [chRow] at h; simp only [chGl]; omega) (fun _ _ h => h))).trans (c7.mono (fun a k h => by simp only [chGl]; omega) (fun _ _ h => h))).trans (c9.mono (fun a k h => by simp only [chGl]; omega) (fun _ _ h => h))
  · rw [c9.i (by omega)]; exact w51
  · rw [c9.i (by omega), e7, mi_si, if_neg (by omega), e5, mi_si, if_pos ⟨rfl, rfl⟩]
    congr 1
    omega
  · by_cases w : j = last - at'
    · rw [w, show last - (last - at') = at' by omega]
      exact (hr3.ch c7 (fun e _ => by omega)).ch c9 (fun e _ => by omega)
    · exact (((m5 j (by omega)).ch c3 (fun e he => by simp only [chRow]; omega)).ch c7 (fun e _ => by omega)).ch c9 (fun e _ => by omega)
