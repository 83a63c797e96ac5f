/-! ===== the reference's list, worked out once ===== -/
abbrev chI : Nat → Nat → Prop := fun a i => a = 179 ∧ (i = 47 ∨ i = 48 ∨ i = 59) ∨ a = 210 ∨ a = 211 ∨ a = 212
theorem sp_isListed {g : GV} {d E : Nat} {q : Nat → Nat} {σ : PS} (hL : Lay σ) (hE : E ≤ 22) (h0 : mi σ 179 38 = nI E) (hq : ∀ i, i < E → mi σ 205 i = nI (q i) ∧ q i ≤ 4) (hk : ¬ mi σ 179 47 = 0 → EM σ E (gls E q)) :
    CX12_isListed g (d + 25) [.ref 179] σ (fun v s => v = (if (gls E q).length ≤ 2000 then 1 else 0) ∧ EM s E (gls E q) ∧ ¬ mi s 179 47 = 0 ∧ Ch chI noL σ s ∧ (¬ mi σ 179 47 = 0 → s = σ) ∧ (mi σ 179 47 = 0 → mi s 179 59 = 0)) := by
  generalize hPP : (fun (v : Int32) (s : PS) => v = (if (gls E q).length ≤ 2000 then 1 else 0) ∧ EM s E (gls E q) ∧ ¬ mi s 179 47 = 0 ∧ Ch chI noL σ s ∧ (¬ mi σ 179 47 = 0 → s = σ) ∧ (mi σ 179 47 = 0 → mi s 179 59 = 0)) = P
  have ans : ∀ s, EM s E (gls E q) → ¬ mi s 179 47 = 0 → Ch chI noL σ s → (¬ mi σ 179 47 = 0 → s = σ) → (mi σ 179 47 = 0 → mi s 179 59 = 0) → (2000 < mi s 179 48 → P 0 s) ∧ (¬ 2000 < mi s 179 48 → P 1 s) := by
    intro s hT h47 cs h1 h2
    rw [hT.1, lit32 2000, zLT (by omega) (by omega), ← hPP]
    refine ⟨fun h => ⟨?_, hT, h47, cs, h1, h2⟩, fun h => ⟨?_, hT, h47, cs, h1, h2⟩⟩
    · rw [if_neg (by omega)]
    · rw [if_pos (by omega)]
  refine vcX12_isListed hL ⟨fun h => ans σ (hk h) h Ch.rf (fun _ => rfl) (fun h2 => absurd h2 h), fun h s1 e1 s3 e3 s5 e5 => ?_⟩
  have loop : ∀ (z i : Nat) (s : PS), z = 24 - i → i ≤ 24 → Ch chI noL σ s → mi s 179 47 = 1 → mi s 179 59 = 0 → mi s 179 48 = 0 → (∀ e, e < i → mi s 212 e = -1) → VX12_isListed g (d + 25) P 24 [some (.ref 179), some (.int (nI i))] [] s := by
    intro z
    induction z with
    | zero =>
      intro i s hz hi cs h47 h59 h48 hM
      have e : i = 24 := by omega
      subst e
      refine vcX12_isListed_24 (cs.lay hL) _ ⟨fun _ => ?_, fun h => absurd (show (24 : Int32) ≤ nI 24 by decide) h⟩
      have hT : EM s E [] := ⟨by rw [h48]; rfl, fun i m _ h => by cases h⟩
      refine Ct.imp (sp_pairs (g := g) hE 23 d 0 (fun _ => none) [] s (by omega) (cs.lay hL) (by rw [cs.i (by simp [chI])]; exact h0) (fun i hi => by rw [cs.i (by simp [chI])]; exact hq i hi) (fun e he => hM e he) (NP.start E) hT) (fun r s7 w => ?_)
      obtain ⟨rfl, hT2, -, c7⟩ := w
      rw [List.nil_append] at hT2
      refine ⟨rfl, c7.fr, ans s7 hT2 (by rw [c7.i (by simp [chM]), h47]; decide) (cs.trans (c7.mono (fun a i h => by simp only [chM] at h; simp only [chI]; omega) (fun _ _ h => h))) (fun h2 => absurd h h2) (fun _ => by rw [c7.i (by simp [chM])]; exact h59)⟩
    | succ z ih =>
      intro i s hz hi cs h47 h59 h48 hM
      refine vcX12_isListed_24 (cs.lay hL) _ ⟨fun h => ?_, fun _ => ⟨by rw [zIN (by omega) (by omega)]; omega, fun s10 e10 x12 e12 => ?_⟩⟩
      · rw [lit32 24, zLE (by omega) (by omega)] at h
        omega
      · rw [zCL (by omega)] at e10
        rw [inc e12]
        have c10 : Ch (fun a _ => a = 212) noL s s10 := by rw [e10]; exact Ch.rf.si rfl
        refine ih (i + 1) s10 (by omega) (by omega) (cs.trans (c10.mono (fun a i h => by simp only [chI]; omega) (fun _ _ h => h))) (by rw [c10.i (by omega)]; exact h47) (by rw [c10.i (by omega)]; exact h59) (by rw [c10.i (by omega)]; exact h48) (fun e he => ?_)
        rw [e10, mi_si]
        by_cases w : e = i
        · rw [if_pos ⟨rfl, w⟩]
        · rw [if_neg (by omega)]; exact hM e (by omega)
  refine loop 24 0 s5 rfl (by omega) ?_ ?_ ?_ ?_ (fun e he => by omega)
  · rw [e5, e3, e1]; exact ((Ch.rf.si (by simp [chI])).si (by simp [chI])).si (by simp [chI])
  · rw [e5, mi_si, if_neg (by omega), e3, mi_si, if_neg (by omega), e1, mi_si, if_pos ⟨rfl, rfl⟩]
  · rw [e5, mi_si, if_neg (by omega), e3, mi_si, if_pos ⟨rfl, rfl⟩]
  · rw [e5, mi_si, if_pos ⟨rfl, rfl⟩]
theorem inN_neg {a : Int32} {n : Nat} (h : a < 0) : inN a n = false := by
  unfold inN
  rw [decide_eq_false (Int32.not_le.mpr h)]
  rfl
theorem inN_big {a : Int32} {n : Nat} (h : nI n ≤ a) : inN a n = false := by
  unfold inN
  rw [decide_eq_false (Int32.not_lt.mpr h), Bool.and_false]
theorem inN_yes {a : Int32} {n : Nat} (h0 : ¬ a < 0) (h : ¬ nI n ≤ a) : inN a n = true := by
  unfold inN
  rw [decide_eq_true (Int32.not_lt.mp h0), decide_eq_true (Int32.not_le.mp h)]
  rfl
theorem sp_isGluing {g : GV} {d E : Nat} {q : Nat → Nat} {a : Int32} {σ : PS} (hL : Lay σ) (hE : E ≤ 22) (h0 : mi σ 179 38 = nI E) (hq : ∀ i, i < E → mi σ 205 i = nI (q i) ∧ q i ≤ 4) (hk : ¬ mi σ 179 47 = 0 → EM σ E (gls E q)) :
    CX12_isGluing g (d + 26) [.ref 179, .int a] σ (fun v s => v = (if (gls E q).length ≤ 2000 ∧ inN a (gls E q).length = true then 1 else 0) ∧ EM s E (gls E q) ∧ ¬ mi s 179 47 = 0 ∧ Ch chI noL σ s ∧ (¬ mi σ 179 47 = 0 → s = σ) ∧ (mi σ 179 47 = 0 → mi s 179 59 = 0)) := by
  refine vcX12_isGluing hL _ (Ct.imp (sp_isListed hL hE h0 hq hk) (fun r s w => ?_))
  obtain ⟨v, rfl, hv, hT, h47, c, h1, h2⟩ := w
  refine ⟨_, rfl, c.fr, fun hv0 => ⟨?_, hT, h47, c, h1, h2⟩, fun hv1 => ?_⟩
  · rw [i01 hv] at hv0
    rw [if_neg (fun h => hv0 h.1)]
  · rw [i01 hv, Classical.not_not] at hv1
    rw [hT.1, Nat.min_eq_left (by omega)]
    refine ⟨fun hn => ⟨?_, hT, h47, c, h1, h2⟩, fun hn => ⟨fun hg => ⟨?_, hT, h47, c, h1, h2⟩, fun hg => ⟨?_, hT, h47, c, h1, h2⟩⟩⟩
    · rw [inN_neg hn, if_neg (fun h => by cases h.2)]
    · rw [inN_big hg, if_neg (fun h => by cases h.2)]
    · rw [inN_yes hn hg, if_pos ⟨hv1, rfl⟩]
theorem sp_isEdge {g : GV} {d E : Nat} {a : Int32} {σ : PS} (hL : Lay σ) (h0 : mi σ 179 38 = nI E) :
    CX12_isEdge g d [.ref 179, .int a] σ (fun v s => v = (if inN a E = true then 1 else 0) ∧ s = σ) := by
  refine vcX12_isEdge hL _ ?_
  rw [h0]
  refine ⟨fun hn => ⟨?_, rfl⟩, fun hn => ⟨fun hg => ⟨?_, rfl⟩, fun hg => ⟨?_, rfl⟩⟩⟩
  · rw [inN_neg hn, if_neg (by decide)]
  · rw [inN_big hg, if_neg (by decide)]
  · rw [inN_yes hn hg, if_pos rfl]
theorem sp_isCell {g : GV} {d n : Nat} {a : Int32} {σ : PS} (hL : Lay σ) (h0 : mi σ 179 35 = nI n) :
    CX12_isCell g d [.ref 179, .int a] σ (fun v s => v = (if inN a n = true then 1 else 0) ∧ s = σ) := by
  refine vcX12_isCell hL _ ?_
  rw [h0]
  refine ⟨fun hn => ⟨?_, rfl⟩, fun hn => ⟨fun hg => ⟨?_, rfl⟩, fun hg => ⟨?_, rfl⟩⟩⟩
  · rw [inN_neg hn, if_neg (by decide)]
  · rw [inN_big hg, if_neg (by decide)]
  · rw [inN_yes hn hg, if_pos rfl]
theorem sp_within {g : GV} {d : Nat} {a b c : Int32} {σ : PS} (hL : Lay σ) :
    CX12_within g d [.int a, .int b, .int c] σ (fun v s => v = (if b ≤ a ∧ a ≤ c then 1 else 0) ∧ s = σ) := by
  refine vcX12_within hL _ _ _ ⟨fun h => ⟨?_, rfl⟩, fun h => ⟨fun h2 => ⟨?_, rfl⟩, fun h2 => ⟨?_, rfl⟩⟩⟩
  · rw [if_neg (fun q => Int32.not_lt.mpr q.1 h)]
  · rw [if_neg (fun q => Int32.not_lt.mpr q.2 h2)]
  · rw [if_pos ⟨Int32.not_lt.mp h, Int32.not_lt.mp h2⟩]
theorem inN_if {a : Int32} {n : Nat} : (if 0 ≤ a ∧ a < nI n then (1 : Int32) else 0) = if inN a n = true then 1 else 0 := by
  unfold inN
  simp only [Bool.and_eq_true, decide_eq_true_eq]
