/-! ===== corner of both ===== -/
theorem inc0 {k : Nat} {x : Int32} (h : x = nI k + 0) : x = nI k := by rw [h]; exact Int32.add_zero _
def corA (E : Nat) (lf q : Nat → Nat) (a w v : Int32) : Prop := (∃ k j, k < E ∧ j < 3 ∧ a = nI k ∧ w = nI j ∧ v = (if j = 0 then nI (lf k) else if j = 1 then nI (tg E lf q k) else nI (cnt (fun i => lf i == lf k) E))) ∨ (∀ k j, k < E → j < 3 → a = nI k → w = nI j → False) ∧ v = -1
theorem sp_corner11 {g : GV} {d E : Nat} {lf qf q : Nat → Nat} {a w : Int32} {σ : PS} (hL : Lay σ) (hE : E ≤ 22) (h0 : mi σ 20 6 = nI E) (hC : Cor σ 81 E lf qf) (hP : Prt E lf) (hR : RQ E lf qf q) :
    CX11_corner g (d + 1) [.ref 10, .int a, .int w] σ (fun v s => corA E lf q a w v ∧ s = σ) := by
  refine vcX11_corner hL _ _ (Ct.imp (sp_hasEdge hL isF20 h0 a) (fun r s1 z => ?_))
  obtain ⟨v, rfl, hv, rfl⟩ := z
  rw [inN_if] at hv
  refine ⟨_, rfl, Fr.rf, fun h => ?_, fun h => ?_⟩
  · rw [i01 hv, Classical.not_not, inN_is (by omega)] at h
    obtain ⟨k, hk, rfl⟩ := h
    have e1 := hC.2.2.1 k hk
    have l1 := (hP k hk).1
    have l2 := (hP k hk).2
    rw [zIN (by omega) (by omega), zCL (by omega)]
    refine ⟨by omega, fun x4 e4 => ?_⟩
    have e4' : x4 = nI (lf k) := e4.trans e1
    refine ⟨fun hw => ⟨Or.inl ⟨k, 0, hk, by omega, rfl, hw, ?_⟩, rfl⟩, fun hw => ?_, fun hw => ?_, fun hw => ⟨Or.inr ⟨fun k' j _ hj _ e => ?_, rfl⟩, rfl⟩⟩
    · rw [if_pos rfl]; exact e4'
    · rw [e4', zIN (by omega) (by omega), zCL (by omega)]
      refine ⟨by omega, Or.inl ⟨k, 1, hk, by omega, rfl, hw, ?_⟩, rfl⟩
      rw [if_neg (by omega), if_pos rfl, hC.2.2.2 (lf k) (by omega), hR (lf k) (by omega) l2]
      rfl
    · rw [e4']
      refine Ct.imp (sp_howMany hL isC81 hC hP (by omega)) (fun r s1 z => ?_)
      obtain ⟨v3, rfl, rfl, rfl⟩ := z
      exact ⟨_, rfl, Fr.rf, Or.inl ⟨k, 2, hk, by omega, rfl, hw, by rw [if_neg (by omega), if_neg (by omega)]⟩, rfl⟩
    · have : j = 0 ∨ j = 1 ∨ j = 2 := by omega
      rcases this with rfl | rfl | rfl
      · exact hw.1 e
      · exact hw.2.1 e
      · exact hw.2.2 e
  · rw [i01 hv] at h
    exact ⟨Or.inr ⟨fun k j hk _ e _ => h ((inN_is (by omega)).mpr ⟨k, hk, e⟩), rfl⟩, rfl⟩
theorem sp_corner12 {g : GV} {d E : Nat} {q : Nat → Nat} {m : Mat} {a w : Int32} {σ : PS} (hL : Lay σ) (hE : E ≤ 22) (h0 : mi σ 179 38 = nI E) (hM : MA σ 209 24 m) (hI : Inv E m) (hq : ∀ i, i < E → mi σ 205 i = nI (q i) ∧ q i ≤ 4) :
    CX12_corner g (d + 2) [.ref 179, .int a, .int w] σ (fun v s => corA E (cl E m E) q a w v ∧ mi s 179 0 = 0 ∧ Ch (fun a k => a = 179 ∧ k = 0 ∨ a = 210) noL σ s) := by
  refine vcX12_corner hL _ _ (fun s1 e1 => ?_)
  have c1 : Ch (fun a k => a = 179 ∧ k = 0 ∨ a = 210) noL σ s1 := by rw [e1]; exact Ch.rf.si (Or.inl ⟨rfl, rfl⟩)
  have hL1 := c1.lay hL
  have z1 : mi s1 179 0 = 0 := by rw [e1, mi_si, if_pos ⟨rfl, rfl⟩]
  have hE1 : mi s1 179 38 = nI E := by rw [c1.i (by omega)]; exact h0
  have hM1 := hM.ch c1 (fun i _ => by omega)
  have hq1 : ∀ i, i < E → mi s1 205 i = nI (q i) ∧ q i ≤ 4 := fun i hi => by rw [c1.i (by omega)]; exact hq i hi
  refine Ct.imp (sp_isEdge hL1 hE1) (fun r s3 z => ?_)
  obtain ⟨v, rfl, hv, rfl⟩ := z
  refine ⟨_, rfl, Fr.rf, fun h => ?_, fun h => ?_⟩
  · rw [i01 hv] at h
    exact ⟨Or.inr ⟨fun k j hk _ e _ => h ((inN_is (by omega)).mpr ⟨k, hk, e⟩), rfl⟩, z1, c1⟩
  rw [i01 hv, Classical.not_not, inN_is (by omega)] at h
  obtain ⟨k, hk, rfl⟩ := h
  refine Ct.imp (sp_within hL1) (fun r s3 z => ?_)
  obtain ⟨v2, rfl, hv2, rfl⟩ := z
  refine ⟨_, rfl, Fr.rf, fun h => ?_, fun h => ?_⟩
  · rw [i01 hv2, Classical.not_not] at h
    obtain ⟨j, j1, j2, rfl⟩ := wBt (lo := 0) (hi := 2) (by omega) (by omega) (Int32.not_lt.mpr h.1) (Int32.not_lt.mpr h.2)
    refine Ct.imp (sp_corners hL1 hE hE1 (kd_209 hL1) (by omega) (by omega) (by omega) (fun e he => hM1 e (by omega)) (fun e b he => ⟨(hI e b he).2.1, (hI e b he).2.2.1⟩) hq1) (fun r t z => ?_)
    obtain ⟨v3, rfl, -, hO, c3⟩ := z
    have hLt := c3.lay hL1
    have c3' : Ch (fun a k => a = 179 ∧ k = 0 ∨ a = 210) noL σ t := c1.trans (c3.mono (fun a k h => Or.inr h) (fun _ _ h => h))
    have zt : mi t 179 0 = 0 := by rw [c3.i (by omega)]; exact z1
    have hEt : mi t 179 38 = nI E := by rw [c3.i (by omega)]; exact hE1
    have hqt : ∀ i, i < E → mi t 205 i = nI (q i) ∧ q i ≤ 4 := fun i hi => by rw [c3.i (by omega)]; exact hq1 i hi
    have hP : Prt E (cl E m E) := Prt.cl (fun e b he => (hI e b he).2.1) E (Nat.le_refl _)
    have ek := hO k hk
    have lk := (hP k hk).1
    refine ⟨_, rfl, c3.fr, ?_⟩
    have loop : ∀ (z i : Nat), z = E - i → i ≤ E → VX12_corner g (d + 2) (fun v s => corA E (cl E m E) q (nI k) (nI j) v ∧ mi s 179 0 = 0 ∧ Ch (fun a k => a = 179 ∧ k = 0 ∨ a = 210) noL σ s) 38 [some (.ref 179), some (.int (nI k)), some (.int (nI j)), some (.int (nI (cnt (fun i => cl E m E i == cl E m E k) i))), some (.int (nI i))] [] t := by
      intro z
      induction z with
      | zero =>
        intro i hz hi
        have : i = E := by omega
        subst this
        refine vcX12_corner_38 hLt _ _ _ _ ⟨fun _ => ?_, fun hc => absurd (by rw [hEt]; simp (disch := omega) only [zLE]; omega) hc⟩
        rw [lit32 0, lit32 1, zEQ (by omega) (by omega), zEQ (by omega) (by omega)]
        refine ⟨fun h0 => ⟨fun h1 => ?_, fun h1 => ?_⟩, fun h0 => ?_⟩
        · exact ⟨Or.inl ⟨k, j, hk, by omega, rfl, rfl, by rw [if_neg h0, if_neg h1]⟩, zt, c3'⟩
        · refine Ct.imp (sp_together hLt hE hEt hO hP hqt hk) (fun r u w => ?_)
          obtain ⟨v4, rfl, rfl, rfl⟩ := w
          exact ⟨_, rfl, Fr.rf, Or.inl ⟨k, j, hk, by omega, rfl, rfl, by rw [if_neg h0, if_pos h1]⟩, zt, c3'⟩
        · rw [zIN (by omega) (by omega), zCL (by omega)]
          exact ⟨by omega, Or.inl ⟨k, j, hk, by omega, rfl, rfl, by rw [if_pos h0]; exact ek⟩, zt, c3'⟩
      | succ z ih =>
        intro i hz hi
        have ei := hO i (by omega)
        have li := (hP i (by omega)).1
        have hc9 := cnt_le (fun i => cl E m E i == cl E m E k) i
        have hh := ih (i + 1) (by omega) (by omega)
        refine vcX12_corner_38 hLt _ _ _ _ ⟨fun hc => ?_, fun _ => ?_⟩
        · rw [hEt] at hc
          simp (disch := omega) only [zLE] at hc
          omega
        · simp (disch := omega) only [zIN, zCL, ei, ek, zEQ]
          refine ⟨by omega, by omega, fun hne x2 e2 x4 e4 => ?_, fun heq x6 e6 x8 e8 => ?_⟩
          · rw [show cnt (fun i => cl E m E i == cl E m E k) (i + 1) = cnt (fun i => cl E m E i == cl E m E k) i by simp [cnt, hne]] at hh
            rw [inc0 e2, inc e4]
            exact hh
          · rw [show cnt (fun i => cl E m E i == cl E m E k) (i + 1) = cnt (fun i => cl E m E i == cl E m E k) i + 1 by simp [cnt, heq]] at hh
            rw [inc e6, inc e8]
            exact hh
    exact loop E 0 rfl (Nat.zero_le _)
  · rw [i01 hv2] at h
    refine ⟨Or.inr ⟨fun k' j _ hj _ e2 => h ?_, rfl⟩, z1, c1⟩
    rw [e2, lit32 0, lit32 2, zLE (by omega) (by omega), zLE (by omega) (by omega)]
    omega
