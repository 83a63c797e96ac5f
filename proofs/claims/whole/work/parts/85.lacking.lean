/-! ===== lacking and beyond of both ===== -/
theorem sp_isBody12 {g : GV} {d E : Nat} {m : Mat} {σ : PS} (hL : Lay σ) (hE : E ≤ 22) (h0 : mi σ 179 38 = nI E) (hM : MA σ 209 24 m) (hI : Inv E m) :
    CX12_isBody g (d + 1) [.ref 179] σ (fun v s => v = (if gcn E m = E then 1 else 0) ∧ s = σ) := by
  refine vcX12_isBody hL (Ct.imp (sp_pairsNow hL hE h0 hM hI) (fun r s w => ?_))
  obtain ⟨v, rfl, rfl, rfl⟩ := w
  have hc := cnt_le (opn1 m) E
  have h2 := gcn_opn hI
  refine ⟨_, rfl, Fr.rf, ?_⟩
  rw [h0, lit32 2, pk_mul, zEQ (by omega) (by omega)]
  refine ⟨fun h => ⟨?_, rfl⟩, fun h => ⟨?_, rfl⟩⟩
  · rw [if_neg (by omega)]
  · rw [if_pos (by omega)]
theorem sp_isB11 {g : GV} {d E : Nat} {m : Mat} {σ : PS} (hL : Lay σ) (hE : E ≤ 22) (h1 : mi σ 10 13 = nI (cnt (opn1 m) E)) (h2 : mi σ 20 6 = nI E) (hI : Inv E m) :
    CX11_isBody g d [.ref 10] σ (fun v s => v = (if gcn E m = E then 1 else 0) ∧ s = σ) := by
  have hc := cnt_le (opn1 m) E
  have h3 := gcn_opn hI
  refine Ct.imp (sp_isBody11 hL h1 h2 (by omega) (by omega)) (fun r s w => ?_)
  obtain ⟨v, rfl, hv, rfl⟩ := w
  refine ⟨_, rfl, ?_, rfl⟩
  rw [hv, h3]
theorem sub4 {j : Nat} (h : j ≤ 4) : (4 : Int32) - nI j = nI (4 - j) := by rw [lit32 4, pk_sub h]
theorem full_mt {E : Nat} {m : Mat} (hg : gcn E m = E) : ∀ e, e < E → m e = some (mt m e) := by
  intro e he
  have := gcn_full.mp hg e he
  obtain ⟨b, hb⟩ := Option.isSome_iff_exists.mp this
  rw [hb, mt_is hb]
def lackA (n : Nat) (x y : Nat → Nat) (E : Nat) (m : Mat) (a v : Int32) : Prop := (gcn E m = E ∧ ∃ j, 1 ≤ j ∧ j ≤ 3 ∧ a = nI j ∧ v = nI (cnt (fun i => cl E m E i == i && cq E m (qt n x y E) E i == 4 - j) E)) ∨ (¬ (gcn E m = E ∧ ∃ j, 1 ≤ j ∧ j ≤ 3 ∧ a = nI j) ∧ v = -1)
theorem sp_lacking11 {g : GV} {d n E : Nat} {x y : Nat → Nat} {m : Mat} {a : Int32} {σ : PS} (hL : Lay σ) (hE : E ≤ 22) (h1 : mi σ 10 13 = nI (cnt (opn1 m) E)) (h2 : mi σ 20 6 = nI E) (hI : Inv E m) (hC : Cor σ 81 E (cl E m E) (cq E m (qt n x y E) E)) (h4 : A4 E (cl E m E) (qt n x y E)) :
    CX11_lacking g (d + 1) [.ref 10, .int a] σ (fun v s => lackA n x y E m a v ∧ s = σ) := by
  have hlt : ∀ e b, m e = some b → b < E := fun e b h => (hI e b h).2.1
  have hP : Prt E (cl E m E) := Prt.cl hlt E (Nat.le_refl _)
  have hq := cq_ok hlt (fun i _ => qt_le n x y E i) h4 E (Nat.le_refl _)
  refine vcX11_lacking hL _ (Ct.imp (sp_isB11 hL hE h1 h2 hI) (fun r s w => ?_))
  obtain ⟨v, rfl, hv, rfl⟩ := w
  refine ⟨_, rfl, Fr.rf, fun h => ?_, fun h => ⟨fun z => ?_, fun z => ⟨fun z3 => ?_, fun z3 => ?_⟩⟩⟩
  · rw [i01 hv] at h
    exact ⟨Or.inr ⟨fun w => h w.1, rfl⟩, rfl⟩
  · refine ⟨Or.inr ⟨fun w => ?_, rfl⟩, rfl⟩
    obtain ⟨-, j, j1, j2, rfl⟩ := w
    rw [lit32 1, zLT (by omega) (by omega)] at z
    omega
  · rw [i01 hv, Classical.not_not] at h
    obtain ⟨j, j1, j2, rfl⟩ := wBt (lo := 1) (hi := 3) (by omega) (by omega) z (Int32.not_lt.mpr z3)
    rw [sub4 (show j ≤ 4 by omega)]
    refine Ct.imp (sp_howManyOf hL isC81 hC hP (fun i hi => by have := hq i hi; omega) (by omega)) (fun r s w => ?_)
    obtain ⟨v3, rfl, rfl, rfl⟩ := w
    exact ⟨_, rfl, Fr.rf, Or.inl ⟨h, j, j1, j2, rfl, rfl⟩, rfl⟩
  · refine ⟨Or.inr ⟨fun w => z3 ?_, rfl⟩, rfl⟩
    obtain ⟨-, j, j1, j2, rfl⟩ := w
    rw [lit32 3, zLE (by omega) (by omega)]
    omega
theorem tn_le {n : Nat} {x y : Nat → Nat} {E q : Nat} {m : Nat → Nat} (hF : VF n x y E) (hm : Mt E m) (hq : q < 4 * n) : tn n x y E m q ≤ 40 := by
  have := (tn_is hF hm hq).2.1
  have := hF.2.1
  omega
theorem sp_lacking12 {g : GV} {d n E : Nat} {x y : Nat → Nat} {m : Mat} {a : Int32} {σ : PS} (hL : Lay σ) (hF : MF σ n x y E) (hV : VF n x y E) (hM : MA σ 209 24 m) (hI : Inv E m) (h4 : A4 E (cl E m E) (qt n x y E)) :
    CX12_lacking g (d + 3) [.ref 179, .int a] σ (fun v s => lackA n x y E m a v ∧ mi s 179 0 = 0 ∧ Ch (fun a k => a = 179 ∧ k = 0 ∨ a = 215) noL σ s) := by
  have hE := hV.2.2.2.2.2.2
  have hn := hV.2.1
  have hlt : ∀ e b, m e = some b → b < E := fun e b h => (hI e b h).2.1
  refine vcX12_lacking hL _ (fun s1 e1 => ?_)
  have c1 : Ch (fun a k => a = 179 ∧ k = 0 ∨ a = 215) noL σ s1 := by rw [e1]; exact Ch.rf.si (Or.inl ⟨rfl, rfl⟩)
  have hL1 := c1.lay hL
  have z1 : mi s1 179 0 = 0 := by rw [e1, mi_si, if_pos ⟨rfl, rfl⟩]
  have hM1 := hM.ch c1 (fun i _ => by omega)
  have hF1 := hF.ch c1 (by omega) (by omega) (fun a i h1 h2 => by omega)
  refine Ct.imp (sp_within hL1) (fun r s3 w => ?_)
  obtain ⟨v, rfl, hv, rfl⟩ := w
  refine ⟨_, rfl, Fr.rf, fun h => ?_, fun h => ?_⟩
  · rw [i01 hv] at h
    refine ⟨Or.inr ⟨fun w => h ?_, rfl⟩, z1, c1⟩
    obtain ⟨-, j, j1, j2, rfl⟩ := w
    rw [lit32 1, lit32 3, zLE (by omega) (by omega), zLE (by omega) (by omega)]
    omega
  rw [i01 hv, Classical.not_not] at h
  obtain ⟨j, j1, j2, rfl⟩ := wBt (lo := 1) (hi := 3) (by omega) (by omega) (Int32.not_lt.mpr h.1) (Int32.not_lt.mpr h.2)
  refine Ct.imp (sp_isBody12 hL1 hE hF1.2.1 hM1 hI) (fun r s3 w => ?_)
  obtain ⟨v2, rfl, hv2, rfl⟩ := w
  refine ⟨_, rfl, Fr.rf, fun hb => ?_, fun hb => ?_⟩
  · rw [i01 hv2, Classical.not_not] at hb
    have hm := hI.mt hb
    have hfm := full_mt hb
    refine Ct.imp (sp_laysBody (t := 0) (m := mt m) hL1 hF1 hV hm (by omega) (Or.inl ⟨rfl, fun e he => by rw [hM1 e (by omega), hfm e he]; rfl⟩)) (fun r t w => ?_)
    obtain ⟨rfl, hY, c3⟩ := w
    have hLt := c3.lay hL1
    have c3' : Ch (fun a k => a = 179 ∧ k = 0 ∨ a = 215) noL σ t := c1.trans (c3.mono (fun a k h => Or.inr h.1) (fun _ _ h => h))
    have zt : mi t 179 0 = 0 := by rw [c3.i (by unfold chY; omega)]; exact z1
    have h35 : mi t 179 35 = nI n := by rw [c3.i (by unfold chY; omega)]; exact hF1.1.1
    have hB : ∀ q, q < 4 * n → bdy n x y E (mt m) q < 4 * n ∧ mi t 215 q = nI (bdy n x y E (mt m) q) := fun q hq => ⟨bdy_lt hV hq, by have := hY q hq; rwa [Nat.zero_add] at this⟩
    refine ⟨rfl, c3.fr, ?_⟩
    have loop : ∀ (z i : Nat), z = 4 * n - i → i ≤ 4 * n → VX12_lacking g (d + 3) (fun v s => lackA n x y E m (nI j) v ∧ mi s 179 0 = 0 ∧ Ch (fun a k => a = 179 ∧ k = 0 ∨ a = 215) noL σ s) 33 [some (.ref 179), some (.int (nI j)), some (.int (nI (cnt (fun q => tn n x y E (mt m) q == 4 - j) i))), some (.int (nI i))] [] t := by
      intro z
      induction z with
      | zero =>
        intro i hz hi
        have : i = 4 * n := by omega
        subst this
        refine vcX12_lacking_33 hLt _ _ _ ⟨fun _ => ?_, fun hc => absurd (by rw [h35, lit32 4, pk_mul]; simp (disch := omega) only [zLE]; omega) hc⟩
        rw [sub4 (show j ≤ 4 by omega)]
        have hc := cnt_le (fun q => tn n x y E (mt m) q == 4 - j) (4 * n)
        rw [zDIV (by omega) (by omega) (by omega), lack_cnt (t := 4 - j) hV hm hfm (cq_RQ hlt E (Nat.le_refl _)) (by omega), Nat.mul_div_cancel_left _ (by omega), lit32 0, zEQ (by omega) (by omega)]
        exact ⟨by omega, Or.inl ⟨hb, j, j1, j2, rfl, rfl⟩, zt, c3'⟩
      | succ z ih =>
        intro i hz hi
        have hc := cnt_le (fun q => tn n x y E (mt m) q == 4 - j) i
        have hh := ih (i + 1) (by omega) (by omega)
        refine vcX12_lacking_33 hLt _ _ _ ⟨fun hc => ?_, fun _ => ?_⟩
        · rw [h35, lit32 4, pk_mul] at hc
          simp (disch := omega) only [zLE] at hc
          omega
        · refine Ct.imp (sp_turnAt12 hLt hn hB (rot_inj hV hm) (q := i) (by omega)) (fun r u w => ?_)
          obtain ⟨v4, rfl, rfl, rfl⟩ := w
          have ht : tn n x y E (mt m) i ≤ 40 := tn_le hV hm (by omega)
          refine ⟨_, rfl, Fr.rf, ?_⟩
          have etn : orb (fun z => bdy n x y E (mt m) (nxs z)) (4 * n) i = tn n x y E (mt m) i := rfl
          rw [etn]
          rw [sub4 (show j ≤ 4 by omega), zEQ (by omega) (by omega)]
          refine ⟨fun hne x2 e2 x4 e4 => ?_, fun heq x6 e6 x8 e8 => ?_⟩
          · rw [cnt_s, if_neg (by simpa using hne)] at hh
            rw [inc0 e2, inc e4]
            exact hh
          · rw [cnt_s, if_pos (by simpa using heq)] at hh
            rw [inc e6, inc e8]
            exact hh
    exact loop (4 * n) 0 rfl (Nat.zero_le _)
  · rw [i01 hv2] at hb
    exact ⟨Or.inr ⟨fun w => hb w.1, rfl⟩, z1, c1⟩
def beyA (n : Nat) (x y : Nat → Nat) (E : Nat) (m : Mat) (a b w v : Int32) : Prop := (gcn E m = E ∧ ∃ c s j, c < n ∧ s < 4 ∧ j < 3 ∧ a = nI c ∧ b = nI s ∧ w = nI j ∧ v = (if j = 0 then nI (bdy n x y E (mt m) (4 * c + s) / 4) else if j = 1 then nI (bdy n x y E (mt m) (4 * c + s) % 4) else nI (tn n x y E (mt m) (4 * c + s)))) ∨ (¬ (gcn E m = E ∧ ∃ c s j, c < n ∧ s < 4 ∧ j < 3 ∧ a = nI c ∧ b = nI s ∧ w = nI j) ∧ v = -1)
theorem sp_beyond11 {g : GV} {d n E : Nat} {x y : Nat → Nat} {m : Mat} {a b w : Int32} {σ : PS} (hL : Lay σ) (hV : VF n x y E) (h1 : mi σ 10 13 = nI (cnt (opn1 m) E)) (h2 : mi σ 20 6 = nI E) (hI : Inv E m) (hB : gcn E m = E → BF σ 129 n x y E (mt m)) :
    CX11_beyond g (d + 1) [.ref 10, .int a, .int b, .int w] σ (fun v s => beyA n x y E m a b w v ∧ s = σ) := by
  have hE := hV.2.2.2.2.2.2
  have hn := hV.2.1
  refine vcX11_beyond hL _ _ _ (Ct.imp (sp_isB11 hL hE h1 h2 hI) (fun r s z => ?_))
  obtain ⟨v, rfl, hv, rfl⟩ := z
  refine ⟨_, rfl, Fr.rf, fun h => ?_, fun h => ?_⟩
  · rw [i01 hv] at h
    exact ⟨Or.inr ⟨fun w => h w.1, rfl⟩, rfl⟩
  rw [i01 hv, Classical.not_not] at h
  obtain ⟨hD, hT⟩ := hB h
  refine Ct.imp (sp_hasCell2 hL isB129 hD.1 a) (fun r s z => ?_)
  obtain ⟨v2, rfl, hv2, rfl⟩ := z
  rw [inN_if] at hv2
  refine ⟨_, rfl, Fr.rf, fun hc => ?_, fun hc => ?_⟩
  · rw [i01 hv2] at hc
    refine ⟨Or.inr ⟨fun w => hc ?_, rfl⟩, rfl⟩
    obtain ⟨-, c, s, j, hc, -, -, e, -⟩ := w
    exact (inN_is (by omega)).mpr ⟨c, hc, e⟩
  rw [i01 hv2, Classical.not_not, inN_is (by omega)] at hc
  obtain ⟨c, hc, rfl⟩ := hc
  refine ⟨fun z => ?_, fun z => ⟨fun z3 x5 e5 => ?_, fun z3 => ?_⟩⟩
  · refine ⟨Or.inr ⟨fun w => ?_, rfl⟩, rfl⟩
    obtain ⟨-, c, s, j, -, hs, -, -, rfl, -⟩ := w
    rw [lit32 0, zLT (by omega) (by omega)] at z
    omega
  · obtain ⟨s, s1, s2, rfl⟩ := wBt (lo := 0) (hi := 3) (by omega) (by omega) z (Int32.not_lt.mpr z3)
    rw [lit32 4, pk_mul, nI_add, Nat.mul_comm] at e5
    rw [e5, zIN (by omega) (by omega), zCL (by omega)]
    obtain ⟨-, b1, b2⟩ := hD.2.2 (4 * c + s) (by omega)
    have b3 := hT (4 * c + s) (by omega)
    refine ⟨fun hw => ⟨by omega, Or.inl ⟨h, c, s, 0, hc, by omega, by omega, rfl, rfl, hw, ?_⟩, rfl⟩, fun hw => ⟨by omega, Or.inl ⟨h, c, s, 1, hc, by omega, by omega, rfl, rfl, hw, ?_⟩, rfl⟩, fun hw => ⟨by omega, Or.inl ⟨h, c, s, 2, hc, by omega, by omega, rfl, rfl, hw, ?_⟩, rfl⟩, fun hw => ⟨Or.inr ⟨fun w => ?_, rfl⟩, rfl⟩⟩
    · rw [if_pos rfl]; exact b1
    · rw [if_neg (by omega), if_pos rfl]; exact b2
    · rw [if_neg (by omega), if_neg (by omega)]; exact b3
    · obtain ⟨-, -, -, j, -, -, hj, -, -, e⟩ := w
      have : j = 0 ∨ j = 1 ∨ j = 2 := by omega
      rcases this with rfl | rfl | rfl
      · exact hw.1 e
      · exact hw.2.1 e
      · exact hw.2.2 e
  · refine ⟨Or.inr ⟨fun w => z3 ?_, rfl⟩, rfl⟩
    obtain ⟨-, c, s, j, -, hs, -, -, rfl, -⟩ := w
    rw [lit32 3, zLE (by omega) (by omega)]
    omega
theorem sp_beyond12 {g : GV} {d n E : Nat} {x y : Nat → Nat} {m : Mat} {a b w : Int32} {σ : PS} (hL : Lay σ) (hF : MF σ n x y E) (hV : VF n x y E) (hM : MA σ 209 24 m) (hI : Inv E m) :
    CX12_beyond g (d + 3) [.ref 179, .int a, .int b, .int w] σ (fun v s => beyA n x y E m a b w v ∧ mi s 179 0 = 0 ∧ Ch (fun a k => a = 179 ∧ k = 0 ∨ a = 215) noL σ s) := by
  have hE := hV.2.2.2.2.2.2
  have hn := hV.2.1
  refine vcX12_beyond hL _ _ _ (fun s1 e1 => ?_)
  have c1 : Ch (fun a k => a = 179 ∧ k = 0 ∨ a = 215) noL σ s1 := by rw [e1]; exact Ch.rf.si (Or.inl ⟨rfl, rfl⟩)
  have hL1 := c1.lay hL
  have z1 : mi s1 179 0 = 0 := by rw [e1, mi_si, if_pos ⟨rfl, rfl⟩]
  have hM1 := hM.ch c1 (fun i _ => by omega)
  have hF1 := hF.ch c1 (by omega) (by omega) (fun a i h1 h2 => by omega)
  refine Ct.imp (sp_isCell hL1 hF1.1.1) (fun r s3 z => ?_)
  obtain ⟨v, rfl, hv, rfl⟩ := z
  refine ⟨_, rfl, Fr.rf, fun h => ?_, fun h => ?_⟩
  · rw [i01 hv] at h
    refine ⟨Or.inr ⟨fun w => h ?_, rfl⟩, z1, c1⟩
    obtain ⟨-, c, s, j, hc, -, -, e, -⟩ := w
    exact (inN_is (by omega)).mpr ⟨c, hc, e⟩
  rw [i01 hv, Classical.not_not, inN_is (by omega)] at h
  obtain ⟨c, hc, rfl⟩ := h
  refine Ct.imp (sp_within hL1) (fun r s3 z => ?_)
  obtain ⟨v2, rfl, hv2, rfl⟩ := z
  refine ⟨_, rfl, Fr.rf, fun h => ?_, fun h => ?_⟩
  · rw [i01 hv2] at h
    refine ⟨Or.inr ⟨fun w => h ?_, rfl⟩, z1, c1⟩
    obtain ⟨-, c, s, j, -, hs, -, -, rfl, -⟩ := w
    rw [lit32 0, lit32 3, zLE (by omega) (by omega), zLE (by omega) (by omega)]
    omega
  rw [i01 hv2, Classical.not_not] at h
  obtain ⟨s, s1', s2', rfl⟩ := wBt (lo := 0) (hi := 3) (by omega) (by omega) (Int32.not_lt.mpr h.1) (Int32.not_lt.mpr h.2)
  refine Ct.imp (sp_within hL1) (fun r s3 z => ?_)
  obtain ⟨v3, rfl, hv3, rfl⟩ := z
  refine ⟨_, rfl, Fr.rf, fun h => ?_, fun h => ?_⟩
  · rw [i01 hv3] at h
    refine ⟨Or.inr ⟨fun w => h ?_, rfl⟩, z1, c1⟩
    obtain ⟨-, c, s, j, -, -, hj, -, -, rfl⟩ := w
    rw [lit32 0, lit32 2, zLE (by omega) (by omega), zLE (by omega) (by omega)]
    omega
  rw [i01 hv3, Classical.not_not] at h
  obtain ⟨j, j1, j2, rfl⟩ := wBt (lo := 0) (hi := 2) (by omega) (by omega) (Int32.not_lt.mpr h.1) (Int32.not_lt.mpr h.2)
  refine Ct.imp (sp_isBody12 hL1 hE hF1.2.1 hM1 hI) (fun r s3 w => ?_)
  obtain ⟨v4, rfl, hv4, rfl⟩ := w
  refine ⟨_, rfl, Fr.rf, fun hb => ?_, fun hb => ?_⟩
  · rw [i01 hv4, Classical.not_not] at hb
    have hm := hI.mt hb
    have hfm := full_mt hb
    refine Ct.imp (sp_laysBody (t := 0) (m := mt m) hL1 hF1 hV hm (by omega) (Or.inl ⟨rfl, fun e he => by rw [hM1 e (by omega), hfm e he]; rfl⟩)) (fun r t w => ?_)
    obtain ⟨rfl, hY, c3⟩ := w
    have hLt := c3.lay hL1
    have c3' : Ch (fun a k => a = 179 ∧ k = 0 ∨ a = 215) noL σ t := c1.trans (c3.mono (fun a k h => Or.inr h.1) (fun _ _ h => h))
    have zt : mi t 179 0 = 0 := by rw [c3.i (by unfold chY; omega)]; exact z1
    have hB : ∀ q, q < 4 * n → bdy n x y E (mt m) q < 4 * n ∧ mi t 215 q = nI (bdy n x y E (mt m) q) := fun q hq => ⟨bdy_lt hV hq, by have := hY q hq; rwa [Nat.zero_add] at this⟩
    have hq : 4 * c + s < 4 * n := by omega
    obtain ⟨hb1, hb2⟩ := hB _ hq
    rw [lit32 4, pk_mul, nI_add, zIN (by omega) (by omega), zCL (by omega)]
    refine ⟨rfl, c3.fr, by omega, fun x14 e14 => ?_⟩
    rw [e14, hb2, lit32 0, lit32 1, zEQ (by omega) (by omega), zEQ (by omega) (by omega)]
    refine ⟨fun h0 => ⟨fun h1 => ?_, fun h1 => ?_⟩, fun h0 => ?_⟩
    · refine Ct.imp (sp_turnAt12 hLt hn hB (rot_inj hV hm) hq) (fun r u w => ?_)
      obtain ⟨v5, rfl, rfl, rfl⟩ := w
      refine ⟨_, rfl, Fr.rf, Or.inl ⟨hb, c, s, j, hc, by omega, by omega, rfl, rfl, rfl, ?_⟩, zt, c3'⟩
      rw [if_neg h0, if_neg h1]
      rfl
    · refine ⟨Or.inl ⟨hb, c, s, j, hc, by omega, by omega, rfl, rfl, rfl, ?_⟩, zt, c3'⟩
      rw [if_neg h0, if_pos h1, zREM (by omega) (by omega) (by omega)]
    · refine ⟨Or.inl ⟨hb, c, s, j, hc, by omega, by omega, rfl, rfl, rfl, ?_⟩, zt, c3'⟩
      rw [if_pos h0, zDIV (by omega) (by omega) (by omega)]
  · rw [i01 hv4] at hb
    exact ⟨Or.inr ⟨fun w => hb w.1, rfl⟩, z1, c1⟩
