/-! ===== way, farthest of both; the reference's shortest and round ===== -/
abbrev tnf (n : Nat) (x y : Nat → Nat) (E : Nat) (m : Mat) : Nat → Nat := tn n x y E (mt m)
abbrev bdf (n : Nat) (x y : Nat → Nat) (E : Nat) (m : Mat) : Nat → Nat := bdy n x y E (mt m)
def wayV (R : Option (Nat × Nat)) (j : Nat) : Int32 := match R with
  | none => -1
  | some p => if j = 0 then nI p.1 else nI p.2
def wayA (n : Nat) (x y : Nat → Nat) (E : Nat) (m : Mat) (a dx dy w v : Int32) : Prop := (gcn E m = E ∧ ∃ c kx ky j, c < n ∧ kx < 25 ∧ ky < 25 ∧ j < 2 ∧ a = nI c ∧ dx = dI kx ∧ dy = dI ky ∧ w = nI j ∧ v = wayV (way' (bdf n x y E m) (tnf n x y E m) c kx ky) j) ∨ (¬ (gcn E m = E ∧ ∃ c kx ky j, c < n ∧ kx < 25 ∧ ky < 25 ∧ j < 2 ∧ a = nI c ∧ dx = dI kx ∧ dy = dI ky ∧ w = nI j) ∧ v = -1)
theorem dI_near {k : Nat} (h : k < 25) : -12 ≤ dI k ∧ dI k ≤ 12 := by
  obtain ⟨-, -, -, -, -, -, h1, h2, -⟩ := dI_facts k h
  exact ⟨Int32.not_lt.mp (fun q => h2.mp q), Int32.not_lt.mp (fun q => h1.mp q)⟩
theorem dI_ex {a : Int32} (h : -12 ≤ a ∧ a ≤ 12) : ∃ k, k < 25 ∧ a = dI k := dI_of a (Int32.not_lt.mpr h.1) (Int32.not_lt.mpr h.2)
theorem sp_way11 {g : GV} {d n E : Nat} {x y : Nat → Nat} {m : Mat} {a b c' w : Int32} {σ : PS} (hL : Lay σ) (hV : VF n x y E) (h1 : mi σ 10 13 = nI (cnt (opn1 m) E)) (h2 : mi σ 20 6 = nI E) (hI : Inv E m) (hB : gcn E m = E → BF σ 129 n x y E (mt m)) :
    CX11_way g (d + 3) [.ref 10, .int a, .int b, .int c', .int w] σ (fun v s => wayA n x y E m a b c' w v ∧ Ch chW noL σ s) := by
  have hE := hV.2.2.2.2.2.2
  have hn := hV.2.1
  refine vcX11_way hL _ _ _ _ (Ct.imp (sp_isB11 hL hE h1 h2 hI) (fun r s z => ?_))
  obtain ⟨v, rfl, hv, rfl⟩ := z
  refine ⟨_, rfl, Fr.rf, fun h => ?_, fun h => ?_⟩
  · rw [i01 hv] at h
    exact ⟨Or.inr ⟨fun w => h w.1, rfl⟩, Ch.rf⟩
  rw [i01 hv, Classical.not_not] at h
  obtain ⟨hD, hT⟩ := hB h
  have hm := hI.mt h
  refine Ct.imp (sp_hasCell2 hL isB129 hD.1 a) (fun r s z => ?_)
  obtain ⟨v2, rfl, hv2, rfl⟩ := z
  rw [inN_if] at hv2
  refine ⟨_, rfl, Fr.rf, fun hc => ?_, fun hc => ?_⟩
  · rw [i01 hv2] at hc
    refine ⟨Or.inr ⟨fun w => hc ?_, rfl⟩, Ch.rf⟩
    obtain ⟨-, c, kx, ky, j, hc, -, -, -, e, -⟩ := w
    exact (inN_is (by omega)).mpr ⟨c, hc, e⟩
  rw [i01 hv2, Classical.not_not, inN_is (by omega)] at hc
  obtain ⟨c, hc, rfl⟩ := hc
  refine Ct.imp (sp_isNear hL) (fun r s z => ?_)
  obtain ⟨v3, rfl, hv3, rfl⟩ := z
  refine ⟨_, rfl, Fr.rf, fun q => ?_, fun q => ?_⟩
  · rw [i01 hv3] at q
    refine ⟨Or.inr ⟨fun w => q ?_, rfl⟩, Ch.rf⟩
    obtain ⟨-, c, kx, ky, j, -, hx, -, -, -, rfl, -⟩ := w
    exact dI_near hx
  rw [i01 hv3, Classical.not_not] at q
  obtain ⟨kx, hx, rfl⟩ := dI_ex q
  refine Ct.imp (sp_isNear hL) (fun r s z => ?_)
  obtain ⟨v4, rfl, hv4, rfl⟩ := z
  refine ⟨_, rfl, Fr.rf, fun q => ?_, fun q => ?_⟩
  · rw [i01 hv4, Classical.not_not] at q
    obtain ⟨ky, hy, rfl⟩ := dI_ex q
    refine ⟨fun z => ?_, fun z => ⟨fun z3 => ?_, fun z3 => ?_⟩⟩
    · refine ⟨Or.inr ⟨fun w => ?_, rfl⟩, Ch.rf⟩
      obtain ⟨-, c, kx, ky, j, -, -, -, hj, -, -, -, rfl⟩ := w
      rw [lit32 0, zLT (by omega) (by omega)] at z
      omega
    · refine ⟨Or.inr ⟨fun w => ?_, rfl⟩, Ch.rf⟩
      obtain ⟨-, c, kx, ky, j, -, -, -, hj, -, -, -, rfl⟩ := w
      rw [lit32 1, zLT (by omega) (by omega)] at z3
      omega
    · obtain ⟨j, j1, j2, rfl⟩ := wBt (lo := 0) (hi := 1) (by omega) (by omega) z z3
      refine Ct.imp (sp_go (d := d + 1) hL hD (t := tnf n x y E m) (fun q hq => ⟨hT q hq, by have := tn_le hV hm hq; unfold tnf; omega⟩) hc hx hy) (fun r s9 z => ?_)
      obtain ⟨v9, rfl, c9, hG⟩ := z
      refine ⟨_, rfl, c9.fr, fun hne => ?_, fun he => ?_⟩
      · rw [lit32 0, zEQ (by omega) (by omega)]
        cases hw : way' (bdy n x y E (mt m)) (tnf n x y E m) c kx ky with
        | none => rw [hw] at hG; exact absurd hG hne
        | some p =>
          rw [hw] at hG
          obtain ⟨-, -, -, g1, g2⟩ := hG
          have hw' : way' (bdf n x y E m) (tnf n x y E m) c kx ky = some p := hw
          refine ⟨fun h0 => ⟨Or.inl ⟨h, c, kx, ky, j, hc, hx, hy, by omega, rfl, rfl, rfl, rfl, ?_⟩, c9⟩, fun h0 => ⟨Or.inl ⟨h, c, kx, ky, j, hc, hx, hy, by omega, rfl, rfl, rfl, rfl, ?_⟩, c9⟩⟩
          · rw [hw']
            show _ = if j = 0 then _ else _
            rw [if_neg h0]; exact g2
          · rw [hw']
            show _ = if j = 0 then _ else _
            rw [if_pos h0]; exact g1
      · cases hw : way' (bdy n x y E (mt m)) (tnf n x y E m) c kx ky with
        | none =>
          have hw' : way' (bdf n x y E m) (tnf n x y E m) c kx ky = none := hw
          exact ⟨Or.inl ⟨h, c, kx, ky, j, hc, hx, hy, by omega, rfl, rfl, rfl, rfl, by rw [hw']; rfl⟩, c9⟩
        | some p => rw [hw] at hG; exact absurd (hG.1.symm.trans he) (by decide)
  · rw [i01 hv4] at q
    refine ⟨Or.inr ⟨fun w => q ?_, rfl⟩, Ch.rf⟩
    obtain ⟨-, c, kx, ky, j, -, -, hy, -, -, -, rfl, -⟩ := w
    exact dI_near hy
/-- what the reference may change in asking for ways -/
abbrev chWm : Nat → Nat → Prop := fun a k => a = 179 ∧ (k = 0 ∨ 61 ≤ k ∧ k ≤ 66) ∨ a = 215
theorem lays0 {g : GV} {d n E : Nat} {x y : Nat → Nat} {m : Mat} {σ : PS} (hL : Lay σ) (hF : MF σ n x y E) (hV : VF n x y E) (hM : MA σ 209 24 m) (hI : Inv E m) (hb : gcn E m = E) :
    CX12_laysBody g (d + 2) [.ref 179, .int 0, .int (-1)] σ (fun s => BY s n (bdf n x y E m) ∧ Ch (chY 0) noL σ s) := by
  have hE := hV.2.2.2.2.2.2
  have hm := hI.mt hb
  have hfm := full_mt hb
  refine Ct.imp (sp_laysBody (t := 0) (m := mt m) hL hF hV hm (by omega) (Or.inl ⟨rfl, fun e he => by rw [hM e (by omega), hfm e he]; rfl⟩)) (fun r t w => ?_)
  obtain ⟨rfl, hY, c3⟩ := w
  exact ⟨rfl, ⟨hV.2.1, fun q hq => ⟨bdy_lt hV hq, by have := hY q hq; rwa [Nat.zero_add] at this⟩⟩, c3⟩
theorem sp_way12 {g : GV} {d n E : Nat} {x y : Nat → Nat} {m : Mat} {a b c' w : Int32} {σ : PS} (hL : Lay σ) (hF : MF σ n x y E) (hV : VF n x y E) (hM : MA σ 209 24 m) (hI : Inv E m) :
    CX12_way g (d + 4) [.ref 179, .int a, .int b, .int c', .int w] σ (fun v s => wayA n x y E m a b c' w v ∧ mi s 179 0 = 0 ∧ Ch chWm noL σ s) := by
  have hE := hV.2.2.2.2.2.2
  have hn := hV.2.1
  refine vcX12_way hL _ _ _ _ (fun s1 e1 => ?_)
  have c1 : Ch chWm noL σ s1 := by rw [e1]; exact Ch.rf.si (Or.inl ⟨rfl, Or.inl rfl⟩)
  have hL1 := c1.lay hL
  have z1 : mi s1 179 0 = 0 := by rw [e1, mi_si, if_pos ⟨rfl, rfl⟩]
  have hM1 := hM.ch c1 (fun i _ => by omega)
  have hF1 := hF.ch c1 (by omega) (by omega) (fun a i h1 h2 => by omega)
  refine Ct.imp (sp_isCell hL1 hF1.1.1) (fun r s3 z => ?_)
  obtain ⟨v, rfl, hv, rfl⟩ := z
  refine ⟨_, rfl, Fr.rf, fun hc => ?_, fun hc => ?_⟩
  · rw [i01 hv] at hc
    refine ⟨Or.inr ⟨fun w => hc ?_, rfl⟩, z1, c1⟩
    obtain ⟨-, c, kx, ky, j, hc, -, -, -, e, -⟩ := w
    exact (inN_is (by omega)).mpr ⟨c, hc, e⟩
  rw [i01 hv, Classical.not_not, inN_is (by omega)] at hc
  obtain ⟨c, hc, rfl⟩ := hc
  refine Ct.imp (sp_within hL1) (fun r s z => ?_)
  obtain ⟨v3, rfl, hv3, rfl⟩ := z
  refine ⟨_, rfl, Fr.rf, fun q => ?_, fun q => ?_⟩
  · rw [i01 hv3] at q
    refine ⟨Or.inr ⟨fun w => q ?_, rfl⟩, z1, c1⟩
    obtain ⟨-, c, kx, ky, j, -, hx, -, -, -, rfl, -⟩ := w
    exact dI_near hx
  rw [i01 hv3, Classical.not_not] at q
  obtain ⟨kx, hx, rfl⟩ := dI_ex q
  refine Ct.imp (sp_within hL1) (fun r s z => ?_)
  obtain ⟨v4, rfl, hv4, rfl⟩ := z
  refine ⟨_, rfl, Fr.rf, fun q => ?_, fun q => ?_⟩
  · rw [i01 hv4] at q
    refine ⟨Or.inr ⟨fun w => q ?_, rfl⟩, z1, c1⟩
    obtain ⟨-, c, kx, ky, j, -, -, hy, -, -, -, rfl, -⟩ := w
    exact dI_near hy
  rw [i01 hv4, Classical.not_not] at q
  obtain ⟨ky, hy, rfl⟩ := dI_ex q
  refine Ct.imp (sp_within hL1) (fun r s3 z => ?_)
  obtain ⟨v5, rfl, hv5, rfl⟩ := z
  refine ⟨_, rfl, Fr.rf, fun h => ?_, fun h => ?_⟩
  · rw [i01 hv5] at h
    refine ⟨Or.inr ⟨fun w => h ?_, rfl⟩, z1, c1⟩
    obtain ⟨-, c, kx, ky, j, -, -, -, hj, -, -, -, rfl⟩ := w
    rw [lit32 0, lit32 1, zLE (by omega) (by omega), zLE (by omega) (by omega)]
    omega
  rw [i01 hv5, Classical.not_not] at h
  obtain ⟨j, j1, j2, rfl⟩ := wBt (lo := 0) (hi := 1) (by omega) (by omega) (Int32.not_lt.mpr h.1) (Int32.not_lt.mpr h.2)
  refine Ct.imp (sp_isBody12 (d := d + 2) hL1 hE hF1.2.1 hM1 hI) (fun r s3 w => ?_)
  obtain ⟨v6, rfl, hv6, rfl⟩ := w
  refine ⟨_, rfl, Fr.rf, fun hb => ?_, fun hb => ?_⟩
  · rw [i01 hv6, Classical.not_not] at hb
    have hm := hI.mt hb
    refine Ct.imp (lays0 (d := d + 1) hL1 hF1 hV hM1 hI hb) (fun r t w => ?_)
    obtain ⟨rfl, hY, c3⟩ := w
    have hLt := c3.lay hL1
    have c3' : Ch chWm noL σ t := c1.trans (c3.mono (fun a k h => Or.inr h.1) (fun _ _ h => h))
    have zt : mi t 179 0 = 0 := by rw [c3.i (by unfold chY; omega)]; exact z1
    refine ⟨rfl, c3.fr, Ct.imp (sp_leads (d := d + 2) hLt hY (rot_inj hV hm) hc hx hy) (fun r u w => ?_)⟩
    obtain ⟨v7, rfl, c7, hG⟩ := w
    have c7' : Ch chWm noL σ u := c3'.trans (c7.mono (fun a k h => Or.inl ⟨h.1, Or.inr (by omega)⟩) (fun _ _ h => h))
    have zu : mi u 179 0 = 0 := by rw [c7.i (by unfold chG; omega)]; exact zt
    have ew : way' (bdf n x y E m) (orb (fun z => bdf n x y E m (nxs z)) (4 * n)) c kx ky = way' (bdf n x y E m) (tnf n x y E m) c kx ky := rfl
    rw [ew] at hG
    refine ⟨_, rfl, c7.fr, fun hne => ?_, fun he => ?_⟩
    · rw [lit32 0, zEQ (by omega) (by omega)]
      cases hw : way' (bdf n x y E m) (tnf n x y E m) c kx ky with
      | none => rw [hw] at hG; exact absurd hG hne
      | some p =>
        rw [hw] at hG
        obtain ⟨-, -, -, g1, g2⟩ := hG
        refine ⟨fun h0 => ⟨Or.inl ⟨hb, c, kx, ky, j, hc, hx, hy, by omega, rfl, rfl, rfl, rfl, ?_⟩, zu, c7'⟩, fun h0 => ⟨Or.inl ⟨hb, c, kx, ky, j, hc, hx, hy, by omega, rfl, rfl, rfl, rfl, ?_⟩, zu, c7'⟩⟩
        · rw [hw]
          show _ = if j = 0 then _ else _
          rw [if_neg h0]; exact g2
        · rw [hw]
          show _ = if j = 0 then _ else _
          rw [if_pos h0]; exact g1
    · cases hw : way' (bdf n x y E m) (tnf n x y E m) c kx ky with
      | none => exact ⟨Or.inl ⟨hb, c, kx, ky, j, hc, hx, hy, by omega, rfl, rfl, rfl, rfl, by rw [hw]; rfl⟩, zu, c7'⟩
      | some p => rw [hw] at hG; exact absurd (hG.1.symm.trans he) (by decide)
  · rw [i01 hv6] at hb
    exact ⟨Or.inr ⟨fun w => hb w.1, rfl⟩, z1, c1⟩
/-- the account of the ways from c to a slot -/
def acf (n : Nat) (x y : Nat → Nat) (E : Nat) (m : Mat) (c slot : Nat) : Acc := acc (hit (bdf n x y E m) (tnf n x y E m) c slot) 625
theorem acf_ok (n : Nat) (x y : Nat → Nat) (E : Nat) (m : Mat) (c slot : Nat) : (acf n x y E m c slot).1 ≤ 145 ∧ (acf n x y E m c slot).2.1 ≤ 625 ∧ ((acf n x y E m c slot).2.1 = 0 ↔ (acf n x y E m c slot).1 = 145) := by
  obtain ⟨a, b, c, -⟩ := acc_ok (hit (bdf n x y E m) (tnf n x y E m) c slot) (fun i _ h => hit_le h) 625 (Nat.le_refl _)
  exact ⟨a, b, c⟩
def farA (n : Nat) (x y : Nat → Nat) (E : Nat) (m : Mat) (a v : Int32) : Prop := (gcn E m = E ∧ ∃ c, c < n ∧ a = nI c ∧ v = fO (far (acf n x y E m c) n)) ∨ (¬ (gcn E m = E ∧ ∃ c, c < n ∧ a = nI c) ∧ v = -1)
/-- what the class knows of a look -/
def LKo (σ : PS) (n : Nat) (x y : Nat → Nat) (E : Nat) (m : Mat) : Prop := gcn E m = E → ∀ c, c < n → mi σ 144 3 = nI c → LK σ (bdf n x y E m) (tnf n x y E m) c 625
theorem LKo.of {σ : PS} {n c : Nat} {x y : Nat → Nat} {E : Nat} {m : Mat} (hn : n ≤ 10) (hc : c < n) (h : LK σ (bdf n x y E m) (tnf n x y E m) c 625) (h3 : mi σ 144 3 = nI c) : LKo σ n x y E m := by
  intro _ c' hc' e
  rw [h3, zEQ (by omega) (by omega)] at e
  subst e
  exact h
theorem look_c {g : GV} {d n E c : Nat} {x y : Nat → Nat} {m : Mat} {σ : PS} (hL : Lay σ) (hV : VF n x y E) (hI : Inv E m) (hb : gcn E m = E) (hB : BF σ 129 n x y E (mt m)) (hK : LKo σ n x y E m) (hc : c < n) :
    CX10_look g (d + 2) [.ref 144, .int (nI c)] σ (fun s => LK s (bdf n x y E m) (tnf n x y E m) c 625 ∧ LKo s n x y E m ∧ Ch chL noL σ s) := by
  obtain ⟨hD, hT⟩ := hB
  have hm := hI.mt hb
  refine Ct.imp (sp_look (d := d) hL hD (t := tnf n x y E m) (fun q hq => ⟨hT q hq, by have := tn_le hV hm hq; unfold tnf; omega⟩) hc (hK hb c hc)) (fun r s w => ?_)
  obtain ⟨rfl, h1, h2, h3⟩ := w
  exact ⟨rfl, h1, LKo.of hV.2.1 hc h1 h2, h3⟩
theorem sp_farthest11 {g : GV} {d n E : Nat} {x y : Nat → Nat} {m : Mat} {a : Int32} {σ : PS} (hL : Lay σ) (hV : VF n x y E) (h1 : mi σ 10 13 = nI (cnt (opn1 m) E)) (h2 : mi σ 20 6 = nI E) (hI : Inv E m) (hB : gcn E m = E → BF σ 129 n x y E (mt m)) (hK : LKo σ n x y E m) :
    CX11_farthest g (d + 3) [.ref 10, .int a] σ (fun v s => farA n x y E m a v ∧ LKo s n x y E m ∧ Ch chL noL σ s) := by
  have hE := hV.2.2.2.2.2.2
  have hn := hV.2.1
  refine vcX11_farthest hL _ (Ct.imp (sp_isB11 hL hE h1 h2 hI) (fun r s z => ?_))
  obtain ⟨v, rfl, hv, rfl⟩ := z
  refine ⟨_, rfl, Fr.rf, fun h => ?_, fun h => ?_⟩
  · rw [i01 hv] at h
    exact ⟨Or.inr ⟨fun w => h w.1, rfl⟩, hK, Ch.rf⟩
  rw [i01 hv, Classical.not_not] at h
  obtain ⟨hD, hT⟩ := hB h
  refine Ct.imp (sp_hasCell2 hL isB129 hD.1 a) (fun r s z => ?_)
  obtain ⟨v2, rfl, hv2, rfl⟩ := z
  rw [inN_if] at hv2
  refine ⟨_, rfl, Fr.rf, fun hc => ?_, fun hc => ?_⟩
  · rw [i01 hv2, Classical.not_not, inN_is (by omega)] at hc
    obtain ⟨c, hc, rfl⟩ := hc
    refine Ct.imp (look_c (d := d) hL hV hI h (hB h) hK hc) (fun r s5 w => ?_)
    obtain ⟨rfl, k1, k2, c5⟩ := w
    refine ⟨rfl, c5.fr, Ct.imp (sp_farthestEnd (n := n) (A := acf n x y E m c) (c5.lay hL) (by rw [c5.i (by unfold chL; omega)]; exact hD.1) hn (fun i hi => k1 i (by omega)) (fun i => (acf_ok n x y E m c i).1) (fun i => (acf_ok n x y E m c i).2.1)) (fun r s7 w => ?_)⟩
    obtain ⟨v7, rfl, rfl, rfl⟩ := w
    exact ⟨_, rfl, Fr.rf, Or.inl ⟨h, c, hc, rfl, rfl⟩, k2, c5⟩
  · rw [i01 hv2] at hc
    refine ⟨Or.inr ⟨fun w => hc ?_, rfl⟩, hK, Ch.rf⟩
    obtain ⟨-, c, hc, e⟩ := w
    exact (inN_is (by omega)).mpr ⟨c, hc, e⟩
theorem sp_farthest12 {g : GV} {d n E : Nat} {x y : Nat → Nat} {m : Mat} {a : Int32} {σ : PS} (hL : Lay σ) (hF : MF σ n x y E) (hV : VF n x y E) (hM : MA σ 209 24 m) (hI : Inv E m) :
    CX12_farthest g (d + 4) [.ref 179, .int a] σ (fun v s => farA n x y E m a v ∧ mi s 179 0 = 0 ∧ Ch chWm noL σ s) := by
  have hE := hV.2.2.2.2.2.2
  have hn := hV.2.1
  refine vcX12_farthest hL _ (fun s1 e1 => ?_)
  have c1 : Ch chWm noL σ s1 := by rw [e1]; exact Ch.rf.si (Or.inl ⟨rfl, Or.inl rfl⟩)
  have hL1 := c1.lay hL
  have z1 : mi s1 179 0 = 0 := by rw [e1, mi_si, if_pos ⟨rfl, rfl⟩]
  have hM1 := hM.ch c1 (fun i _ => by omega)
  have hF1 := hF.ch c1 (by omega) (by omega) (fun a i h1 h2 => by omega)
  refine Ct.imp (sp_isCell hL1 hF1.1.1) (fun r s3 z => ?_)
  obtain ⟨v, rfl, hv, rfl⟩ := z
  refine ⟨_, rfl, Fr.rf, fun hc => ?_, fun hc => ?_⟩
  · rw [i01 hv] at hc
    refine ⟨Or.inr ⟨fun w => hc ?_, rfl⟩, z1, c1⟩
    obtain ⟨-, c, hc, e⟩ := w
    exact (inN_is (by omega)).mpr ⟨c, hc, e⟩
  rw [i01 hv, Classical.not_not, inN_is (by omega)] at hc
  obtain ⟨c, hc, rfl⟩ := hc
  refine Ct.imp (sp_isBody12 (d := d + 2) hL1 hE hF1.2.1 hM1 hI) (fun r s3 w => ?_)
  obtain ⟨v6, rfl, hv6, rfl⟩ := w
  refine ⟨_, rfl, Fr.rf, fun hb => ?_, fun hb => ?_⟩
  · rw [i01 hv6, Classical.not_not] at hb
    have hm := hI.mt hb
    refine Ct.imp (lays0 (d := d + 1) hL1 hF1 hV hM1 hI hb) (fun r t w => ?_)
    obtain ⟨rfl, hY, c3⟩ := w
    have c3' : Ch chWm noL σ t := c1.trans (c3.mono (fun a k h => Or.inr h.1) (fun _ _ h => h))
    have zt : mi t 179 0 = 0 := by rw [c3.i (by unfold chY; omega)]; exact z1
    have h35 : mi t 179 35 = nI n := by rw [c3.i (by unfold chY; omega)]; exact hF1.1.1
    have hLt := c3.lay hL1
    refine ⟨rfl, c3.fr, ?_⟩
    have loop : ∀ (z i : Nat) (u : PS), z = n - i → i ≤ n → Ch chS noL t u → VX12_farthest g (d + 4) (fun v s => farA n x y E m (nI c) v ∧ mi s 179 0 = 0 ∧ Ch chWm noL σ s) 35 [some (.ref 179), some (.int (nI c)), some (.int (fO (far (acf n x y E m c) i))), some (.int (fM (far (acf n x y E m c) i))), some (.int (nI i))] [] u := by
      intro z
      induction z with
      | zero =>
        intro i u hz hi cu
        have : i = n := by omega
        subst this
        refine vcX12_farthest_35 (cu.lay hLt) _ _ _ _ ⟨fun _ => ⟨Or.inl ⟨hb, c, hc, rfl, rfl⟩, by rw [cu.i (by unfold chS; omega)]; exact zt, c3'.trans (cu.mono (fun a k h => Or.inl ⟨h.1, Or.inr h.2⟩) (fun _ _ h => h))⟩, fun hc => absurd (by rw [cu.i (by unfold chS; omega), h35, zLE (by omega) (by omega)]; omega) hc⟩
      | succ z ih =>
        intro i u hz hi cu
        refine vcX12_farthest_35 (cu.lay hLt) _ _ _ _ ⟨fun h => ?_, fun _ => ?_⟩
        · rw [cu.i (by unfold chS; omega), h35, zLE (by omega) (by omega)] at h
          omega
        · refine Ct.imp (sp_shortests (d := d + 1) (to := i) (r := 0) (cu.lay hLt) (hY.ch cu (fun i => by unfold chS; omega)) (rot_inj hV hm) hc (by omega) (by omega) (fun h => absurd h (by omega))) (fun r s9 w => ?_)
          obtain ⟨rfl, hS, c9⟩ := w
          have hS' : SH s9 (acf n x y E m c i) := hS
          obtain ⟨o1, o2, o3⟩ := acf_ok n x y E m c i
          have hh := ih (i + 1) s9 (by omega) (by omega) (cu.trans c9)
          rw [far_s] at hh
          refine ⟨rfl, c9.fr, ?_⟩
          rw [hS'.1, lit32 145, zEQ (by omega) (by omega), fM_lt (fun j => (acf_ok n x y E m c j).1) i o1]
          refine ⟨fun h145 x11 e11 => ?_, fun h145 => ⟨fun hlt x13 e13 x15 e15 => ?_, fun hlt x17 e17 => ?_⟩⟩
          · rw [if_neg (fun w => by have := o3.mpr h145; omega)] at hh
            rw [inc e11]
            exact hh
          · rw [if_pos ⟨by
              have : ¬ (acf n x y E m c i).2.1 = 0 := fun w => h145 (o3.mp w)
              omega, hlt⟩] at hh
            rw [e13, inc e15]
            exact hh
          · rw [if_neg (fun w => hlt w.2)] at hh
            rw [inc e17]
            exact hh
    exact loop n 0 t rfl (Nat.zero_le _) Ch.rf
  · rw [i01 hv6] at hb
    exact ⟨Or.inr ⟨fun w => hb w.1, rfl⟩, z1, c1⟩
