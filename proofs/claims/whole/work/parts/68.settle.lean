/-! ===== the class settles what is glued ===== -/
theorem isF20 : isF 20 := by unfold isF; decide
theorem isF29 : isF 29 := by unfold isF; decide
theorem isC81 : isC 81 := by unfold isC; decide
theorem isC84 : isC 84 := by unfold isC; decide
theorem FF.ch {σ s : PS} {o n E : Nat} {x y : Nat → Nat} {Pm Pl : Nat → Nat → Prop} (h : FF σ o n x y E) (c : Ch Pm Pl σ s) (hn : ∀ a i, o ≤ a → a ≤ o + 8 → ¬ Pm a i) : FF s o n x y E := by
  refine ⟨h.1.ch c (hn _ _ (by omega) (by omega)) (fun i => hn _ _ (by omega) (by omega)) (fun i => hn _ _ (by omega) (by omega)) (fun i => hn _ _ (by omega) (by omega)), by rw [c.i (hn _ _ (by omega) (by omega))]; exact h.2.1, fun j hj => ?_, fun q hq => ?_⟩
  · rw [c.i (hn (o + 6) j (by omega) (by omega)), c.i (hn (o + 7) j (by omega) (by omega)), c.i (hn (o + 8) j (by omega) (by omega))]
    exact h.2.2.1 j hj
  · rw [c.i (hn (o + 5) q (by omega) (by omega))]
    exact h.2.2.2 q hq
theorem qt_le (n : Nat) (x y : Nat → Nat) (E j : Nat) : qt n x y E j ≤ 4 := by
  unfold qt
  split
  · have := (wy_le n x y (E - 1)).2; omega
  · have := (wy_le n x y (j - 1)).2; omega
theorem sp_mates {g : GV} {d at' r : Nat} {σ : PS} (hL : Lay σ) (h1 : mi σ 38 1 = nI at') (ha : at' ≤ 40) (hr : mr σ 39 at' = some r) :
    CX0_mates g d [.ref 38] σ (fun v s => v = r ∧ s = σ) := by
  refine vcX0_mates hL ?_
  rw [h1]
  simp (disch := omega) only [zIN, zCL]
  exact ⟨by omega, r, hr, rfl, trivial⟩
theorem sp_isBody11 {g : GV} {d p E : Nat} {σ : PS} (hL : Lay σ) (h1 : mi σ 10 13 = nI p) (h2 : mi σ 20 6 = nI E) (hp : p ≤ 1000) (hE : E ≤ 1000) :
    CX11_isBody g d [.ref 10] σ (fun v s => v = (if 2 * p = E then 1 else 0) ∧ s = σ) := by
  refine vcX11_isBody hL ?_
  rw [h1, h2, lit32 2, pk_mul, zEQ (by omega) (by omega)]
  refine ⟨fun h => ⟨?_, rfl⟩, fun h => ⟨?_, rfl⟩⟩
  · rw [if_neg (by omega)]
  · rw [if_pos (by omega)]
abbrev chSt : Nat → Nat → Prop := fun a i => a = 10 ∧ i = 13 ∨ 81 ≤ a ∧ a ≤ 83 ∨ 129 ≤ a ∧ a ≤ 132 ∨ a = 144 ∧ i = 3 ∨ a = 149 ∧ i = 1
theorem sp_settle {g : GV} {d n E at' r : Nat} {x y : Nat → Nat} {m : Mat} {σ : PS} (hL : Lay σ) (hF : FF σ 20 n x y E) (hV : VF n x y E) (hat : mi σ 38 1 = nI at') (ha : at' ≤ 40) (hr : mr σ 39 at' = some r) (kr : kd σ r = some (.inr (0, 22))) (hr2 : 40 ≤ r ∧ r ≤ 80) (hM : MA σ r 22 m) (hI : Inv E m) (h4 : A4 E (cl E m E) (qt n x y E)) :
    CX11_settle g (d + 2) [.ref 10] σ (fun s => Cor s 81 E (cl E m E) (cq E m (qt n x y E) E) ∧ mi s 10 13 = nI (cnt (opn1 m) E) ∧ (gcn E m = E → BF s 129 n x y E (mt m)) ∧ mi s 144 3 = -1 ∧ mi s 149 1 = 0 ∧ Ch chSt noL σ s) := by
  have hE : E ≤ 22 := hV.2.2.2.2.2.2
  have hml : ∀ e b, m e = some b → b < E := fun e b h => (hI e b h).2.1
  have hq4 : ∀ i, i < E → qt n x y E i ≤ 4 := fun i _ => qt_le n x y E i
  have hg := gcn_opn hI
  have hgE : gcn E m ≤ E := cnt_le _ E
  generalize hPP : (fun (s : PS) => Cor s 81 E (cl E m E) (cq E m (qt n x y E) E) ∧ mi s 10 13 = nI (cnt (opn1 m) E) ∧ (gcn E m = E → BF s 129 n x y E (mt m)) ∧ mi s 144 3 = -1 ∧ mi s 149 1 = 0 ∧ Ch chSt noL σ s) = P
  have fin : ∀ s, Ch chSt noL σ s → Cor s 81 E (cl E m E) (cq E m (qt n x y E) E) → mi s 10 13 = nI (cnt (opn1 m) E) → (gcn E m = E → BF s 129 n x y E (mt m)) → ∀ s1 : PS, s1 = si s 144 3 (-1) → ∀ s2 : PS, s2 = si s1 149 1 0 → P s2 := by
    intro s cs hC h13 hB s1 e1 s2 e2
    have c2 : Ch (fun a i => a = 144 ∧ i = 3 ∨ a = 149 ∧ i = 1) noL s s2 := by
      rw [e2, e1]; exact (Ch.rf.si (Or.inl ⟨rfl, rfl⟩)).si (Or.inr ⟨rfl, rfl⟩)
    rw [← hPP]
    refine ⟨hC.ch c2 (by omega) (fun i _ => by omega) (fun i _ => by omega), by rw [c2.i (by omega)]; exact h13, fun hf => ?_, ?_, ?_, cs.trans (c2.mono (fun a k h => by simp only [chSt]; omega) (fun _ _ h => h))⟩
    · obtain ⟨b1, b2⟩ := hB hf
      exact ⟨b1.ch c2 (by omega) (fun i => by omega) (fun i => by omega), fun q hq => by rw [c2.i (by omega)]; exact b2 q hq⟩
    · rw [e2, mi_si, if_neg (by omega), e1, mi_si, if_pos ⟨rfl, rfl⟩]
    · rw [e2, mi_si, if_pos ⟨rfl, rfl⟩]
  have l26 : ∀ (z k : Nat) (s : PS), z = E - k → k ≤ E → Ch chSt noL σ s → Cor s 81 E (cl E m k) (cq E m (qt n x y E) k) → mi s 10 13 = nI (cnt (opn1 m) k) → VX11_settle g (d + 2) P 26 [some (.ref 10), some (.ref r), some (.int (nI k))] [] s := by
    intro z
    induction z with
    | zero =>
      intro k s hz hk cs hC h13
      have e : k = E := by omega
      subst e
      have hL2 := cs.lay hL
      have hF2 : FF s 20 n x y k := hF.ch cs (fun a i h1 h2 => by simp only [chSt]; omega)
      refine vcX11_settle_26 hL2 _ _ (cs.1.1 ▸ kr) _ ?_
      rw [hF2.2.1]
      refine ⟨fun _ => ?_, fun h => absurd (by rw [zLE (by omega) (by omega)]; omega) h⟩
      refine Ct.imp (sp_isBody11 hL2 h13 hF2.2.1 (by omega) (by omega)) (fun rr s7 w => ?_)
      obtain ⟨v, rfl, hv, rfl⟩ := w
      refine ⟨_, rfl, Fr.rf, fun hv0 => ?_, fun hv1 => ?_⟩
      · rw [i01 hv] at hv0
        exact fin s7 cs hC h13 (fun h => by omega)
      · rw [i01 hv, Classical.not_not] at hv1
        have hfull : gcn k m = k := by omega
        refine Ct.imp (sp_fold (m := mt m) hL2 isB129 isF20 (cs.1.1 ▸ kr) hE (by omega) hF2 hV (hI.mt hfull) (fun e he => ?_) (by omega)) (fun rr s13 w => ?_)
        · rw [cs.i (by simp only [chSt]; omega), hM e (by omega)]
          have := gcn_full.mp hfull e he
          cases hm : m e with
          | none => rw [hm] at this; cases this
          | some b => rw [mt_is hm]; rfl
        · obtain ⟨rfl, hB, c⟩ := w
          refine ⟨rfl, c.fr, fin s13 (cs.trans (c.mono (fun a i h => by simp only [chB] at h; simp only [chSt]; omega) (fun _ _ h => h))) (hC.ch c (by simp [chB]) (fun i _ => by simp [chB]) (fun i _ => by simp [chB])) (by rw [c.i (by simp [chB])]; exact h13) (fun _ => hB)⟩
    | succ z ih =>
      intro k s hz hk cs hC h13
      have hL2 := cs.lay hL
      have hMk : mi s r k = oI (m k) := by rw [cs.i (by simp only [chSt]; omega)]; exact hM k (by omega)
      have hcs : cl E m (k + 1) = clS E (cl E m k) k (m k) := rfl
      have hqs : cq E m (qt n x y E) (k + 1) = cqS E (cl E m k) (cq E m (qt n x y E) k) k (m k) := rfl
      refine vcX11_settle_26 hL2 _ _ (cs.1.1 ▸ kr) _ ?_
      rw [show mi s 20 6 = nI E by rw [cs.i (by simp only [chSt]; omega)]; exact hF.2.1]
      simp (disch := omega) only [zLE, zIN, zCL, hMk]
      refine ⟨fun h => by omega, fun _ => ⟨by omega, fun hle x20 e20 => ?_, fun hgt => ⟨by omega, ?_⟩⟩⟩
      · have ho : opn1 m k = false := by
          cases h : opn1 m k with
          | false => rfl
          | true =>
            obtain ⟨b, hb, hlt⟩ := opn1_is.mp h
            rw [hb] at hle
            simp only [oI] at hle
            have := hml k b hb
            rw [zLE (by omega) (by omega)] at hle
            omega
        have e1 : cl E m (k + 1) = cl E m k ∧ cq E m (qt n x y E) (k + 1) = cq E m (qt n x y E) k := by
          rw [hcs, hqs]
          cases hmk : m k with
          | none => exact ⟨rfl, rfl⟩
          | some b =>
            have : ¬ k < b := fun w => by
              have := opn1_is.mpr ⟨b, hmk, w⟩
              rw [ho] at this; cases this
            refine ⟨?_, ?_⟩
            · show (if k < b then _ else _) = _
              rw [if_neg this]
            · show (if k < b then _ else _) = _
              rw [if_neg this]
        rw [inc e20]
        refine ih (k + 1) s (by omega) (by omega) cs (by rw [e1.1, e1.2]; exact hC) ?_
        rw [cnt_s, ho, h13]
        rfl
      · cases hmk : m k with
        | none =>
          rw [hmk] at hgt
          refine absurd ?_ hgt
          refine Int32.le_iff_toInt_le.mpr ?_
          rw [nI_toInt (by omega)]
          have : (oI none).toInt = -1 := by decide
          omega
        | some b =>
          rw [hmk] at hgt hcs hqs
          simp only [oI] at hgt ⊢
          have hb := hml k b hmk
          rw [zLE (by omega) (by omega)] at hgt
          have hkb : k < b := by omega
          have ho : opn1 m k = true := opn1_is.mpr ⟨b, hmk, hkb⟩
          have e1 : cl E m (k + 1) = pL E (cl E m k) k b := by rw [hcs]; show (if k < b then _ else _) = _; rw [if_pos hkb]
          have e2 : cq E m (qt n x y E) (k + 1) = pQ E (cl E m k) (cq E m (qt n x y E) k) k b := by rw [hqs]; show (if k < b then _ else _) = _; rw [if_pos hkb]
          have hok := cq_ok hml hq4 h4 k (by omega)
          have hp := (A4_p (cq_RQ (q := qt n x y E) hml k (by omega)) (Prt.cl hml k (by omega)) (show k < E by omega) hb (h4.down (by omega))).mp (by rw [← e1]; exact h4.down (by omega))
          refine Ct.imp (sp_pair (d := d) hL2 isC81 hC (Prt.cl hml k (by omega)) (fun i hi => by have := hok i hi; omega) (show k < E by omega) hb) (fun rr s23 w => ?_)
          obtain ⟨v, rfl, c, -, hC2⟩ := w
          refine ⟨_, rfl, c.fr, fun s25 e25 x27 e27 => ?_⟩
          rw [c.i (by simp [chC]), h13, inc rfl] at e25
          have c25 : Ch (fun a i => a = 10 ∧ i = 13) noL s23 s25 := by rw [e25]; exact Ch.rf.si ⟨rfl, rfl⟩
          rw [inc e27]
          refine ih (k + 1) s25 (by omega) (by omega) ((cs.trans (c.mono (fun a i h => by simp only [chC] at h; simp only [chSt]; omega) (fun _ _ h => h))).trans (c25.mono (fun a i h => by simp only [chSt]; omega) (fun _ _ h => h))) ?_ ?_
          · rw [e1, e2]
            exact (hC2 hp).ch c25 (by omega) (fun i _ => by omega) (fun i _ => by omega)
          · rw [e25, mi_si, if_pos ⟨rfl, rfl⟩, cnt_s, ho]
            rfl
  refine vcX11_settle hL (Ct.imp (sp_mates hL hat ha hr) (fun rr s1 w => ?_))
  obtain ⟨v, rfl, rfl, rfl⟩ := w
  refine ⟨_, rfl, Fr.rf, Ct.imp (sp_start (q := qt n x y E) hL isC81 isF20 hE hF.2.1 (fun i hi => (hF.2.2.1 i hi).2.2)) (fun rr s3 w => ?_)⟩
  obtain ⟨rfl, hC, c⟩ := w
  refine ⟨rfl, c.fr, fun s5 e5 => ?_⟩
  have c5 : Ch (fun a i => a = 10 ∧ i = 13) noL s3 s5 := by rw [e5]; exact Ch.rf.si ⟨rfl, rfl⟩
  exact l26 E 0 s5 rfl (by omega) ((c.mono (fun a i h => by simp only [chC0] at h; simp only [chSt]; omega) (fun _ _ h => h)).trans (c5.mono (fun a i h => by simp only [chSt]; omega) (fun _ _ h => h))) (hC.ch c5 (by omega) (fun i _ => by omega) (fun i _ => by omega)) (by rw [e5, mi_si, if_pos ⟨rfl, rfl⟩]; rfl)
