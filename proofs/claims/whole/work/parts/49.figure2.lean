/-! ===== the class's Figure: its rim, and laying it ===== -/
theorem FN.ch {σ s : PS} {o n : Nat} {x y : Nat → Nat} {Pm Pl : Nat → Nat → Prop} (h : FN σ o n x y) (c : Ch Pm Pl σ s) (h0 : ¬ Pm o 3) (h1 : ∀ i, ¬ Pm (o + 2) i) (h2 : ∀ i, ¬ Pm (o + 3) i) (h3 : ∀ i, ¬ Pm (o + 4) i) : FN s o n x y :=
  ⟨h.1.ch c h0 (fun i _ => h1 i) (fun i _ => h2 i), fun q hq => by rw [c.i (h3 q)]; exact h.2 q hq⟩
abbrev chR (o : Nat) : Nat → Nat → Prop := fun a i => (o + 5 ≤ a ∧ a ≤ o + 8) ∨ (a = o ∧ i = 6)
theorem sp_traceRim {g : GV} {d o n E : Nat} {x y : Nat → Nat} {σ : PS} (hL : Lay σ) (io : isF o) (hM : FN σ o n x y) (hA : ∀ q, q < 4 * n → mi σ (o + 5) q = -1) (hD : Dst n x y) (ho : Opn n x y (0, 0)) (hE : Per n x y E) (hE4 : E ≤ 22) :
    CX4_traceRim g d [.ref o] σ (fun s => FF s o n x y E ∧ Ch (chR o) noL σ s) := by
  have hn := hM.1.2.1
  have hpos := hE.1
  generalize hP : (fun (s : PS) => FF s o n x y E ∧ Ch (chR o) noL σ s) = P
  have fns : ∀ s, Ch (chR o) noL σ s → FN s o n x y := fun s c => hM.ch c (by simp [chR]) (fun i => by simp [chR]) (fun i => by simp [chR]) (fun i => by simp [chR])
  have loop : ∀ (z k : Nat) (s : PS), z = E - k → k ≤ E → Ch (chR o) noL σ s → mi s o 6 = nI k → (∀ j, j < k → mi s (o + 6) j = nI (tr n x y j).1 ∧ mi s (o + 7) j = nI (tr n x y j).2 ∧ mi s (o + 8) j = nI (if j = 0 then 0 else wy n x y (j - 1))) → (∀ q, q < 4 * n → mi s (o + 5) q = oI (eAt n x y k q)) →
      VX4_traceRim g d P 14 [some (.ref o), some (.int (nI (tr n x y k).1)), some (.int (nI (tr n x y k).2)), some (.int (nI (if k = 0 then 0 else wy n x y (k - 1)))), some (.int (nI k)), none, none, none] [] s := by
    intro z
    induction z with
    | zero =>
      intro k s hz hk c h6 hj hq
      have e : k = E := by omega
      subst e
      have fin : ∀ s6 : PS, s6 = si s (o + 8) (Int32.toNatClampNeg 0) (nI (if k = 0 then 0 else wy n x y (k - 1))) → P s6 := by
        intro s6 e6
        rw [cl0, if_neg (by omega)] at e6
        have c2 : Ch (chR o) noL σ s6 := by rw [e6]; exact c.si (Or.inl ⟨by omega, by omega⟩)
        rw [← hP]
        refine ⟨⟨fns _ c2, ?_, fun j hj2 => ?_, fun q hq2 => ?_⟩, c2⟩
        · rw [e6, mi_si, if_neg (by omega)]; exact h6
        · obtain ⟨a1, a2, a3⟩ := hj j hj2
          rw [e6]
          unfold qt
          simp only [mi_si]
          by_cases q : j = 0
          · subst q; simp [a1, a2]
          · simp [q, a1, a2, a3]
        · rw [e6, mi_si, if_neg (by omega)]; exact hq q hq2
      have e1 : eAt n x y k 0 = some 0 := by
        refine fnd_is hpos ?_ (fun j hj => by omega)
        show (4 * (tr n x y 0).1 + (tr n x y 0).2 == 0) = true
        rfl
      rw [hE.2.1]
      refine vcX4_traceRim_14 (c.lay hL) o io _ _ _ _ ⟨fun _ => fin, fun _ => ?_⟩
      rw [lit32 4, pk_mul, nI_add]
      simp (disch := omega) only [zIN, zCL]
      refine ⟨by omega, fun _ => fin, fun hc => ?_⟩
      exfalso
      rw [show 0 * 4 + 0 = 0 from rfl, hq 0 (by have := ho.1; omega), e1] at hc
      exact absurd hc (by decide)
    | succ z ih =>
      intro k s hz hk c h6 hj hq
      obtain ⟨o1, o2, o3⟩ := tr_open hD ho k
      have em : nI (tr n x y k).1 * 4 + nI (tr n x y k).2 = nI (4 * (tr n x y k).1 + (tr n x y k).2) := by rw [lit32 4, pk_mul, nI_add, Nat.mul_comm]
      have hno : eAt n x y k (4 * (tr n x y k).1 + (tr n x y k).2) = none := by
        refine fnd_no (fun j hj2 => ?_)
        cases hb : (4 * (tr n x y j).1 + (tr n x y j).2 == 4 * (tr n x y k).1 + (tr n x y k).2) with
        | false => rfl
        | true =>
          have a := (tr_open hD ho j).2.1
          simp only [beq_iff_eq] at hb
          have := hE.2.2.2 j k (by omega) (by omega) (Prod.ext (by omega) (by omega))
          omega
      have eq1 := hq (4 * (tr n x y k).1 + (tr n x y k).2) (by omega)
      rw [hno] at eq1
      refine vcX4_traceRim_14 (c.lay hL) o io _ _ _ _ ⟨fun hc => ?_, fun _ => ?_⟩
      · rw [lit32 22, zLE (by omega) (by omega)] at hc
        omega
      · rw [em]
        simp (disch := omega) only [zIN, zCL]
        rw [eq1]
        refine ⟨by omega, fun hc => absurd rfl hc, fun _ => ⟨by omega, fun s9 e9 => ⟨by omega, fun s12 e12 => ⟨by omega, fun s15 e15 => ⟨by omega, fun s18 e18 s20 e20 x22 e22 => ?_⟩⟩⟩⟩⟩
        have f18 : mi s18 o 6 = nI k := by
          rw [e18, mi_si, if_neg (by omega), e15, mi_si, if_neg (by omega), e12, mi_si, if_neg (by omega), e9, mi_si, if_neg (by omega)]; exact h6
        rw [f18, lit32 1, nI_add] at e20
        have c2 : Ch (chR o) noL σ s20 := by
          rw [e20, e18, e15, e12, e9]
          exact ((((c.si (Or.inl ⟨by omega, by omega⟩)).si (Or.inl ⟨by omega, by omega⟩)).si (Or.inl ⟨by omega, by omega⟩)).si (Or.inl ⟨by omega, by omega⟩)).si (Or.inr ⟨rfl, rfl⟩)
        have hN := fns _ c2
        have K : VX4_traceRim g d P 14 [some (.ref o), some (.int (nI (tr n x y (k + 1)).1)), some (.int (nI (tr n x y (k + 1)).2)), some (.int (nI (wy n x y k))), some (.int (nI (k + 1))), none, none, none] [] s20 := by
          have := ih (k + 1) s20 (by omega) (by omega) c2 ?_ (fun j hj2 => ?_) (fun q hq2 => ?_)
          · rw [if_neg (by omega), show k + 1 - 1 = k by omega] at this
            exact this
          · rw [e20, mi_si, if_pos ⟨rfl, rfl⟩]
          · rw [e20, e18, e15, e12, e9]
            simp only [mi_si]
            by_cases q : j = k
            · subst q
              simp
            · obtain ⟨a1, a2, a3⟩ := hj j (by omega)
              simp [q, a1, a2, a3]
          · rw [e20, e18, e15, e12, e9]
            rw [eAt_step hD ho hE (by omega)]
            simp only [mi_si]
            by_cases q2 : q = 4 * (tr n x y k).1 + (tr n x y k).2
            · simp [q2, oI]
            · simp [q2, hq q hq2]
        have etr : tr n x y (k + 1) = (rimS n x y ((tr n x y k).1, (tr n x y k).2)).1 := rfl
        have ewy : wy n x y k = (rimS n x y ((tr n x y k).1, (tr n x y k).2)).2 := rfl
        rw [etr, ewy] at K
        clear ih hj hq e9 e12 e15 e18 e20 f18 etr ewy em hno eq1
        generalize (tr n x y k).1 = cc at *
        generalize (tr n x y k).2 = ss at *
        rw [zm1 (by omega)] at e22
        subst e22
        have em : nI cc * 4 + nI ((ss + 1) % 4) = nI (4 * cc + (ss + 1) % 4) := by rw [lit32 4, pk_mul, nI_add, Nat.mul_comm]
        have e1 := hN.2 (4 * cc + (ss + 1) % 4) (by omega)
        rw [show (4 * cc + (ss + 1) % 4) / 4 = cc by omega, show (4 * cc + (ss + 1) % 4) % 4 = (ss + 1) % 4 by omega] at e1
        rw [em]
        simp (disch := omega) only [zIN, zCL, e1]
        refine ⟨by omega, fun x25 e25 => ?_⟩
        rcases rim_cases n x y cc ss with ⟨h1, e⟩ | ⟨a, h1, h2, e⟩ | ⟨a, b, h1, h2, e⟩ <;> rw [e] at K <;> rw [h1] at e25 <;> simp only [oI] at e25
        · refine ⟨fun hc => absurd e25 hc, fun _ => ⟨fun hc => absurd e25 hc, fun _ x40 e40 => ?_⟩⟩
          rw [inc e40]; exact K
        · have ha := (bhd_s h1).1
          have ne1 : ¬ x25 = -1 := by rw [e25]; exact m1_ne (by omega)
          have e2 := hN.2 (4 * a + ss) (by omega)
          rw [show (4 * a + ss) / 4 = a by omega, show (4 * a + ss) % 4 = ss by omega, h2] at e2
          have em2 : x25 * 4 + nI ss = nI (4 * a + ss) := by rw [e25, lit32 4, pk_mul, nI_add, Nat.mul_comm]
          refine ⟨fun _ => ?_, fun hc => absurd hc ne1⟩
          rw [em2]
          simp (disch := omega) only [zIN, zCL, e2]
          refine ⟨by omega, fun x28 e28 => ⟨fun _ => ⟨fun hc => absurd e28 hc, fun _ x34 e34 => ?_⟩, fun hc => absurd hc ne1⟩⟩
          rw [inc e34, e25]; exact K
        · have ha := (bhd_s h1).1
          have hb := (bhd_s h2).1
          have ne1 : ¬ x25 = -1 := by rw [e25]; exact m1_ne (by omega)
          have e2 := hN.2 (4 * a + ss) (by omega)
          rw [show (4 * a + ss) / 4 = a by omega, show (4 * a + ss) % 4 = ss by omega, h2] at e2
          have em2 : x25 * 4 + nI ss = nI (4 * a + ss) := by rw [e25, lit32 4, pk_mul, nI_add, Nat.mul_comm]
          refine ⟨fun _ => ?_, fun hc => absurd hc ne1⟩
          rw [em2]
          simp (disch := omega) only [zIN, zCL, e2]
          refine ⟨by omega, fun x28 e28 => ⟨fun _ => ⟨fun _ x30 e30 x32 e32 => ?_, fun hc => ?_⟩, fun hc => absurd hc ne1⟩⟩
          · rw [inc e32, e30, e28, zm3 (by omega)]; exact K
          · rw [e28] at hc
            exact absurd hc (m1_ne (by omega))
  refine vcX4_traceRim hL o io (fun s1 e1 => ?_)
  have c1 : Ch (chR o) noL σ s1 := by rw [e1]; exact Ch.rf.si (Or.inr ⟨rfl, rfl⟩)
  exact loop E 0 s1 rfl (by omega) c1 (by rw [e1, mi_si, if_pos ⟨rfl, rfl⟩]; rfl) (fun j hj => by omega) (fun q hq => by rw [e1, mi_si, if_neg (by omega), hA q hq]; rfl)
abbrev chN (o : Nat) : Nat → Nat → Prop := fun a i => a = o + 2 ∨ a = o + 3 ∨ (a = o ∧ i = 3)
theorem sp_numberCells {g : GV} {d o : Nat} {rw' : Nat → Nat} {gr : Nat → Bool} {σ : PS} (hL : Lay σ) (io : isF o) (hr : ∀ r, r < 16 → mi σ (o + 1) r = nI (rw' r) ∧ rw' r < 65536) (hg : ∀ k, k < 256 → gr k = (rw' (k / 16)).testBit (k % 16)) (hn : cnt gr 256 ≤ 10) :
    CX4_numberCells g d [.ref o] σ (fun s => FC s o (cnt gr 256) (gX gr) (gY gr) ∧ Ch (chN o) noL σ s) := by
  generalize hP : (fun (s : PS) => FC s o (cnt gr 256) (gX gr) (gY gr) ∧ Ch (chN o) noL σ s) = P
  have l15 : ∀ (r : Nat), r < 16 → (∀ s, Ch (chN o) noL σ s → mi s o 3 = nI (cnt gr (16 * (r + 1))) → (∀ i, i < cnt gr (16 * (r + 1)) → mi s (o + 2) i = nI (gX gr i) ∧ mi s (o + 3) i = nI (gY gr i)) → VX4_numberCells g d P 7 [some (.ref o), some (.int (nI (r + 1))), none] [] s) →
      ∀ (z t : Nat) (s : PS), z = 16 - t → t ≤ 16 → Ch (chN o) noL σ s → mi s o 3 = nI (cnt gr (16 * r + t)) → (∀ i, i < cnt gr (16 * r + t) → mi s (o + 2) i = nI (gX gr i) ∧ mi s (o + 3) i = nI (gY gr i)) →
        VX4_numberCells g d P 15 [some (.ref o), some (.int (nI r)), some (.int (nI t))] [] s := by
    intro r hr2 K z
    induction z with
    | zero =>
      intro t s hz ht c h0 hi
      have e : t = 16 := by omega
      subst e
      refine vcX4_numberCells_15 (c.lay hL) o io _ _ ⟨fun _ x3 e3 => ?_, fun hc => absurd (show (16 : Int32) ≤ nI 16 by decide) hc⟩
      rw [inc e3]
      exact K s c h0 hi
    | succ z ih =>
      intro t s hz ht c h0 hi
      obtain ⟨r1, r2⟩ := hr r hr2
      have r3 : mi s (o + 1) r = nI (rw' r) := by rw [c.i (by simp [chN])]; exact r1
      have hgk := hg (16 * r + t) (by omega)
      rw [show (16 * r + t) / 16 = r by omega, show (16 * r + t) % 16 = t by omega] at hgk
      have hcm := cnt_mono_n (gr := gr) (show 16 * r + t ≤ 256 by omega)
      refine vcX4_numberCells_15 (c.lay hL) o io _ _ ⟨fun hc => ?_, fun _ => ?_⟩
      · rw [lit32 16, zLE (by omega) (by omega)] at hc
        omega
      · simp (disch := omega) only [zIN, zCL, r3]
        rw [zBIT (by omega) (by omega), ← hgk]
        refine ⟨by omega, fun hf x6 e6 => ?_, fun hf => ?_⟩
        · have hgf : gr (16 * r + t) = false := by
            cases hq : gr (16 * r + t) with
            | false => rfl
            | true => rw [hq] at hf; exact absurd hf (by decide)
          have ec : cnt gr (16 * r + (t + 1)) = cnt gr (16 * r + t) := by
            show cnt gr (16 * r + t + 1) = _
            rw [cnt_s, hgf]; simp
          rw [inc e6]
          exact ih (t + 1) s (by omega) (by omega) c (by rw [ec]; exact h0) (fun i hi2 => hi i (by omega))
        · have hgt : gr (16 * r + t) = true := by
            cases hq : gr (16 * r + t) with
            | true => rfl
            | false => rw [hq] at hf; exact absurd rfl hf
          obtain ⟨a1, a2⟩ := g_at (by omega) hgt
          have ec : cnt gr (16 * r + (t + 1)) = cnt gr (16 * r + t) + 1 := by
            show cnt gr (16 * r + t + 1) = _
            rw [cnt_s, hgt]; simp
          rw [h0]
          refine ⟨fun hc => ?_, fun _ => ?_⟩
          · rw [lit32 10, zLE (by omega) (by omega)] at hc
            omega
          · simp (disch := omega) only [zIN, zCL]
            refine ⟨by omega, fun s11 e11 => ?_⟩
            have f11 : mi s11 o 3 = nI (cnt gr (16 * r + t)) := by rw [e11, mi_si, if_neg (by omega)]; exact h0
            rw [f11]
            simp (disch := omega) only [zIN, zCL]
            refine ⟨by omega, fun s14 e14 s16 e16 x18 e18 => ?_⟩
            have f14 : mi s14 o 3 = nI (cnt gr (16 * r + t)) := by rw [e14, mi_si, if_neg (by omega)]; exact f11
            rw [f14, lit32 1, nI_add] at e16
            have c2 : Ch (chN o) noL σ s16 := by rw [e16, e14, e11]; exact ((c.si (by simp [chN])).si (by simp [chN])).si (by simp [chN])
            rw [inc e18]
            refine ih (t + 1) s16 (by omega) (by omega) c2 ?_ (fun i hi2 => ?_)
            · rw [e16, mi_si, if_pos ⟨rfl, rfl⟩, ec]
            · rw [e16, e14, e11]
              simp only [mi_si]
              by_cases q : i = cnt gr (16 * r + t)
              · subst q
                have hx : gX gr (cnt gr (16 * r + t)) = t := by unfold gX; rw [a1]; omega
                have hy : gY gr (cnt gr (16 * r + t)) = r := by unfold gY; rw [a1]; omega
                simp [hx, hy]
              · have := hi i (by omega)
                simp [q, this.1, this.2]
  have l7 : ∀ (z r : Nat) (s : PS), z = 16 - r → r ≤ 16 → Ch (chN o) noL σ s → mi s o 3 = nI (cnt gr (16 * r)) → (∀ i, i < cnt gr (16 * r) → mi s (o + 2) i = nI (gX gr i) ∧ mi s (o + 3) i = nI (gY gr i)) →
      VX4_numberCells g d P 7 [some (.ref o), some (.int (nI r)), none] [] s := by
    intro z
    induction z with
    | zero =>
      intro r s hz hr2 c h0 hi
      have e : r = 16 := by omega
      subst e
      refine vcX4_numberCells_7 (c.lay hL) o io _ ⟨fun _ => ?_, fun hc => absurd (show (16 : Int32) ≤ nI 16 by decide) hc⟩
      rw [← hP]
      exact ⟨⟨h0, hn, fun i h => g_b h, fun i h => (hi i h).1, fun i h => (hi i h).2⟩, c⟩
    | succ z ih =>
      intro r s hz hr2 c h0 hi
      refine vcX4_numberCells_7 (c.lay hL) o io _ ⟨fun hc => ?_, fun _ => ?_⟩
      · rw [lit32 16, zLE (by omega) (by omega)] at hc
        omega
      · exact l15 r (by omega) (fun s2 c2 a b => ih (r + 1) s2 (by omega) (by omega) c2 a b) 16 0 s rfl (by omega) c h0 hi
  refine vcX4_numberCells hL o io (fun s1 e1 => ?_)
  exact l7 16 0 s1 rfl (by omega) (by rw [e1]; exact Ch.rf.si (by simp [chN])) (by rw [e1, mi_si, if_pos ⟨rfl, rfl⟩]; rfl) (fun i hi => absurd hi (Nat.not_lt_zero _))
/-- laying a field of rows at p as figure o: its fault, and the figure if there is none -/
theorem sp_lay {g : GV} {d o p np : Nat} {rw' : Nat → Nat} {gr : Nat → Bool} {σ : PS} (hL : Lay σ) (io : isF o) (hk : kd σ p = some (.inr (0, np))) (hnp : 16 ≤ np) (hpo : p < o ∨ o + 8 < p) (hr : ∀ r, r < 16 → mi σ p r = nI (rw' r) ∧ rw' r < 65536) (hg : ∀ k, k < 256 → gr k = (rw' (k / 16)).testBit (k % 16)) (hn : cnt gr 256 ≤ 10) :
    CX4_lay g (d + 2) [.ref o, .ref p] σ (fun v s => Ch (chF o) noL σ s ∧ (∃ E, (0 < cnt gr 256 → Per (cnt gr 256) (gX gr) (gY gr) E ∧ E ≤ opc (cnt gr 256) (gX gr) (gY gr)) ∧ v = nI (fgF (cnt gr 256) (gX gr) (gY gr) E) ∧ (fgF (cnt gr 256) (gX gr) (gY gr) E = 0 → FF s o (cnt gr 256) (gX gr) (gY gr) E ∧ E ≤ 22)) ∧ ∀ r, r < 16 → mi s (o + 1) r = nI (rw' r)) := by
  have hx : ∃ E, 0 < cnt gr 256 → Per (cnt gr 256) (gX gr) (gY gr) E ∧ E ≤ opc (cnt gr 256) (gX gr) (gY gr) := by
    by_cases h : 0 < cnt gr 256
    · obtain ⟨E, a, b, c, e, f⟩ := rim_period (g_dst gr) (g_opn h)
      exact ⟨E, fun _ => ⟨⟨a, c, e, f⟩, b⟩⟩
    · exact ⟨0, fun q => absurd q h⟩
  obtain ⟨E, hE⟩ := hx
  refine vcX4_lay hL o io p np hk ⟨⟨by decide, by decide, by decide, by rw [cl0, cl16]; omega, by decide⟩, fun s2 e2 => ?_⟩
  rw [cl0, cl16] at e2
  have c2 : Ch (chF o) noL σ s2 := by rw [e2]; exact Ch.rf.sa (fun k => Or.inl ⟨by omega, by omega⟩)
  have hr2 : ∀ r, r < 16 → mi s2 (o + 1) r = nI (rw' r) ∧ rw' r < 65536 := by
    intro r h
    rw [e2, mi_sa, if_pos rfl, cpy0 h]
    exact hr r h
  refine Ct.imp (sp_numberCells (c2.lay hL) io hr2 hg hn) (fun r s4 q => ?_)
  obtain ⟨rfl, hC, c4'⟩ := q
  have c4 : Ch (chF o) noL σ s4 := c2.trans (c4'.mono (fun a i h => by rcases h with h | h | h <;> exact ⟨by omega, by omega⟩) (fun _ _ h => h))
  have hr4 : ∀ r, r < 16 → mi s4 (o + 1) r = nI (rw' r) := fun r h => by rw [c4'.i (by simp [chN])]; exact (hr2 r h).1
  refine ⟨rfl, c4'.fr, fun hne => ?_, fun heq => ?_⟩
  · rw [hC.1, nI0 (by omega)] at hne
    have hpos : 0 < cnt gr 256 := by omega
    obtain ⟨hper, hle⟩ := hE hpos
    refine Ct.imp (sp_linkCells (c4.lay hL) io hC) (fun r s6 q => ?_)
    obtain ⟨v, rfl, rfl, hN, hA, c6'⟩ := q
    have c6 : Ch (chF o) noL σ s6 := c4.trans (c6'.mono (fun a i h => by rcases h with h | h <;> exact ⟨by omega, by omega⟩) (fun _ _ h => h))
    have hr6 : ∀ r, r < 16 → mi s6 (o + 1) r = nI (rw' r) := fun r h => by rw [c6'.i (by simp)]; exact hr4 r h
    refine ⟨_, rfl, c6'.fr, Ct.imp (sp_hangs4 (c6.lay hL) io hN hpos) (fun r s8 q => ?_)⟩
    obtain ⟨v, rfl, rfl, rfl⟩ := q
    refine ⟨_, rfl, Fr.rf, fun hv => ?_, fun hv => ?_⟩
    · have hh : itr (cnt gr 256) (gX gr) (gY gr) (cnt gr 256) = 2 ^ cnt gr 256 - 1 := Classical.byContradiction fun q => hv (by rw [if_neg q])
      have ho := opc_le hpos (g_dst gr) hh
      have hE22 : E ≤ 22 := by omega
      refine Ct.imp (sp_traceRim (c6.lay hL) io hN hA (g_dst gr) (g_opn hpos) hper hE22) (fun r s10 q => ?_)
      obtain ⟨rfl, hF, c10'⟩ := q
      have c10 : Ch (chF o) noL σ s10 := c6.trans (c10'.mono (fun a i h => by rcases h with h | h <;> exact ⟨by omega, by omega⟩) (fun _ _ h => h))
      have hr10 : ∀ r, r < 16 → mi s10 (o + 1) r = nI (rw' r) := fun r h => by rw [c10'.i (by simp [chR])]; exact hr6 r h
      have hf : fgF (cnt gr 256) (gX gr) (gY gr) E = if E = opc (cnt gr 256) (gX gr) (gY gr) then 0 else 10 := by
        unfold fgF
        rw [if_neg hne, if_pos hh]
      refine ⟨rfl, c10'.fr, ?_⟩
      rw [hF.2.1, zEQ (by omega) (by omega)]
      refine ⟨fun h1 => ⟨c10, ⟨E, hE, by rw [hf, if_neg h1]; rfl, fun h0 => by rw [hf, if_neg h1] at h0; cases h0⟩, hr10⟩, fun h1 => ⟨c10, ⟨E, hE, by rw [hf, if_pos h1]; rfl, fun _ => ⟨hF, hE22⟩⟩, hr10⟩⟩
    · have hh : ¬ itr (cnt gr 256) (gX gr) (gY gr) (cnt gr 256) = 2 ^ cnt gr 256 - 1 := fun q => by rw [if_pos q] at hv; exact absurd hv (by decide)
      have hf : fgF (cnt gr 256) (gX gr) (gY gr) E = 9 := by
        unfold fgF
        rw [if_neg hne, if_neg hh]
      exact ⟨c6, ⟨E, hE, by rw [hf]; rfl, fun h0 => by rw [hf] at h0; cases h0⟩, hr6⟩
  · rw [hC.1, nI0 (by omega)] at heq
    have hf : fgF (cnt gr 256) (gX gr) (gY gr) E = 8 := by
      unfold fgF
      rw [if_pos heq]
    exact ⟨c4, ⟨E, hE, by rw [hf]; rfl, fun h0 => by rw [hf] at h0; cases h0⟩, hr4⟩
