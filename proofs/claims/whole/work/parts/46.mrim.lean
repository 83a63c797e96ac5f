/-! ===== the reference's rim ===== -/
theorem inc {k : Nat} {x : Int32} (h : x = nI k + 1) : x = nI (k + 1) := by rw [h, lit32 1, nI_add]
theorem zm1 {s : Nat} (hs : s < 1000) : jrem (nI s + 1) 4 = nI ((s + 1) % 4) := by
  rw [lit32 1, nI_add, lit32 4, zREM (by omega) (by omega) (by omega)]
theorem zm2 {s : Nat} (hs : s < 1000) : jrem (nI s + 2) 4 = nI ((s + 2) % 4) := by
  rw [lit32 2, nI_add, lit32 4, zREM (by omega) (by omega) (by omega)]
theorem zm3 {s : Nat} (hs : s < 1000) : jrem (nI s + 3) 4 = nI ((s + 3) % 4) := by
  rw [lit32 3, nI_add, lit32 4, zREM (by omega) (by omega) (by omega)]
def Per (n : Nat) (x y : Nat → Nat) (E : Nat) : Prop := 0 < E ∧ tr n x y E = (0, 0) ∧ (∀ j, 0 < j → j < E → tr n x y j ≠ (0, 0)) ∧ ∀ i j, i < E → j < E → tr n x y i = tr n x y j → i = j
theorem Per.uniq {n : Nat} {x y : Nat → Nat} {E F : Nat} (h : Per n x y E) (k : Per n x y F) : E = F := by
  rcases Nat.lt_trichotomy E F with q | q | q
  · exact absurd h.2.1 (k.2.2.1 E h.1 q)
  · exact q
  · exact absurd k.2.1 (h.2.2.1 F k.1 q)
theorem nI0 {a : Nat} (h : a < 1000) : (nI a = 0) = (a = 0) := by rw [lit32 0, zEQ (by omega) (by omega)]
theorem sp_rimmed {g : GV} {d n E : Nat} {x y : Nat → Nat} {σ : PS} (hL : Lay σ) (hM : MC σ n x y) (hD : Dst n x y) (ho : Opn n x y (0, 0)) (hE : Per n x y E) (hE4 : E ≤ 40) :
    CX12_rimmed g (d + 2) [.ref 179] σ (fun v t => v = nI E ∧ t = σ) := by
  have hn := hM.2.1
  generalize hP : (fun (v : Int32) (t : PS) => v = nI E ∧ t = σ) = P
  -- one step from tr k
  have stp : ∀ k, k < E → VX12_rimmed g (d + 2) P 6 [some (.ref 179), some (.int (nI (k + 1))), some (.int (nI (tr n x y (k + 1)).1)), some (.int (nI (tr n x y (k + 1)).2)), none, none, none] [] σ →
      CX12_behind g (d + 1) [.ref 179, .int (nI (tr n x y k).1), .int (jrem (nI (tr n x y k).2 + 1) 4)] σ (fun (v4 : Int32) (s3 : PS) => Fr σ s3 ∧ (0 ≤ v4 → CX12_behind g (d + 1) [.ref 179, .int v4, .int (nI (tr n x y k).2)] s3 (fun (v6 : Int32) (s5 : PS) => Fr s3 s5 ∧ VX12_rimmed g (d + 2) P 49 [some (.ref 179), some (.int (nI (k + 1))), some (.int (nI (tr n x y k).1)), some (.int (nI (tr n x y k).2)), some (.int v4), none, none] [.int v6] s5)) ∧ (¬ 0 ≤ v4 → VX12_rimmed g (d + 2) P 49 [some (.ref 179), some (.int (nI (k + 1))), some (.int (nI (tr n x y k).1)), some (.int (nI (tr n x y k).2)), some (.int v4), none, none] [.int (-1)] s3)) := by
    intro k hk K
    obtain ⟨o1, o2, o3⟩ := tr_open hD ho k
    have etr : tr n x y (k + 1) = (rimS n x y ((tr n x y k).1, (tr n x y k).2)).1 := rfl
    generalize (tr n x y k).1 = c at *
    generalize (tr n x y k).2 = s at *
    rw [zm1 (by omega)]
    refine Ct.imp (sp_behind hL hM o1 (by omega)) (fun rr t q => ?_)
    obtain ⟨v, rfl, rfl, rfl⟩ := q
    refine ⟨_, rfl, Fr.rf, ?_⟩
    rcases rim_cases n x y c s with ⟨h1, e⟩ | ⟨a, h1, h2, e⟩ | ⟨a, b, h1, h2, e⟩ <;> rw [etr, e] at K <;> simp only [h1, oI]
    · refine ⟨fun hc => absurd hc (by decide), fun _ => ?_⟩
      refine vcX12_rimmed_49 hL _ _ _ _ _ ⟨fun hc => absurd hc (by decide), fun _ => ⟨fun hc => absurd hc (by decide), fun _ x29 e29 => ?_⟩⟩
      rw [e29, zm1 (by omega)]
      exact K
    · have ha := (bhd_s h1).1
      have p1 : (0 : Int32) ≤ nI a := by rw [lit32 0, zLE (by omega) (by omega)]; omega
      refine ⟨fun _ => Ct.imp (sp_behind hL hM ha (by omega)) (fun rr t q => ?_), fun hc => absurd p1 hc⟩
      obtain ⟨v, rfl, rfl, rfl⟩ := q
      refine ⟨_, rfl, Fr.rf, ?_⟩
      rw [h2]
      refine vcX12_rimmed_49 hL _ _ _ _ _ ⟨fun _ => ⟨fun hc => absurd hc (show ¬ (0 : Int32) ≤ -1 by decide), fun _ => ⟨fun _ => ⟨fun hc => absurd hc (show ¬ (0 : Int32) ≤ -1 by decide), fun _ => K⟩, fun hc => absurd p1 hc⟩⟩, fun hc => absurd p1 hc⟩
    · have ha := (bhd_s h1).1
      have hb := (bhd_s h2).1
      have p1 : (0 : Int32) ≤ nI a := by rw [lit32 0, zLE (by omega) (by omega)]; omega
      have p2 : (0 : Int32) ≤ nI b := by rw [lit32 0, zLE (by omega) (by omega)]; omega
      refine ⟨fun _ => Ct.imp (sp_behind hL hM ha (by omega)) (fun rr t q => ?_), fun hc => absurd p1 hc⟩
      obtain ⟨v, rfl, rfl, rfl⟩ := q
      refine ⟨_, rfl, Fr.rf, ?_⟩
      rw [h2]
      refine vcX12_rimmed_49 hL _ _ _ _ _ ⟨fun _ => ⟨fun _ => ⟨fun _ => ⟨fun _ x19 e19 => ?_, fun hc => absurd p2 hc⟩, fun hc => absurd p1 hc⟩, fun hc => absurd p2 hc⟩, fun hc => absurd p1 hc⟩
      rw [e19, zm3 (by omega)]
      exact K
  have loop : ∀ (z k : Nat), z = E - k → k ≤ E → VX12_rimmed g (d + 2) P 6 [some (.ref 179), some (.int (nI k)), some (.int (nI (tr n x y k).1)), some (.int (nI (tr n x y k).2)), none, none, none] [] σ := by
    intro z
    induction z with
    | zero =>
      intro k hz hk
      have e : k = E := by omega
      subst e
      have e2 := hE.2.1
      refine vcX12_rimmed_6 hL _ _ _ ⟨fun hc => ?_, fun _ => ⟨fun hc => ?_, fun _ => ⟨fun _ => by rw [← hP]; exact ⟨rfl, rfl⟩, fun hc => ?_⟩⟩⟩
      · rw [nI0 (by omega)] at hc
        have := hE.1
        omega
      · rw [e2] at hc
        exact absurd (show nI 0 = 0 by decide) hc
      · rw [e2] at hc
        exact absurd (show nI 0 = 0 by decide) hc
    | succ z ih =>
      intro k hz hk
      have K := stp k (by omega) (ih (k + 1) (by omega) (by omega))
      obtain ⟨o1, o2, o3⟩ := tr_open hD ho k
      refine vcX12_rimmed_6 hL _ _ _ ⟨fun _ x1 e1 => ?_, fun h1 => ⟨fun _ x7 e7 => ?_, fun h2 => ⟨fun h3 => ?_, fun _ x13 e13 => ?_⟩⟩⟩
      · rw [inc e1]; exact K
      · rw [inc e7]; exact K
      · rw [nI0 (by omega)] at h1 h2 h3
        exact absurd (Prod.ext h2 h3) (hE.2.2.1 k (by omega) (by omega))
      · rw [inc e13]; exact K
  exact vcX12_rimmed hL (loop E 0 rfl (by omega))
/-- which edge a side is, among the first k -/
def eAt (n : Nat) (x y : Nat → Nat) (k q : Nat) : Option Nat := fnd (fun j => 4 * (tr n x y j).1 + (tr n x y j).2 == q) k
def qt (n : Nat) (x y : Nat → Nat) (E j : Nat) : Nat := if j = 0 then wy n x y (E - 1) else wy n x y (j - 1)
theorem fnd_succ_f {p : Nat → Bool} {k : Nat} (h : p k = false) : fnd p (k + 1) = fnd p k := by
  show (match fnd p k with | some k => some k | none => if p k then some k else none) = _
  cases hq : fnd p k with
  | none => simp [h]
  | some z => rfl
theorem eAt_step {n : Nat} {x y : Nat → Nat} {E k q : Nat} (hD : Dst n x y) (ho : Opn n x y (0, 0)) (hE : Per n x y E) (hk : k < E) : eAt n x y (k + 1) q = if q = 4 * (tr n x y k).1 + (tr n x y k).2 then some k else eAt n x y k q := by
  unfold eAt
  by_cases e : q = 4 * (tr n x y k).1 + (tr n x y k).2
  · rw [if_pos e]
    refine fnd_is (by omega) (by simp [e]) (fun j hj => ?_)
    cases hq : (4 * (tr n x y j).1 + (tr n x y j).2 == q) with
    | false => rfl
    | true =>
      have a := (tr_open hD ho j).2.1
      have b := (tr_open hD ho k).2.1
      simp only [beq_iff_eq] at hq
      have := hE.2.2.2 j k (by omega) hk (Prod.ext (by omega) (by omega))
      omega
  · rw [if_neg e]
    exact fnd_succ_f (by simp; omega)
theorem wy_le (n : Nat) (x y : Nat → Nat) (k : Nat) : 1 ≤ wy n x y k ∧ wy n x y k ≤ 3 := by
  unfold wy
  rcases rim_cases n x y (tr n x y k).1 (tr n x y k).2 with ⟨h1, e⟩ | ⟨a, h1, h2, e⟩ | ⟨a, b, h1, h2, e⟩ <;> rw [show rimS n x y (tr n x y k) = _ from e] <;> simp
abbrev chSh : Nat → Nat → Prop := fun a i => a = 203 ∨ a = 204 ∨ a = 205 ∨ a = 206 ∨ a = 209 ∨ (a = 179 ∧ (i = 38 ∨ i = 47 ∨ i = 51 ∨ i = 52))
/-- the reference's figure as it stands behind shapes -/
def MF (σ : PS) (n : Nat) (x y : Nat → Nat) (E : Nat) : Prop := MC σ n x y ∧ mi σ 179 38 = nI E ∧ (∀ j, j < E → mi σ 203 j = nI (tr n x y j).1 ∧ mi σ 204 j = nI (tr n x y j).2 ∧ mi σ 205 j = nI (qt n x y E j)) ∧ ∀ q, q < 40 → mi σ 206 q = oI (eAt n x y E q)
theorem sp_shapes {g : GV} {d n E : Nat} {x y : Nat → Nat} {σ : PS} (hL : Lay σ) (hM : MC σ n x y) (hD : Dst n x y) (ho : Opn n x y (0, 0)) (hE : Per n x y E) (hE4 : E ≤ 24) :
    CX12_shapes g (d + 2) [.ref 179] σ (fun s => MF s n x y E ∧ (∀ e, e < 24 → mi s 209 e = -1) ∧ mi s 179 47 = 0 ∧ mi s 179 51 = 0 ∧ mi s 179 52 = 0 ∧ Ch chSh noL σ s) := by
  have hn := hM.2.1
  generalize hP : (fun (s : PS) => MF s n x y E ∧ (∀ e, e < 24 → mi s 209 e = -1) ∧ mi s 179 47 = 0 ∧ mi s 179 51 = 0 ∧ mi s 179 52 = 0 ∧ Ch chSh noL σ s) = P
  have mcs : ∀ s, Ch chSh noL σ s → MC s n x y := fun s c => hM.ch c (by simp [chSh]) (by simp [chSh]) (by simp [chSh])
  -- the last loop: nothing glued
  have l219 : ∀ (z k : Nat) (s : PS), z = 24 - k → k ≤ 24 → Ch chSh noL σ s → MF s n x y E → mi s 179 47 = 0 → (∀ e, e < k → mi s 209 e = -1) → VX12_shapes g (d + 2) P 219 [some (.ref 179), none, none, none, some (.int (nI k)), none] [] s := by
    intro z
    induction z with
    | zero =>
      intro k s hz hk c hF h47 hg
      have e : k = 24 := by omega
      subst e
      refine vcX12_shapes_219 (c.lay hL) _ ⟨fun _ s30 e30 s32 e32 => ?_, fun hc => absurd (show (24 : Int32) ≤ nI 24 by decide) hc⟩
      have c2 : Ch chSh noL σ s32 := by rw [e32, e30]; exact (c.si (by simp [chSh])).si (by simp [chSh])
      rw [← hP]
      refine ⟨⟨mcs _ c2, ?_, fun j hj => ?_, fun q hq => ?_⟩, fun e he => ?_, ?_, ?_, ?_, c2⟩
      · rw [e32, e30]; simp [mi_si, hF.2.1]
      · rw [e32, e30]; simp [mi_si]; exact hF.2.2.1 j hj
      · rw [e32, e30]; simp [mi_si]; exact hF.2.2.2 q hq
      · rw [e32, e30]; simp [mi_si]; exact hg e he
      · rw [e32, e30]; simp [mi_si, h47]
      · rw [e32, e30]; simp [mi_si]
      · rw [e32, e30]; simp [mi_si]
    | succ z ih =>
      intro k s hz hk c hF h47 hg
      refine vcX12_shapes_219 (c.lay hL) _ ⟨fun hc => ?_, fun _ => ?_⟩
      · rw [lit32 24, zLE (by omega) (by omega)] at hc
        omega
      · simp (disch := omega) only [zIN, zCL]
        refine ⟨by omega, fun s35 e35 x37 e37 => ?_⟩
        have c2 : Ch chSh noL σ s35 := by rw [e35]; exact c.si (by simp [chSh])
        rw [inc e37]
        refine ih (k + 1) s35 (by omega) (by omega) c2 ⟨mcs _ c2, ?_, fun j hj => ?_, fun q hq => ?_⟩ ?_ (fun e he => ?_)
        · rw [e35]; simp [mi_si, hF.2.1]
        · rw [e35]; simp [mi_si]; exact hF.2.2.1 j hj
        · rw [e35]; simp [mi_si]; exact hF.2.2.2 q hq
        · rw [e35]; simp [mi_si, h47]
        · rw [e35, mi_si]
          by_cases q : e = k
          · rw [if_pos ⟨rfl, q⟩]
          · rw [if_neg (by omega)]; exact hg e (by omega)
  -- the rim
  have l32 : ∀ (z k : Nat) (s : PS), z = E - k → k ≤ E → Ch chSh noL σ s → mi s 179 38 = nI k → (∀ j, j < k → mi s 203 j = nI (tr n x y j).1 ∧ mi s 204 j = nI (tr n x y j).2 ∧ mi s 205 j = nI (if j = 0 then 0 else wy n x y (j - 1))) → (∀ q, q < 40 → mi s 206 q = oI (eAt n x y k q)) →
      VX12_shapes g (d + 2) P 32 [some (.ref 179), some (.int (nI (tr n x y k).1)), some (.int (nI (tr n x y k).2)), some (.int (nI (if k = 0 then 0 else wy n x y (k - 1)))), none, none] [] s := by
    intro z
    induction z with
    | zero =>
      intro k s hz hk c h38 hj hq
      have e : k = E := by omega
      subst e
      have hpos := hE.1
      refine vcX12_shapes_32 (c.lay hL) _ _ _ ⟨fun hc => ?_, fun _ => ⟨fun hc => ?_, fun _ => ⟨fun _ s8 e8 s10 e10 => ?_, fun hc => ?_⟩⟩⟩
      · rw [h38, nI0 (by omega)] at hc; omega
      · rw [hE.2.1] at hc; exact absurd (show nI 0 = 0 by decide) hc
      · have c2 : Ch chSh noL σ s10 := by rw [e10, e8]; exact (c.si (by simp [chSh])).si (by simp [chSh])
        refine l219 24 0 s10 rfl (by omega) c2 ⟨mcs _ c2, ?_, fun j hj2 => ?_, fun q hq2 => ?_⟩ ?_ (fun e he => by omega)
        · rw [e10, e8]; simp [mi_si, h38]
        · rw [e10, e8]
          obtain ⟨a1, a2, a3⟩ := hj j hj2
          simp only [mi_si, cl0]
          unfold qt
          by_cases q : j = 0
          · subst q
            simp [a1, a2, show ¬ k = 0 by omega]
          · simp [a1, a2, a3, q]
        · rw [e10, e8]; simp [mi_si]; exact hq q hq2
        · rw [e10]; simp [mi_si]
      · rw [hE.2.1] at hc; exact absurd (show nI 0 = 0 by decide) hc
    | succ z ih =>
      intro k s hz hk c h38 hj hq
      obtain ⟨o1, o2, o3⟩ := tr_open hD ho k
      have body : VX12_shapes g (d + 2) P 47 [some (.ref 179), some (.int (nI (tr n x y k).1)), some (.int (nI (tr n x y k).2)), some (.int (nI (if k = 0 then 0 else wy n x y (k - 1)))), none, none] [] s := by
        have e4 : (4 : Int32) * nI (tr n x y k).1 + nI (tr n x y k).2 = nI (4 * (tr n x y k).1 + (tr n x y k).2) := by rw [lit32 4, pk_mul, nI_add]
        refine vcX12_shapes_47 (c.lay hL) _ _ _ ?_
        rw [h38, e4]
        simp (disch := omega) only [zIN, zCL]
        refine ⟨by omega, fun s13 e13 => ?_⟩
        have f13 : mi s13 179 38 = nI k := by rw [e13, mi_si, if_neg (by omega)]; exact h38
        rw [f13]
        simp (disch := omega) only [zIN, zCL]
        refine ⟨by omega, fun s16 e16 => ?_⟩
        have f16 : mi s16 179 38 = nI k := by rw [e16, mi_si, if_neg (by omega)]; exact f13
        rw [f16]
        simp (disch := omega) only [zIN, zCL]
        refine ⟨by omega, fun s19 e19 => ⟨by omega, fun s22 e22 s24 e24 => ?_⟩⟩
        have f19 : mi s19 179 38 = nI k := by rw [e19, mi_si, if_neg (by omega)]; exact f16
        have f22 : mi s22 179 38 = nI k := by rw [e22, mi_si, if_neg (by omega)]; exact f19
        rw [f19] at e22
        rw [f22, lit32 1, nI_add] at e24
        have c2 : Ch chSh noL σ s24 := by
          rw [e24, e22, e19, e16, e13]
          exact ((((c.si (by simp [chSh])).si (by simp [chSh])).si (by simp [chSh])).si (by simp [chSh])).si (by simp [chSh])
        have hM2 := mcs _ c2
        have hL2 := c2.lay hL
        have K : VX12_shapes g (d + 2) P 32 [some (.ref 179), some (.int (nI (tr n x y (k + 1)).1)), some (.int (nI (tr n x y (k + 1)).2)), some (.int (nI (wy n x y k))), none, none] [] s24 := by
          have := ih (k + 1) s24 (by omega) (by omega) c2 ?_ (fun j hj2 => ?_) (fun q hq2 => ?_)
          · rw [if_neg (by omega), show k + 1 - 1 = k by omega] at this
            exact this
          · rw [e24, mi_si, if_pos ⟨rfl, rfl⟩]
          · rw [e24, e22, e19, e16, e13]
            simp only [mi_si]
            by_cases q : j = k
            · subst q
              simp
            · obtain ⟨a1, a2, a3⟩ := hj j (by omega)
              simp [q, a1, a2, a3]
          · rw [e24, e22, e19, e16, e13]
            rw [eAt_step hD ho hE (by omega)]
            simp only [mi_si]
            by_cases q2 : q = 4 * (tr n x y k).1 + (tr n x y k).2
            · simp [q2, oI]
            · simp [q2, hq q hq2]
        have etr : tr n x y (k + 1) = (rimS n x y ((tr n x y k).1, (tr n x y k).2)).1 := rfl
        have ewy : wy n x y k = (rimS n x y ((tr n x y k).1, (tr n x y k).2)).2 := rfl
        rw [etr, ewy] at K
        clear ih hj hq e13 e16 e19 e22 e24 f13 f16 f19 f22 e4 etr ewy
        generalize (tr n x y k).1 = cc at *
        generalize (tr n x y k).2 = ss at *
        rw [zm1 (by omega)]
        refine Ct.imp (sp_behind hL2 hM2 o1 (by omega)) (fun rr t q => ?_)
        obtain ⟨v, rfl, rfl, rfl⟩ := q
        refine ⟨_, rfl, Fr.rf, ?_⟩
        rcases rim_cases n x y cc ss with ⟨h1, e⟩ | ⟨a, h1, h2, e⟩ | ⟨a, b, h1, h2, e⟩ <;> rw [e] at K <;> simp only [h1, oI]
        · refine ⟨fun hc => absurd hc (by decide), fun _ => ⟨fun hc => absurd hc (by decide), fun _ => ?_⟩⟩
          refine vcX12_shapes_150 hL2 _ _ _ _ _ ⟨fun hc => absurd rfl hc, fun _ x41 e41 => ⟨fun hc => absurd rfl hc, fun _ => ?_⟩⟩
          rw [e41, zm1 (by omega)]
          exact K
        · have ha := (bhd_s h1).1
          have p1 : (0 : Int32) ≤ nI a := by rw [lit32 0, zLE (by omega) (by omega)]; omega
          refine ⟨fun _ => Ct.imp (sp_behind hL2 hM2 ha (by omega)) (fun rr t q => ?_), fun hc => absurd p1 hc⟩
          obtain ⟨v, rfl, rfl, rfl⟩ := q
          refine ⟨_, rfl, Fr.rf, fun _ => ⟨fun hc => ?_, fun _ => ?_⟩, fun hc => absurd p1 hc⟩
          · rw [h2] at hc; exact absurd hc (by decide)
          · exact vcX12_shapes_150 hL2 _ _ _ _ _ ⟨fun _ => ⟨fun hc => absurd rfl hc, fun _ => ⟨fun _ => ⟨fun hc => absurd rfl hc, fun _ => K⟩, fun hc => absurd hc (by decide)⟩⟩, fun hc => absurd hc (by decide)⟩
        · have ha := (bhd_s h1).1
          have hb := (bhd_s h2).1
          have p1 : (0 : Int32) ≤ nI a := by rw [lit32 0, zLE (by omega) (by omega)]; omega
          have p2 : (0 : Int32) ≤ nI b := by rw [lit32 0, zLE (by omega) (by omega)]; omega
          refine ⟨fun _ => Ct.imp (sp_behind hL2 hM2 ha (by omega)) (fun rr t q => ?_), fun hc => absurd p1 hc⟩
          obtain ⟨v, rfl, rfl, rfl⟩ := q
          refine ⟨_, rfl, Fr.rf, fun _ => ⟨fun _ => ?_, fun hc => ?_⟩, fun hc => absurd p1 hc⟩
          · rw [h2]
            refine vcX12_shapes_150 hL2 _ _ _ _ _ ⟨fun _ => ⟨fun _ x39 e39 => ⟨fun _ => ⟨fun _ => ?_, fun hc => absurd hc (by decide)⟩, fun hc => absurd hc (by decide)⟩, fun hc => absurd hc (by decide)⟩, fun hc => absurd hc (by decide)⟩
            rw [e39, zm3 (by omega)]
            exact K
          · rw [h2] at hc; exact absurd p2 hc
      refine vcX12_shapes_32 (c.lay hL) _ _ _ ⟨fun _ => body, fun h1 => ⟨fun _ => body, fun h2 => ⟨fun h3 => ?_, fun _ => body⟩⟩⟩
      rw [h38, nI0 (by omega)] at h1
      rw [nI0 (by omega)] at h2 h3
      exact absurd (Prod.ext h2 h3) (hE.2.2.1 k (by omega) (by omega))
  -- the first loop: no edges
  have l2 : ∀ (z k : Nat) (s : PS), z = 40 - k → k ≤ 40 → Ch chSh noL σ s → (∀ q, q < k → mi s 206 q = -1) → VX12_shapes g (d + 2) P 2 [some (.ref 179), some (.int (nI k)), none, none, none, none] [] s := by
    intro z
    induction z with
    | zero =>
      intro k s hz hk c hq
      have e : k = 40 := by omega
      subst e
      refine vcX12_shapes_2 (c.lay hL) _ ⟨fun _ s1 e1 => ?_, fun hc => absurd (show (40 : Int32) ≤ nI 40 by decide) hc⟩
      have c2 : Ch chSh noL σ s1 := by rw [e1]; exact c.si (by simp [chSh])
      exact l32 E 0 s1 rfl (by omega) c2 (by rw [e1, mi_si, if_pos ⟨rfl, rfl⟩]; rfl) (fun j hj => by omega) (fun q hq2 => by rw [e1, mi_si, if_neg (by omega), hq q hq2]; rfl)
    | succ z ih =>
      intro k s hz hk c hq
      refine vcX12_shapes_2 (c.lay hL) _ ⟨fun hc => ?_, fun _ => ?_⟩
      · rw [lit32 40, zLE (by omega) (by omega)] at hc
        omega
      · simp (disch := omega) only [zIN, zCL]
        refine ⟨by omega, fun s4 e4 x6 e6 => ?_⟩
        have c2 : Ch chSh noL σ s4 := by rw [e4]; exact c.si (by simp [chSh])
        rw [inc e6]
        refine ih (k + 1) s4 (by omega) (by omega) c2 (fun q hq2 => ?_)
        rw [e4, mi_si]
        by_cases e : q = k
        · rw [if_pos ⟨rfl, e⟩]
        · rw [if_neg (by omega)]; exact hq q (by omega)
  exact vcX12_shapes hL (l2 40 0 σ rfl (by omega) Ch.rf (fun q hq => by omega))
