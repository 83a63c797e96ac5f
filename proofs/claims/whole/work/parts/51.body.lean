/-! ===== the class's Body; the reference's beyond ===== -/
/-- what a Body holds of f: beyond -/
def BD (σ : PS) (o n : Nat) (f : Nat → Nat) : Prop := mi σ o 0 = nI n ∧ n ≤ 10 ∧ ∀ q, q < 4 * n → f q < 4 * n ∧ mi σ (o + 1) q = nI (f q / 4) ∧ mi σ (o + 2) q = nI (f q % 4)
abbrev chB (o : Nat) : Nat → Nat → Prop := fun a _ => o ≤ a ∧ a ≤ o + 3
theorem BD.ch {σ s : PS} {o n : Nat} {f : Nat → Nat} {Pm Pl : Nat → Nat → Prop} (h : BD σ o n f) (c : Ch Pm Pl σ s) (h0 : ¬ Pm o 0) (h1 : ∀ i, ¬ Pm (o + 1) i) (h2 : ∀ i, ¬ Pm (o + 2) i) : BD s o n f :=
  ⟨by rw [c.i h0]; exact h.1, h.2.1, fun q hq => ⟨(h.2.2 q hq).1, by rw [c.i (h1 q)]; exact (h.2.2 q hq).2.1, by rw [c.i (h2 q)]; exact (h.2.2 q hq).2.2⟩⟩
theorem sp_hasCell2 {g : GV} {d o n : Nat} {σ : PS} (hL : Lay σ) (io : isB o) (h0 : mi σ o 0 = nI n) (a : Int32) :
    CX2_hasCell g d [.ref o, .int a] σ (fun v s => v = (if 0 ≤ a ∧ a < nI n then 1 else 0) ∧ s = σ) := by
  refine vcX2_hasCell hL o io _ ?_
  rw [h0]
  refine ⟨fun h => ⟨?_, rfl⟩, fun h => ⟨fun h2 => ⟨?_, rfl⟩, fun h2 => ⟨?_, rfl⟩⟩⟩
  · rw [if_neg (fun q => Int32.not_lt.mpr q.1 h)]
  · rw [if_neg (fun q => Int32.not_le.mpr q.2 h2)]
  · rw [if_pos ⟨Int32.not_lt.mp h, Int32.not_le.mp h2⟩]
theorem sp_turnAt2 {g : GV} {d o n q : Nat} {f : Nat → Nat} {σ : PS} (hL : Lay σ) (io : isB o) (hB : BD σ o n f) (hi : ∀ a b, a < 4 * n → b < 4 * n → f (nxs a) = f (nxs b) → a = b) (hq : q < 4 * n) :
    CX2_turnAt g d [.ref o, .int (nI q)] σ (fun v s => v = nI (orb (fun z => f (nxs z)) (4 * n) q) ∧ s = σ) := by
  obtain ⟨h0, hn, h1⟩ := hB
  have hf : ∀ z, z < 4 * n → (fun z => f (nxs z)) z < 4 * n := fun z hz => (h1 _ (nxs_lt hz)).1
  obtain ⟨t0, t1, t2, t3⟩ := orb_is hf hi hq
  generalize hT : orb (fun z => f (nxs z)) (4 * n) q = T at *
  have loop : ∀ (z k : Nat), z = T - k → k < T → VX2_turnAt g d (fun v s => v = nI T ∧ s = σ) 4 [some (.ref o), some (.int (nI q)), some (.int (nI (itf (fun z => f (nxs z)) k q))), some (.int (nI k)), none] [] σ := by
    intro z
    induction z with
    | zero => intro k hz hk; omega
    | succ z ih =>
      intro k hz hk
      have hp := itf_lt hf hq k
      have e1 : nI (itf (fun z => f (nxs z)) k q) / 4 * 4 + jrem (nI (itf (fun z => f (nxs z)) k q) + 1) 4 = nI (nxs (itf (fun z => f (nxs z)) k q)) := by
        rw [zm1 (by omega), lit32 4, zDIV (by omega) (by omega) (by omega), pk_mul, nI_add]
        unfold nxs
        rw [Nat.mul_comm]
      have hx := nxs_lt hp
      obtain ⟨a1, a2, a3⟩ := h1 _ hx
      have es : itf (fun z => f (nxs z)) (k + 1) q = f (nxs (itf (fun z => f (nxs z)) k q)) := rfl
      refine vcX2_turnAt_4 hL o io _ _ _ (fun x1 q1 => ?_)
      rw [e1] at q1
      subst q1
      generalize itf (fun z => f (nxs z)) k q = P at *
      simp (disch := omega) only [zIN, zCL, a2, a3]
      refine ⟨by omega, by omega, fun x5 q5 x7 q7 => ?_⟩
      have q5' : x5 = nI (f (nxs P)) := by
        rw [q5, lit32 4, pk_mul, nI_add]
        congr 1
        omega
      rw [inc q7, q5', zEQ (by omega) (by omega)]
      refine ⟨fun heq => ?_, fun hne => ⟨fun _ => ?_, fun hc => ?_⟩⟩
      · have : T = k + 1 := by
          rcases Nat.lt_or_ge (k + 1) T with w | w
          · exact absurd (es.trans heq) (t3 (k + 1) (by omega) w)
          · omega
        exact ⟨by rw [this], trivial⟩
      · have hk2 : k + 1 < T := by
          rcases Nat.lt_or_ge (k + 1) T with w | w
          · exact w
          · have : T = k + 1 := by omega
            rw [this, es] at t2
            exact absurd t2 hne
        have := ih (k + 1) (by omega) hk2
        rw [es] at this
        exact this
      · have hk2 : k + 1 < T := by
          rcases Nat.lt_or_ge (k + 1) T with w | w
          · exact w
          · have : T = k + 1 := by omega
            rw [this, es] at t2
            exact absurd t2 hne
        rw [lit32 40, zLT (by omega) (by omega)] at hc
        omega
  exact vcX2_turnAt hL o io _ (loop T 0 rfl t0)
theorem isB_F {o p : Nat} (hB : isB o) (hF : isF p) : p + 8 < o := by
  unfold isB at hB
  unfold isF at hF
  simp only [List.mem_cons, List.not_mem_nil, or_false] at hB hF
  omega
/-- a Body with its turns -/
def BF (σ : PS) (o n : Nat) (x y : Nat → Nat) (E : Nat) (m : Nat → Nat) : Prop := BD σ o n (bdy n x y E m) ∧ ∀ q, q < 4 * n → mi σ (o + 3) q = nI (tn n x y E m q)
theorem i01 {a : Int32} {c : Prop} [Decidable c] (h : a = if c then 1 else 0) : (a = 0) = ¬ c := by
  rw [h]
  by_cases q : c
  · rw [if_pos q]; simp [q]
  · rw [if_neg q]; simp [q]
theorem sp_fold {g : GV} {d o p w nw n E : Nat} {x y m : Nat → Nat} {σ : PS} (hL : Lay σ) (io : isB o) (ip : isF p) (hk : kd σ w = some (.inr (0, nw))) (hnw : E ≤ nw) (hw : w < o ∨ o + 3 < w) (hF : FF σ p n x y E) (hV : VF n x y E) (hm : Mt E m) (hmw : ∀ e, e < E → mi σ w e = nI (m e)) (hnw2 : nw < 1000) :
    CX2_fold g (d + 1) [.ref o, .ref p, .ref w] σ (fun s => BF s o n x y E m ∧ Ch (chB o) noL σ s) := by
  have hpo := isB_F io ip
  have hn := hV.2.1
  have hE := hV.2.2.2.2.2.2
  generalize hP : (fun (s : PS) => BF s o n x y E m ∧ Ch (chB o) noL σ s) = P
  have hf : ∀ z, z < 4 * n → bdy n x y E m z < 4 * n := fun z hz => bdy_lt hV hz
  have l116 : ∀ (z q : Nat) (s : PS), z = 4 * n - q → q ≤ 4 * n → Ch (chB o) noL σ s → BD s o n (bdy n x y E m) → (∀ j, j < q → mi s (o + 3) j = nI (tn n x y E m j)) →
      VX2_fold g (d + 1) P 116 [some (.ref o), none, none, some (.int (nI q)), none, none] [] s := by
    intro z
    induction z with
    | zero =>
      intro q s hz hq c hb ht
      have e : q = 4 * n := by omega
      subst e
      refine vcX2_fold_116 (c.lay hL) o io _ ⟨fun _ => by rw [← hP]; exact ⟨⟨hb, ht⟩, c⟩, fun hc => ?_⟩
      exact absurd (by rw [hb.1, lit32 4, pk_mul, zLE (by omega) (by omega)]; omega) hc
    | succ z ih =>
      intro q s hz hq c hb ht
      refine vcX2_fold_116 (c.lay hL) o io _ ⟨fun hc => ?_, fun _ => ?_⟩
      · rw [hb.1, lit32 4, pk_mul, zLE (by omega) (by omega)] at hc
        omega
      · refine Ct.imp (sp_turnAt2 (c.lay hL) io hb (rot_inj hV hm) (by omega)) (fun r s1 w1 => ?_)
        obtain ⟨v, rfl, rfl, rfl⟩ := w1
        simp (disch := omega) only [zIN, zCL]
        refine ⟨_, rfl, Fr.rf, by omega, fun s56 e56 x58 e58 => ?_⟩
        have c2 : Ch (chB o) noL σ s56 := by rw [e56]; exact c.si ⟨by omega, by omega⟩
        have c3 : Ch (fun a _ => a = o + 3) noL s1 s56 := by rw [e56]; exact Ch.rf.si rfl
        rw [inc e58]
        refine ih (q + 1) s56 (by omega) (by omega) c2 (hb.ch c3 (by omega) (fun i => by omega) (fun i => by omega)) (fun j hj => ?_)
        rw [e56, mi_si]
        by_cases e : j = q
        · rw [if_pos ⟨rfl, e⟩, e]; rfl
        · rw [if_neg (by omega)]; exact ht j (by omega)
  have l10 : ∀ (z q : Nat) (s : PS), z = 4 * n - q → q ≤ 4 * n → Ch (chB o) noL σ s → mi s o 0 = nI n → (∀ j, j < q → mi s (o + 1) j = nI (bdy n x y E m j / 4) ∧ mi s (o + 2) j = nI (bdy n x y E m j % 4)) →
      VX2_fold g (d + 1) P 10 [some (.ref o), some (.ref p), some (.ref w), some (.int (nI q)), none, none] [] s := by
    intro z
    induction z with
    | zero =>
      intro q s hz hq c h0 hb
      have e : q = 4 * n := by omega
      subst e
      have hkw : kd s w = some (.inr (0, nw)) := by rw [c.fr.1]; exact hk
      refine vcX2_fold_10 (c.lay hL) o io p ip w nw hkw _ ⟨fun _ => ?_, fun hc => ?_⟩
      · exact l116 (4 * n) 0 s rfl (by omega) c ⟨h0, hn, fun q h => ⟨hf q h, hb q h⟩⟩ (fun j hj => by omega)
      · exact absurd (by rw [h0, lit32 4, pk_mul, zLE (by omega) (by omega)]; omega) hc
    | succ z ih =>
      intro q s hz hq c h0 hb
      have hkw : kd s w = some (.inr (0, nw)) := by rw [c.fr.1]; exact hk
      have hL2 := c.lay hL
      have f6 : mi s p 6 = nI E := by rw [c.i (by omega)]; exact hF.2.1
      have f5 : mi s (p + 5) q = oI (eAt n x y E q) := by rw [c.i (by omega)]; exact hF.2.2.2 q (by omega)
      have f4 : mi s (p + 4) q = oI (bhd n x y (q / 4) (q % 4)) := by rw [c.i (by omega)]; exact hF.1.2 q (by omega)
      have nxt : ∀ s2, Ch (chB o) noL σ s2 → mi s2 o 0 = nI n → (∀ j, j < q → mi s2 (o + 1) j = mi s (o + 1) j ∧ mi s2 (o + 2) j = mi s (o + 2) j) → mi s2 (o + 1) q = nI (bdy n x y E m q / 4) → mi s2 (o + 2) q = nI (bdy n x y E m q % 4) → VX2_fold g (d + 1) P 10 [some (.ref o), some (.ref p), some (.ref w), some (.int (nI (q + 1))), none, none] [] s2 := by
        intro s2 c2 g0 g1 g2 g3
        refine ih (q + 1) s2 (by omega) (by omega) c2 g0 (fun j hj => ?_)
        by_cases e : j = q
        · rw [e]; exact ⟨g2, g3⟩
        · rw [(g1 j (by omega)).1, (g1 j (by omega)).2]; exact hb j (by omega)
      refine vcX2_fold_10 hL2 o io p ip w nw hkw _ ⟨fun hc => ?_, fun _ => ?_⟩
      · rw [h0, lit32 4, pk_mul, zLE (by omega) (by omega)] at hc
        omega
      · simp (disch := omega) only [zIN, zCL, f5]
        refine ⟨by omega, fun x4 e4 => Ct.imp (sp_hasEdge hL2 ip f6 x4) (fun r s6 w1 => ?_)⟩
        obtain ⟨v, rfl, hv, rfl⟩ := w1
        refine ⟨_, rfl, Fr.rf, ?_⟩
        rw [i01 hv]
        cases he : eAt n x y E q with
        | none =>
          rw [he] at e4
          simp only [oI] at e4
          obtain ⟨b, hbb⟩ := eAt_none hV (by omega) he
          have ebd := bdy_b (m := m) he hbb
          have hbn := bhd_lt b hbb
          refine ⟨fun _ => Ct.imp (sp_hasEdge hL2 ip f6 (-1)) (fun r s8 w1 => ?_), fun hc => ?_⟩
          · obtain ⟨v, rfl, hv2, rfl⟩ := w1
            refine ⟨_, rfl, Fr.rf, ?_⟩
            rw [i01 hv2, f4, hbb]
            refine ⟨fun _ => ⟨by omega, by omega, fun s12 e12 => ⟨by omega, fun s15 e15 x17 e17 => ?_⟩⟩, fun hc => ?_⟩
            · rw [inc e17]
              rw [zm2 (by omega)] at e15
              refine nxt s15 (by rw [e15, e12]; exact (c.si ⟨by omega, by omega⟩).si ⟨by omega, by omega⟩) (by rw [e15, mi_si, if_neg (by omega), e12, mi_si, if_neg (by omega)]; exact h0) (fun j hj => ?_) ?_ ?_
              · rw [e15, e12]; simp only [mi_si]; simp [show ¬ j = q by omega]
              · rw [e15, mi_si, if_neg (by omega), e12, mi_si, if_pos ⟨rfl, rfl⟩, ebd]
                show nI b = _
                congr 1
                omega
              · rw [e15, mi_si, if_pos ⟨rfl, rfl⟩, ebd]
                congr 1
                omega
            · exfalso
              have := Classical.not_not.mp hc
              exact absurd this.1 (by decide)
          · exfalso
            have := Classical.not_not.mp hc
            rw [e4] at this
            exact absurd this.1 (by decide)
        | some e =>
          rw [he] at e4
          simp only [oI] at e4
          obtain ⟨hee, het⟩ := eAt_some he
          obtain ⟨m1, m2, m3⟩ := hm e hee
          have ebd := bdy_e (m := m) he
          have fw : mi s6 w e = nI (m e) := by rw [c.i (by omega)]; exact hmw e hee
          have p1 : (0 : Int32) ≤ nI e ∧ nI e < nI E := by rw [lit32 0, zLE (by omega) (by omega), zLT (by omega) (by omega)]; omega
          have p2 : (0 : Int32) ≤ nI (m e) ∧ nI (m e) < nI E := by rw [lit32 0, zLE (by omega) (by omega), zLT (by omega) (by omega)]; omega
          rw [e4]
          simp (disch := omega) only [zIN, zCL, fw]
          refine ⟨fun hc => absurd p1 hc, fun _ => ⟨by omega, fun x30 e30 => Ct.imp (sp_hasEdge hL2 ip f6 x30) (fun r s32 w1 => ?_)⟩⟩
          obtain ⟨v, rfl, hv2, rfl⟩ := w1
          refine ⟨_, rfl, Fr.rf, ?_⟩
          rw [i01 hv2, e30]
          obtain ⟨o1, o2, o3⟩ := tr_open hV.2.2.1 hV.2.2.2.1 (m e)
          have g1 : mi s32 (p + 6) (m e) = nI (tr n x y (m e)).1 := by rw [c.i (by omega)]; exact (hF.2.2.1 (m e) m1).1
          have g2 : mi s32 (p + 7) (m e) = nI (tr n x y (m e)).2 := by rw [c.i (by omega)]; exact (hF.2.2.1 (m e) m1).2.1
          simp (disch := omega) only [zIN, zCL, g1]
          refine ⟨fun hc => absurd p2 hc, fun _ => ⟨by omega, by omega, fun s45 e45 => ⟨by omega, by omega, fun s49 e49 x51 e51 => ?_⟩⟩⟩
          have g3 : mi s45 (p + 7) (m e) = nI (tr n x y (m e)).2 := by rw [e45, mi_si, if_neg (by omega)]; exact g2
          rw [g3] at e49
          rw [inc e51]
          refine nxt s49 (by rw [e49, e45]; exact (c.si ⟨by omega, by omega⟩).si ⟨by omega, by omega⟩) (by rw [e49, mi_si, if_neg (by omega), e45, mi_si, if_neg (by omega)]; exact h0) (fun j hj => ?_) ?_ ?_
          · rw [e49, e45]; simp only [mi_si]; simp [show ¬ j = q by omega]
          · rw [e49, mi_si, if_neg (by omega), e45, mi_si, if_pos ⟨rfl, rfl⟩, ebd]
            congr 1
            unfold trq
            omega
          · rw [e49, mi_si, if_pos ⟨rfl, rfl⟩, ebd]
            congr 1
            unfold trq
            omega
  refine vcX2_fold hL o io p ip w nw hk (fun s1 e1 => ?_)
  have c1 : Ch (chB o) noL σ s1 := by rw [e1]; exact Ch.rf.si ⟨by omega, by omega⟩
  exact l10 (4 * n) 0 s1 rfl (by omega) c1 (by rw [e1, mi_si, if_pos ⟨rfl, rfl⟩]; exact hF.1.1.1) (fun j hj => by omega)
