/-! ===== the reference's beyond ===== -/
abbrev chY (t : Nat) : Nat → Nat → Prop := fun a i => a = 215 ∧ t ≤ i ∧ i < t + 40
/-- which matching a body is laid by -/
def Sel (σ : PS) (E : Nat) (m : Nat → Nat) (gl : Int32) : Prop := (gl = -1 ∧ ∀ e, e < E → mi σ 209 e = nI (m e)) ∨ ∃ k, k ≤ 2000 ∧ gl = nI k ∧ ∀ e, e < E → mi σ 211 (24 * k + e) = nI (m e)
theorem MF.ch {σ s : PS} {n E : Nat} {x y : Nat → Nat} {Pm Pl : Nat → Nat → Prop} (h : MF σ n x y E) (c : Ch Pm Pl σ s) (h0 : ¬ Pm 179 35) (h1 : ¬ Pm 179 38) (h2 : ∀ a i, 201 ≤ a → a ≤ 206 → ¬ Pm a i) : MF s n x y E := by
  refine ⟨h.1.ch c h0 (fun i _ => h2 _ _ (by omega) (by omega)) (fun i _ => h2 _ _ (by omega) (by omega)), by rw [c.i h1]; exact h.2.1, fun j hj => ?_, fun q hq => ?_⟩
  · rw [c.i (h2 203 j (by omega) (by omega)), c.i (h2 204 j (by omega) (by omega)), c.i (h2 205 j (by omega) (by omega))]
    exact h.2.2.1 j hj
  · rw [c.i (h2 206 q (by omega) (by omega))]
    exact h.2.2.2 q hq
theorem sp_laysBody {g : GV} {d n E t : Nat} {x y m : Nat → Nat} {gl : Int32} {σ : PS} (hL : Lay σ) (hF : MF σ n x y E) (hV : VF n x y E) (hm : Mt E m) (ht : t ≤ 40) (hS : Sel σ E m gl) :
    CX12_laysBody g (d + 2) [.ref 179, .int (nI t), .int gl] σ (fun s => (∀ q, q < 4 * n → mi s 215 (t + q) = nI (bdy n x y E m q)) ∧ Ch (chY t) noL σ s) := by
  have hn := hV.2.1
  have hE := hV.2.2.2.2.2.2
  generalize hP : (fun (s : PS) => (∀ q, q < 4 * n → mi s 215 (t + q) = nI (bdy n x y E m q)) ∧ Ch (chY t) noL σ s) = P
  have l13 : ∀ (c : Nat), c < n → (∀ s, Ch (chY t) noL σ s → (∀ q, q < 4 * (c + 1) → mi s 215 (t + q) = nI (bdy n x y E m q)) → VX12_laysBody g (d + 2) P 2 [some (.ref 179), some (.int (nI t)), some (.int gl), some (.int (nI (c + 1))), none, none, none] [] s) →
      ∀ (z u : Nat) (s : PS), z = 4 - u → u ≤ 4 → Ch (chY t) noL σ s → (∀ q, q < 4 * c + u → mi s 215 (t + q) = nI (bdy n x y E m q)) → VX12_laysBody g (d + 2) P 13 [some (.ref 179), some (.int (nI t)), some (.int gl), some (.int (nI c)), some (.int (nI u)), none, none] [] s := by
    intro c hc K z
    induction z with
    | zero =>
      intro u s hz hu cs hq
      have e : u = 4 := by omega
      subst e
      refine vcX12_laysBody_13 (cs.lay hL) _ _ _ _ ⟨fun _ x1 e1 => ?_, fun hc => absurd (show (4 : Int32) ≤ nI 4 by decide) hc⟩
      rw [inc e1]
      exact K s cs hq
    | succ z ih =>
      intro u s hz hu cs hq
      have hL2 := cs.lay hL
      have hM : MF s n x y E := hF.ch cs (by simp [chY]) (by simp [chY]) (fun a i h1 h2 h3 => by have := h3.1; omega)
      have em : (4 : Int32) * nI c + nI u = nI (4 * c + u) := by rw [lit32 4, pk_mul, nI_add]
      have em2 : nI t + (4 : Int32) * nI c + nI u = nI (t + (4 * c + u)) := by rw [lit32 4, pk_mul, nI_add, nI_add]; congr 1; omega
      have f6 := hM.2.2.2 (4 * c + u) (by omega)
      have hb4 := bdy_lt (m := m) hV (show 4 * c + u < 4 * n by omega)
      have nxt : ∀ (s2 : PS) (x1 : Int32), s2 = si s 215 (t + (4 * c + u)) (nI (bdy n x y E m (4 * c + u))) → x1 = nI u + 1 → VX12_laysBody g (d + 2) P 13 [some (.ref 179), some (.int (nI t)), some (.int gl), some (.int (nI c)), some (.int x1), none, none] [] s2 := by
        intro s2 x1 e2 e1
        have c2 : Ch (chY t) noL σ s2 := by rw [e2]; exact cs.si ⟨rfl, by omega, by omega⟩
        rw [inc e1]
        refine ih (u + 1) s2 (by omega) (by omega) c2 (fun q hq2 => ?_)
        rw [e2, mi_si]
        by_cases e : q = 4 * c + u
        · rw [if_pos ⟨rfl, by omega⟩, e]
        · rw [if_neg (by omega)]; exact hq q (by omega)
      -- a side inside
      have inner : eAt n x y E (4 * c + u) = none → CX12_behind g (d + 1) [.ref 179, .int (nI c), .int (nI u)] s (fun (v : Int32) (s1 : PS) => Fr s s1 ∧ vp_in (nI t + 4 * nI c + nI u) 80 ∧ ∀ s2 : PS, s2 = si s1 215 (Int32.toNatClampNeg (nI t + 4 * nI c + nI u)) (4 * v + jrem (nI u + 2) 4) → ∀ x1 : Int32, x1 = nI u + 1 → VX12_laysBody g (d + 2) P 13 [some (.ref 179), some (.int (nI t)), some (.int gl), some (.int (nI c)), some (.int x1), none, none] [] s2) := by
        intro he
        refine Ct.imp (sp_behind hL2 hM.1 hc (by omega)) (fun r s1 w1 => ?_)
        obtain ⟨v, rfl, rfl, rfl⟩ := w1
        refine ⟨_, rfl, Fr.rf, ?_⟩
        rw [em2]
        simp (disch := omega) only [zIN, zCL]
        refine ⟨by omega, fun s2 e2 x1 e1 => nxt s2 x1 ?_ e1⟩
        obtain ⟨b, hb⟩ := eAt_none hV (show 4 * c + u < 4 * n by omega) he
        rw [e2, bdy_b (m := m) he hb]
        rw [show (4 * c + u) / 4 = c by omega, show (4 * c + u) % 4 = u by omega] at hb
        rw [hb, zm2 (by omega)]
        show si s1 215 _ (4 * nI b + nI ((u + 2) % 4)) = _
        rw [lit32 4, pk_mul, nI_add]
        congr 2
        omega
      -- a side of the rim
      have outer : ∀ e xx, eAt n x y E (4 * c + u) = some e → xx = nI (m e) → vp_in xx 24 ∧ vp_in xx 24 ∧ vp_in (nI t + 4 * nI c + nI u) 80 ∧ ∀ s2 : PS, s2 = si s 215 (Int32.toNatClampNeg (nI t + 4 * nI c + nI u)) (4 * mi s 203 (Int32.toNatClampNeg xx) + mi s 204 (Int32.toNatClampNeg xx)) → ∀ x1 : Int32, x1 = nI u + 1 → VX12_laysBody g (d + 2) P 13 [some (.ref 179), some (.int (nI t)), some (.int gl), some (.int (nI c)), some (.int x1), none, none] [] s2 := by
        intro e xx he hx
        obtain ⟨hee, het⟩ := eAt_some he
        obtain ⟨m1, m2, m3⟩ := hm e hee
        obtain ⟨g1, g2, -⟩ := hM.2.2.1 (m e) m1
        rw [hx, em2]
        simp (disch := omega) only [zIN, zCL, g1, g2]
        refine ⟨by omega, by omega, by omega, fun s2 e2 x1 e1 => nxt s2 x1 ?_ e1⟩
        rw [e2, bdy_e (m := m) he, lit32 4, pk_mul, nI_add]
        rfl
      refine vcX12_laysBody_13 hL2 _ _ _ _ ⟨fun hcc => ?_, fun _ => ?_⟩
      · rw [lit32 4, zLE (by omega) (by omega)] at hcc
        omega
      · rw [em]
        simp (disch := omega) only [zIN, zCL, f6]
        refine ⟨by omega, fun x4 e4 => ?_⟩
        cases he : eAt n x y E (4 * c + u) with
        | none =>
          rw [he] at e4
          have hx4 : ¬ (0 : Int32) ≤ x4 := by rw [e4]; decide
          exact ⟨fun h => absurd h hx4, fun _ => ⟨fun h => absurd h hx4, fun _ => inner he⟩⟩
        | some e =>
          rw [he] at e4
          simp only [oI] at e4
          obtain ⟨hee, het⟩ := eAt_some he
          have hx4 : (0 : Int32) ≤ x4 := by rw [e4, lit32 0, zLE (by omega) (by omega)]; omega
          refine ⟨fun _ => ⟨fun hg0 => ?_, fun hg0 => ?_⟩, fun h => absurd hx4 h⟩
          · rcases hS with ⟨hg1, -⟩ | ⟨k, hk, hg1, hlist⟩
            · rw [hg1] at hg0; exact absurd hg0 (by decide)
            · have e24 : (24 : Int32) * gl + x4 = nI (24 * k + e) := by rw [hg1, e4, lit32 24, pk_mul, nI_add]
              rw [e24]
              simp (disch := omega) only [zIN, zCL]
              have hle : mi s 211 (24 * k + e) = nI (m e) := by rw [cs.i (by simp [chY])]; exact hlist e hee
              exact ⟨by omega, fun x7 e7 => ⟨fun _ => outer e x7 he (by rw [e7, hle]), fun h => absurd hx4 h⟩⟩
          · rcases hS with ⟨hg1, hglued⟩ | ⟨k, hk, hg1, -⟩
            · rw [e4]
              simp (disch := omega) only [zIN, zCL]
              have hle : mi s 209 e = nI (m e) := by rw [cs.i (by simp [chY])]; exact hglued e hee
              rw [e4] at hx4
              exact ⟨by omega, fun x7 e7 => ⟨fun _ => outer e x7 he (by rw [e7, hle]), fun h => absurd hx4 h⟩⟩
            · rw [hg1, lit32 0, zLE (by omega) (by omega)] at hg0
              omega
  have l2 : ∀ (z c : Nat) (s : PS), z = n - c → c ≤ n → Ch (chY t) noL σ s → (∀ q, q < 4 * c → mi s 215 (t + q) = nI (bdy n x y E m q)) → VX12_laysBody g (d + 2) P 2 [some (.ref 179), some (.int (nI t)), some (.int gl), some (.int (nI c)), none, none, none] [] s := by
    intro z
    induction z with
    | zero =>
      intro c s hz hc cs hq
      have e : c = n := by omega
      subst e
      refine vcX12_laysBody_2 (cs.lay hL) _ _ _ ⟨fun _ => by rw [← hP]; exact ⟨hq, cs⟩, fun hcc => ?_⟩
      exact absurd (by rw [cs.i (by simp [chY]), hF.1.1, zLE (by omega) (by omega)]; omega) hcc
    | succ z ih =>
      intro c s hz hc cs hq
      refine vcX12_laysBody_2 (cs.lay hL) _ _ _ ⟨fun hcc => ?_, fun _ => l13 c (by omega) (fun s2 c2 h2 => ih (c + 1) s2 (by omega) (by omega) c2 h2) 4 0 s rfl (by omega) cs hq⟩
      rw [cs.i (by simp [chY]), hF.1.1, zLE (by omega) (by omega)] at hcc
      omega
  exact vcX12_laysBody hL _ _ (l2 n 0 σ rfl (by omega) Ch.rf (fun q hq => by omega))
theorem sp_turnAt12 {g : GV} {d n q : Nat} {f : Nat → Nat} {σ : PS} (hL : Lay σ) (hn : n ≤ 10) (hB : ∀ q, q < 4 * n → f q < 4 * n ∧ mi σ 215 q = nI (f q)) (hi : ∀ a b, a < 4 * n → b < 4 * n → f (nxs a) = f (nxs b) → a = b) (hq : q < 4 * n) :
    CX12_turnAt g d [.ref 179, .int 0, .int (nI q)] σ (fun v s => v = nI (orb (fun z => f (nxs z)) (4 * n) q) ∧ s = σ) := by
  have hf : ∀ z, z < 4 * n → (fun z => f (nxs z)) z < 4 * n := fun z hz => (hB _ (nxs_lt hz)).1
  obtain ⟨t0, t1, t2, t3⟩ := orb_is hf hi hq
  generalize hT : orb (fun z => f (nxs z)) (4 * n) q = T at *
  have loop : ∀ (z k : Nat), z = T - k → k < T → VX12_turnAt g d (fun v s => v = nI T ∧ s = σ) 5 [some (.ref 179), some (.int 0), some (.int (nI q)), some (.int (nI k)), some (.int (nI (itf (fun z => f (nxs z)) k q)))] [] σ := by
    intro z
    induction z with
    | zero => intro k hz hk; omega
    | succ z ih =>
      intro k hz hk
      have hp := itf_lt hf hq k
      have e1 : (0 : Int32) + 4 * (nI (itf (fun z => f (nxs z)) k q) / 4) + jrem (nI (itf (fun z => f (nxs z)) k q) + 1) 4 = nI (nxs (itf (fun z => f (nxs z)) k q)) := by
        rw [zm1 (by omega), lit32 4, zDIV (by omega) (by omega) (by omega), pk_mul, lit32 0, nI_add, nI_add]
        unfold nxs
        rw [Nat.zero_add]
      have hx := nxs_lt hp
      obtain ⟨a1, a2⟩ := hB _ hx
      have es : itf (fun z => f (nxs z)) (k + 1) q = f (nxs (itf (fun z => f (nxs z)) k q)) := rfl
      refine vcX12_turnAt_5 hL _ _ _ _ ?_
      rw [e1]
      generalize itf (fun z => f (nxs z)) k q = R at *
      simp (disch := omega) only [zIN, zCL, a2]
      refine ⟨by omega, fun x2 q2 x4 q4 => ?_⟩
      rw [inc q4, q2, zEQ (by omega) (by omega)]
      refine ⟨fun hne => ?_, fun heq => ?_⟩
      · have hk2 : k + 1 < T := by
          rcases Nat.lt_or_ge (k + 1) T with w | w
          · exact w
          · have : T = k + 1 := by omega
            rw [this, es] at t2
            exact absurd t2 hne
        have := ih (k + 1) (by omega) hk2
        rw [es] at this
        exact this
      · have : T = k + 1 := by
          rcases Nat.lt_or_ge (k + 1) T with w | w
          · exact absurd (es.trans heq) (t3 (k + 1) (by omega) w)
          · omega
        exact ⟨by rw [this], trivial⟩
  exact vcX12_turnAt hL _ _ (loop T 0 rfl t0)
