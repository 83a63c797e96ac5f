/-! ===== the class's read ===== -/
/-- what a statement of the second pass comes to, before its ; -/
def O2 (L : List Nat) (T : Nat) (NM : Nat → Nat) (j : Nat) (r : S2) (s : PS) : Prop := RS s L T NM ∧ ((∃ e w, r = .inl (e, w, j + 1) ∧ mi s 16 5 = nI j ∧ mi s 16 6 = 0 ∧ (∀ k, k < T → mi s 19 k = e k) ∧ RowsF s 17 w) ∨ ∃ k m, r = .inr (k, m) ∧ mi s 16 6 = nI (k + 16 * tb L m) ∧ 1 ≤ k ∧ k ≤ 7 ∧ m ≤ nt L)
theorem sp_st2let {g : GV} {d told i T t k : Nat} {L : List Nat} {nm n NM rw' : Nat → Nat} {env : Nat → Int32} {τ : PS} (hc : ∀ i, lc L i < 127) (hi : i < nt L) (hL : Lay τ) (hR : RS τ L T NM) (hat : mi τ 16 5 = nI i) (h0 : mi τ 16 6 = 0) (hE : ∀ k, k < T → mi τ 19 k = env k) (hF : RowsF τ 17 rw') (h7 : tK L i = 7) (h1 : st1' L told nm i = .inl (t, n, k)) (hx : Ext t n T NM) :
    CX7_readLet g (d + 15) [.ref 16] τ (fun s => O2 L T NM k (st2 L T NM env rw' i) s ∧ Ch chR2 chRl τ s) := by
  obtain ⟨q1, ⟨v0, q2⟩, rfl, rfl⟩ := s1let h7 h1
  obtain ⟨w1, w2, w3, w4, w5, w6⟩ := late_nm q1 hx
  obtain ⟨v', q3⟩ := sm_late (env := env) hx.tell q2
  refine Ct.imp (sp_readLet (d := d + 1) (env := env) hc hi hL hR hat h0 hE) (fun r s q => ?_)
  obtain ⟨rfl, hp, c⟩ := q
  have hlt : letF L T NM env i = .inl (v', k) := by unfold letF; rw [w4]; exact q3
  refine ⟨rfl, ?_, c.r2⟩
  rcases hp with ⟨v, j, er, a1, a2, a3, a4, a5⟩ | ⟨_, _, er, -⟩
  · rw [hlt] at er
    cases er
    rw [w5, w6] at a4
    refine ⟨a4, Or.inl ⟨upE env (slE L T NM (i + 1)) v', rw', ?_, a1, a2, fun q hq => ?_, hF.ch c (fun i => by omega)⟩⟩
    · unfold st2
      rw [if_pos h7, q3, bd2_l]
    · rw [a5 q, w2]
      unfold upE
      by_cases e : q = slE L T NM (i + 1)
      · rw [if_pos e, if_pos e]
      · rw [if_neg e, if_neg e]; exact hE q hq
  · rw [hlt] at er; cases er
theorem sp_st2step {g : GV} {d told i T t k : Nat} {L : List Nat} {nm n NM rw' : Nat → Nat} {env : Nat → Int32} {τ : PS} (hc : ∀ i, lc L i < 127) (hi : i ≤ nt L) (hL : Lay τ) (hR : RS τ L T NM) (hat : mi τ 16 5 = nI i) (h0 : mi τ 16 6 = 0) (hE : ∀ k, k < T → mi τ 19 k = env k) (hF : RowsF τ 17 rw') (h7 : ¬ tK L i = 7) (h8 : ¬ tK L i = 8) (h1 : st1' L told nm i = .inl (t, n, k)) (hx : Ext t n T NM) :
    CX7_readStep g (d + 14) [.ref 16, .int 1] τ (fun s => O2 L T NM k (st2 L T NM env rw' i) s ∧ Ch chR2 chRl τ s) := by
  obtain ⟨rfl, rfl, q0, q2⟩ := s1step h7 h8 h1
  obtain ⟨q', q3⟩ := st_late (env := env) hx q2
  refine Ct.imp (sp_stepD (d := d) hc hi hL hR hat h0 hE hF q3) (fun r s q => ?_)
  obtain ⟨rfl, hp, c⟩ := q
  have hs : st2 L T NM env rw' i = doR (doF rw' (tK L i) q') env i k := by unfold st2; rw [if_neg h7, if_neg h8, q3, bd42_l]
  refine ⟨rfl, ⟨hR.stp c, ?_⟩, c.s2⟩
  rw [hs]
  rcases hp with ⟨r2, hd, a1, a2, a3⟩ | ⟨e, hd, a1, a2, a3⟩
  · rw [hd]
    exact Or.inl ⟨env, r2, rfl, a1, a2, fun q hq => by rw [c.i (by omega)]; exact hE q hq, a3⟩
  · rw [hd]
    exact Or.inr ⟨e, i, rfl, a1, a2, a3, hi⟩
theorem sp_st2each {g : GV} {d told i T t k : Nat} {L : List Nat} {nm n NM rw' : Nat → Nat} {env : Nat → Int32} {τ : PS} (hc : ∀ i, lc L i < 127) (hi : i < nt L) (hL : Lay τ) (hR : RS τ L T NM) (hat : mi τ 16 5 = nI i) (h0 : mi τ 16 6 = 0) (hE : ∀ k, k < T → mi τ 19 k = env k) (hF : RowsF τ 17 rw') (h8 : tK L i = 8) (hw : mi τ 16 7 = 1) (h1 : st1' L told nm i = .inl (t, n, k)) (hx : Ext t n T NM) :
    CX7_readEach g (d + 15) [.ref 16] τ (fun s => O2 L T NM k (st2 L T NM env rw' i) s ∧ Ch chR2 chRl τ s) := by
  obtain ⟨q1, rfl, rfl, a0, b0, j, j2, q2, q3, z0, q4⟩ := s1each h8 h1
  obtain ⟨w1, w2, w3, w4, w5, w6⟩ := late_nm q1 hx
  obtain ⟨a, q5⟩ := sm_late (env := env) hx.tell q2
  obtain ⟨b, q6⟩ := sm_late (env := env) hx.tell q3
  have q7 : ∀ env, ∃ q, stF L T NM env j2 = .inl (q, k) := fun env => st_late hx q4
  obtain ⟨z1, q8⟩ := q7 env
  have hh : eaH L T NM env i = .inl ((a, b, 0, 0), j2) := by rw [eaH_n w4, q5, bd4_l, q6, bd4_l]
  have hs : st2 L T NM env rw' i = (if turnsI a b ≤ 0 then .inl (env, rw', k + 1) else if 64 < turnsI a b then .inr (4, i) else eaR (eaF L T NM (slE L T NM (i + 1)) a j2 (turnsI a b).toNat 0 env rw') j2 k) := by
    unfold st2
    rw [if_neg (by omega), if_pos h8, q5, bd2_l, q6, bd2_l, q8, bd42_l]
  refine sp_eachHead (d := d) (env := env) hc hi hL hR hat h0 hE (fun s k' j' er _ _ _ _ _ _ => ?_) (fun s a' b' j' er a1 a2 a3 a4 a5 a6 c => ?_)
  · rw [hh] at er; cases er
  rw [hh] at er
  cases er
  rw [w5, w6] at a5
  rw [w2] at a4 ⊢
  have hw' : mi s 16 7 = 1 := by rw [c.i (by omega)]; exact hw
  have hEs : ∀ k, k < T → mi s 19 k = env k := fun k hk => by rw [a6]; exact hE k hk
  have hFs := hF.ch c (fun i => by omega)
  refine ⟨fun q => absurd q (by rw [hw']; decide), fun _ => ⟨fun p => ⟨fun p2 x ex => ?_, fun p2 => ?_⟩, fun p => ?_⟩⟩
  · rw [if_neg (by omega), if_neg (by omega)] at hs
    rw [hs]
    refine ea_loop (d := d) hc a3 w3 q7 (turnsI a b).toNat 0 env rw' s (by rw [ex]; omega) (by omega) (c.lay hL) a5 (fun q => by omega) a2 hEs hFs (fun s' e r h1 h2 h3 h4 h5 h6 h7 => ?_) (fun s' e h1 h2 h3 h4 h5 h6 => ?_)
    · exact ⟨⟨h4, Or.inl ⟨e, r, by rw [h1]; rfl, h2, h3, h5, h6⟩⟩, c.r2.trans h7⟩
    · exact ⟨⟨h5, Or.inr ⟨e, j2, by rw [h1]; rfl, h2, h3, h4, a3⟩⟩, c.r2.trans h6⟩
  · rw [if_neg (by omega), if_pos (by omega)] at hs
    refine Ct.imp (sp_fail7 (k := 4) (c.lay hL) a5 (by omega) a2) (fun r s' q => ?_)
    obtain ⟨rfl, k1, k2⟩ := q
    exact ⟨rfl, k2.fr, ⟨a5.af k2, Or.inr ⟨4, i, hs, k1, by omega, by omega, by omega⟩⟩, c.r2.trans k2.rd.r2⟩
  · rw [if_pos (by omega)] at hs
    refine Ct.imp (sp_stepN (d := d) hc a3 (c.lay hL) a5 a1 a2 hEs) (fun r s' q => ?_)
    obtain ⟨rfl, hp, c2⟩ := q
    refine ⟨rfl, c2.fr, ⟨a5.af c2, ?_⟩, c.r2.trans c2.rd.r2⟩
    rcases hp with ⟨v, m, er, b1, b2, b3⟩ | ⟨_, _, er, -⟩
    · rw [q8] at er
      cases er
      exact Or.inl ⟨env, rw', hs, b1, b2, fun q hq => by rw [c2.i (by omega)]; exact hEs q hq, hFs.ch c2 (fun i => by omega)⟩
    · rw [q8] at er; cases er
theorem rd2 {g : GV} {d T : Nat} {NM : Nat → Nat} {L : List Nat} {P : Int32 → PS → Prop} {l2 : Int32} (hc : ∀ i, lc L i < 127) : ∀ (f told i c : Nat) (nm : Nat → Nat) (env : Nat → Int32) (rw' : Nat → Nat) (τ : PS), p1 L f told nm i = .inl (T, NM) → i ≤ nt L → c ≤ i → Lay τ → RS τ L T NM → mi τ 16 5 = nI i → mi τ 16 6 = 0 → mi τ 16 7 = 1 → (∀ k, k < T → mi τ 19 k = env k) → RowsF τ 17 rw' →
    (∀ s w, p2 L T NM f env rw' i = .inl w → mi s 16 6 = 0 → RowsF s 17 w → Ch chR2 chRl τ s → VX7_read g (d + 16) P 32 [some (.ref 16), none, some (.int (l2 + 1)), none] [] s) →
    (∀ s k j, p2 L T NM f env rw' i = .inr (k, j) → mi s 16 6 = nI (k + 16 * tb L j) → 1 ≤ k → k ≤ 7 → j ≤ nt L → Ch chR2 chRl τ s → VX7_read g (d + 16) P 32 [some (.ref 16), none, some (.int (l2 + 1)), none] [] s) →
    VX7_read g (d + 16) P 66 [some (.ref 16), none, some (.int l2), some (.int (nI c))] [] τ := by
  intro f
  induction f with
  | zero => intro told i c nm env rw' τ h; cases h
  | succ f ih =>
    intro told i c nm env rw' τ hp1 hi hci hL hR hat h0 hw hE hF hgo hbad
    have hl := hR.2.2.1
    have hn := nt_le (L := L)
    have hk : tK L i < 1000 := tk_lt (σ := τ) hc (tb L i)
    rw [p2_s] at hgo hbad
    rw [p1_s] at hp1
    refine vcX7_read_66 hL hR.1 _ _ ?_
    rw [hR.2.1.1, zLE (by omega) (by omega)]
    refine ⟨fun h x e => ?_, fun h => ⟨fun q => absurd h0 q, fun _ => ?_⟩⟩
    · have hz : tK L i = 0 := tk_end (by omega)
      rw [if_pos hz] at hgo
      exact e ▸ hgo τ rw' rfl h0 hF Ch.rf
    · refine Ct.imp (sp_kind7 hL hR hat hi) (fun r s q => ?_)
      obtain ⟨v, rfl, rfl, rfl⟩ := q
      refine ⟨_, rfl, Fr.rf, ?_⟩
      rw [lit32 0, zEQ (by omega) (by omega)]
      refine ⟨fun hz x e => ?_, fun hz => ?_⟩
      · rw [if_pos hz] at hgo
        exact e ▸ hgo s rw' rfl h0 hF Ch.rf
      rw [if_neg hz] at hgo hbad hp1
      have hlt := tK_N L i hz
      obtain ⟨t, n, j, hs1, hp1'⟩ := bdN_inl hp1
      obtain ⟨k, hs2, h59, rfl⟩ := st1_inl hs1
      have hij := st1_lt hi hs1
      have hx := p1_ext _ _ _ _ _ _ hp1'
      -- the ; and behind
      have semi' : ∀ s1 : PS, O2 L T NM k (st2 L T NM env rw' i) s1 → Ch chR2 chRl s s1 → CX7_expect g (d + 15) [.ref 16, .int 59] s1 (fun s2 => Fr s1 s2 ∧ ∀ x : Int32, x = nI c + 1 → VX7_read g (d + 16) P 66 [some (.ref 16), none, some (.int l2), some (.int x)] [] s2) := by
        intro s1 hO c1
        have hk2 : tK L k < 1000 := tk_lt (σ := s) hc (tb L k)
        obtain ⟨a1, ⟨e, w, er, a2, a3, a4, a5⟩ | ⟨k', m, er, a2, a3, a4, a5⟩⟩ := hO
        · rw [er] at hgo hbad
          refine Ct.imp (sp_expect7 (d := d + 14) (c := 59) (c1.lay hL) a1 a2 (by omega) a3 (by omega) hk2) (fun r s2 q => ?_)
          obtain ⟨rfl, b1, b2, c2⟩ := q
          have c2' := c1.trans c2.rd.r2
          refine ⟨rfl, c2.fr, fun x ex => ?_⟩
          rw [inc ex]
          exact ih t (k + 1) (c + 1) n e w s2 hp1' (by omega) (by omega) (c2'.lay hL) (a1.af c2) (b1 h59).1 (b1 h59).2 (by rw [c2'.i (by omega)]; exact hw) (fun q hq => by rw [c2.i (by omega)]; exact a4 q hq) (a5.ch c2 (fun i => by omega)) (fun s' w' e' d1 d2 d3 => hgo s' w' e' d1 d2 (c2'.trans d3)) (fun s' k2 j' e' d1 d2 d3 d4 d5 => hbad s' k2 j' e' d1 d2 d3 d4 (c2'.trans d5))
        · rw [er] at hbad
          have hb := nB a2 a3 a4 hl
          refine Ct.imp (sp_expect7f (d := d + 14) (c1.lay hL) a1 hb) (fun r s2 q => ?_)
          obtain ⟨rfl, b1, c2⟩ := q
          have c2a : Ch chAF noL s1 s2 := c2.mono (fun a k h => ⟨h.1, Or.inl h.2⟩) (fun _ _ h => h)
          have c2' := c1.trans c2a.rd.r2
          refine ⟨rfl, c2.fr, fun x ex => ?_⟩
          exact rd_bad (c2'.lay hL) (a1.af c2a).1 (by rw [b1]; exact hb) (hbad s2 k' m rfl (by rw [b1]; exact a2) a3 a4 a5 c2')
      refine Ct.imp (sp_kind7 hL hR hat hi) (fun r s q => ?_)
      obtain ⟨v, rfl, rfl, rfl⟩ := q
      refine ⟨_, rfl, Fr.rf, ?_⟩
      rw [lit32 7, zEQ (by omega) (by omega)]
      refine ⟨fun h7 => ?_, fun h7 => ?_⟩
      · refine Ct.imp (sp_kind7 hL hR hat hi) (fun r s q => ?_)
        obtain ⟨v, rfl, rfl, rfl⟩ := q
        refine ⟨_, rfl, Fr.rf, ?_⟩
        rw [lit32 8, zEQ (by omega) (by omega)]
        refine ⟨fun h8 => ?_, fun h8 => ?_⟩
        · rw [hw]
          refine Ct.imp (sp_st2step (d := d + 1) hc hi hL hR hat h0 hE hF h7 h8 hs2 hx) (fun r s1 q => ?_)
          obtain ⟨rfl, hO, c1⟩ := q
          exact ⟨rfl, c1.fr, semi' s1 hO c1⟩
        · refine Ct.imp (sp_st2each (d := d) hc hlt hL hR hat h0 hE hF h8 hw hs2 hx) (fun r s1 q => ?_)
          obtain ⟨rfl, hO, c1⟩ := q
          exact ⟨rfl, c1.fr, semi' s1 hO c1⟩
      · refine Ct.imp (sp_st2let (d := d) hc hlt hL hR hat h0 hE hF h7 hs2 hx) (fun r s1 q => ?_)
        obtain ⟨rfl, hO, c1⟩ := q
        exact ⟨rfl, c1.fr, semi' s1 hO c1⟩
