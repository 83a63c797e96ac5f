/-! ===== the first pass ===== -/
theorem letF_env {L : List Nat} {told i : Nat} {nm : Nat → Nat} {env env' : Nat → Int32} : SameR (letF L told nm env i) (letF L told nm env' i) := by
  unfold letF
  cases nnF L told nm (i + 1) with
  | some k => exact Or.inr ⟨_, rfl, rfl⟩
  | none => exact sm_env
theorem eaH_env {L : List Nat} {told i : Nat} {nm : Nat → Nat} {env env' : Nat → Int32} : SameR4 (eaH L told nm env i) (eaH L told nm env' i) := by
  unfold eaH
  cases nnF L told nm (i + 1) with
  | some k => exact Or.inr ⟨_, rfl, rfl⟩
  | none =>
    dsimp only
    rcases sm_env (L := L) (told := told) (nm := nm) (i := i + 2) (env := env) (env' := env') with ⟨v, v', j, e1, e2⟩ | ⟨e, e1, e2⟩
    · rw [e1, e2, bd4_l, bd4_l]
      rcases sm_env (L := L) (told := told) (nm := nm) (i := j) (env := env) (env' := env') with ⟨u, u', k, e3, e4⟩ | ⟨e, e3, e4⟩
      · rw [e3, e4, bd4_l, bd4_l]; exact Or.inl ⟨_, _, _, rfl, rfl⟩
      · rw [e3, e4, bd4_r, bd4_r]; exact Or.inr ⟨_, rfl, rfl⟩
    · rw [e1, e2, bd4_r, bd4_r]; exact Or.inr ⟨_, rfl, rfl⟩
theorem bdS_l (v : Int32) (j : Nat) (c : Nat → SR) : bdS (.inl (v, j)) c = c j := rfl
theorem bdS_r (e : Nat × Nat) (c : Nat → SR) : bdS (.inr e) c = .inr e := rfl
theorem bd4S_l (v : Int32 × Int32 × Int32 × Int32) (j : Nat) (c : Nat → SR) : bd4S (.inl (v, j)) c = c j := rfl
theorem bd4S_r (e : Nat × Nat) (c : Nat → SR) : bd4S (.inr e) c = .inr e := rfl
/-- a statement without its ; -/
def st1' (L : List Nat) (told : Nat) (nm : Nat → Nat) (i : Nat) : SR :=
  if tK L i = 7 then bdS (letF L told nm e0 i) (fun j => .inl (tellT nm told (tC L (i + 1)), tellN nm told (tC L (i + 1)), j))
  else if tK L i = 8 then bd4S (eaH L told nm e0 i) (fun j2 => bd4S (stF L (tellT nm told (tC L (i + 1))) (tellN nm told (tC L (i + 1))) e0 j2) (fun j3 => .inl (tellT nm told (tC L (i + 1)), tellN nm told (tC L (i + 1)), j3)))
  else bd4S (stF L told nm e0 i) (fun j => .inl (told, nm, j))
def semiR (L : List Nat) (r : SR) : SR := match r with
  | .inr e => .inr e
  | .inl p => semi L p.1 p.2.1 p.2.2
theorem st1_is (L : List Nat) (told : Nat) (nm : Nat → Nat) (i : Nat) : st1 L told nm i = semiR L (st1' L told nm i) := by
  unfold st1 st1'
  by_cases c7 : tK L i = 7
  · rw [if_pos c7, if_pos c7]
    unfold letF
    cases nnF L told nm (i + 1) with
    | some k => rfl
    | none =>
      dsimp only [nnS]
      cases smL L told nm e0 (i + 2) with
      | inl p => rfl
      | inr e => rfl
  rw [if_neg c7, if_neg c7]
  by_cases c8 : tK L i = 8
  · rw [if_pos c8, if_pos c8]
    unfold eaH
    cases nnF L told nm (i + 1) with
    | some k => rfl
    | none =>
      dsimp only [nnS]
      cases smL L told nm e0 (i + 2) with
      | inl p =>
        cases p with
        | mk v j =>
          rw [bdS_l, bd4_l]
          cases smL L told nm e0 j with
          | inl q =>
            cases q with
            | mk v j =>
              rw [bdS_l, bd4_l, bd4S_l]
              cases stF L (tellT nm told (tC L (i + 1))) (tellN nm told (tC L (i + 1))) e0 j with
              | inl q => rfl
              | inr e => rfl
          | inr e => rfl
      | inr e => rfl
  rw [if_neg c8, if_neg c8]
  cases stF L told nm e0 i with
  | inl q => rfl
  | inr e => rfl
/-- what a statement of the first pass comes to -/
def O1 (L : List Nat) (r : SR) (s : PS) : Prop := (∃ T N j, r = .inl (T, N, j) ∧ RS s L T N ∧ mi s 16 5 = nI j ∧ mi s 16 6 = 0 ∧ j ≤ nt L) ∨ ∃ k j T N, r = .inr (k, j) ∧ RS s L T N ∧ mi s 16 6 = nI (k + 16 * tb L j) ∧ 1 ≤ k ∧ k ≤ 7 ∧ j ≤ nt L
theorem sp_st1let {g : GV} {d told i : Nat} {L : List Nat} {nm : Nat → Nat} {τ : PS} (hc : ∀ i, lc L i < 127) (hi : i < nt L) (hL : Lay τ) (hR : RS τ L told nm) (hat : mi τ 16 5 = nI i) (h0 : mi τ 16 6 = 0) (h7 : tK L i = 7) :
    CX7_readLet g (d + 15) [.ref 16] τ (fun s => O1 L (st1' L told nm i) s ∧ Ch chRd chRl τ s) := by
  refine Ct.imp (sp_readLet (d := d + 1) (env := fun k => mi τ 19 k) hc hi hL hR hat h0 (fun _ _ => rfl)) (fun r s q => ?_)
  obtain ⟨rfl, hp, c⟩ := q
  refine ⟨rfl, ?_, c⟩
  unfold st1'
  rw [if_pos h7]
  rcases hp with ⟨v, j, er, a1, a2, a3, a4, -⟩ | ⟨k, j, er, a1, a2, a3, a4, a5⟩
  · rcases letF_env (L := L) (told := told) (nm := nm) (i := i) (env := fun k => mi τ 19 k) (env' := e0) with ⟨u, u', j', e1, e2⟩ | ⟨e, e1, e2⟩
    · rw [er] at e1
      cases e1
      rw [e2, bdS_l]
      exact Or.inl ⟨_, _, _, rfl, a4, a1, a2, a3⟩
    · rw [er] at e1; cases e1
  · rcases letF_env (L := L) (told := told) (nm := nm) (i := i) (env := fun k => mi τ 19 k) (env' := e0) with ⟨u, u', j', e1, e2⟩ | ⟨e, e1, e2⟩
    · rw [er] at e1; cases e1
    · rw [er] at e1
      cases e1
      rw [e2, bdS_r]
      exact Or.inr ⟨_, _, _, _, rfl, a5, a1, a2, by omega, a4⟩
theorem sp_st1step {g : GV} {d told i : Nat} {L : List Nat} {nm : Nat → Nat} {τ : PS} (hc : ∀ i, lc L i < 127) (hi : i ≤ nt L) (hL : Lay τ) (hR : RS τ L told nm) (hat : mi τ 16 5 = nI i) (h0 : mi τ 16 6 = 0) :
    CX7_readStep g (d + 14) [.ref 16, .int 0] τ (fun s => O1 L (bd4S (stF L told nm e0 i) (fun j => .inl (told, nm, j))) s ∧ Ch chAF noL τ s) := by
  refine Ct.imp (sp_stepN (d := d) (env := fun k => mi τ 19 k) hc hi hL hR hat h0 (fun _ _ => rfl)) (fun r s q => ?_)
  obtain ⟨rfl, hp, c⟩ := q
  refine ⟨rfl, ?_, c⟩
  rcases st_env (L := L) (told := told) (nm := nm) (i := i) (env := fun k => mi τ 19 k) (env' := e0) with ⟨u, u', j', e1, e2⟩ | ⟨e, e1, e2⟩
  · rw [e2, bd4S_l]
    rcases hp with ⟨v, j, er, a1, a2, a3⟩ | ⟨k, j, er, a1, a2, a3, a4⟩
    · rw [e1] at er
      cases er
      exact Or.inl ⟨_, _, _, rfl, hR.af c, a1, a2, a3⟩
    · rw [e1] at er; cases er
  · rw [e2, bd4S_r]
    rcases hp with ⟨v, j, er, a1, a2, a3⟩ | ⟨k, j, er, a1, a2, a3, a4⟩
    · rw [e1] at er; cases er
    · rw [e1] at er
      cases er
      exact Or.inr ⟨_, _, _, _, rfl, hR.af c, a1, a2, by omega, a4⟩
theorem sp_st1each {g : GV} {d told i : Nat} {L : List Nat} {nm : Nat → Nat} {τ : PS} (hc : ∀ i, lc L i < 127) (hi : i < nt L) (hL : Lay τ) (hR : RS τ L told nm) (hat : mi τ 16 5 = nI i) (h0 : mi τ 16 6 = 0) (h8 : tK L i = 8) (hw : mi τ 16 7 = 0) :
    CX7_readEach g (d + 15) [.ref 16] τ (fun s => O1 L (st1' L told nm i) s ∧ Ch chRd chRl τ s) := by
  have e : st1' L told nm i = bd4S (eaH L told nm e0 i) (fun j2 => bd4S (stF L (tellT nm told (tC L (i + 1))) (tellN nm told (tC L (i + 1))) e0 j2) (fun j3 => .inl (tellT nm told (tC L (i + 1)), tellN nm told (tC L (i + 1)), j3))) := by unfold st1'; rw [if_neg (by omega), if_pos h8]
  refine sp_eachHead (d := d) (env := fun k => mi τ 19 k) hc hi hL hR hat h0 (fun _ _ => rfl) (fun s k j er a1 a2 a3 a4 a5 c => ?_) (fun s a b j er a1 a2 a3 a4 a5 a6 c => ?_)
  · refine ⟨?_, c⟩
    rw [e]
    rcases eaH_env (L := L) (told := told) (nm := nm) (i := i) (env := fun k => mi τ 19 k) (env' := e0) with ⟨u, u', j', e1, e2⟩ | ⟨e, e1, e2⟩
    · rw [er] at e1; cases e1
    · rw [er] at e1
      cases e1
      rw [e2, bd4S_r]
      exact Or.inr ⟨_, _, _, _, rfl, a5, a1, a2, by omega, a4⟩
  · have hw' : mi s 16 7 = 0 := by rw [c.i (by omega)]; exact hw
    refine ⟨fun _ => ?_, fun q => absurd hw' q⟩
    refine Ct.imp (sp_st1step (d := d) hc a3 (c.lay hL) a5 a1 a2) (fun r s' q => ?_)
    obtain ⟨rfl, hp, c2⟩ := q
    refine ⟨rfl, c2.fr, ?_, c.trans c2.rd⟩
    rw [e]
    rcases eaH_env (L := L) (told := told) (nm := nm) (i := i) (env := fun k => mi τ 19 k) (env' := e0) with ⟨u, u', j', e1, e2⟩ | ⟨e, e1, e2⟩
    · rw [er] at e1
      cases e1
      rw [e2, bd4S_l]
      exact hp
    · rw [er] at e1; cases e1
theorem sp_semi {g : GV} {d : Nat} {L : List Nat} {r : SR} {τ : PS} (hc : ∀ i, lc L i < 127) (hL : Lay τ) (hO : O1 L r τ) : CX7_expect g (d + 1) [.ref 16, .int 59] τ (fun s => O1 L (semiR L r) s ∧ Ch chAF noL τ s) := by
  rcases hO with ⟨T, N, j, rfl, a1, a2, a3, a4⟩ | ⟨k, j, T, N, rfl, a1, a2, a3, a4, a5⟩
  · have hk : tK L j < 1000 := tk_lt (σ := τ) hc (tb L j)
    refine Ct.imp (sp_expect7 (d := d) (c := 59) hL a1 a2 a4 a3 (by omega) hk) (fun r s q => ?_)
    obtain ⟨rfl, b1, b2, c⟩ := q
    refine ⟨rfl, ?_, c⟩
    show O1 L (semi L T N j) s
    unfold semi
    by_cases h : tK L j = 59
    · rw [if_pos h]
      have := tK_N L j (by omega)
      exact Or.inl ⟨_, _, _, rfl, a1.af c, (b1 h).1, (b1 h).2, by omega⟩
    · rw [if_neg h]
      exact Or.inr ⟨_, _, _, _, rfl, a1.af c, b2 h, by omega, by omega, a4⟩
  · have hb := nB a2 a3 a4 a1.2.2.1
    refine Ct.imp (sp_expect7f (d := d) hL a1 hb) (fun r s q => ?_)
    obtain ⟨rfl, b1, c⟩ := q
    have c' : Ch chAF noL τ s := c.mono (fun a k h => ⟨h.1, Or.inl h.2⟩) (fun _ _ h => h)
    exact ⟨rfl, Or.inr ⟨_, _, _, _, rfl, a1.af c', by rw [b1]; exact a2, a3, a4, a5⟩, c'⟩
/-- a statement goes on -/
theorem st_rng {L : List Nat} {told i j : Nat} {nm : Nat → Nat} {env : Nat → Int32} {q : Int32 × Int32 × Int32 × Int32} (hi : i ≤ nt L) (h : stF L told nm env i = .inl (q, j)) : i < j ∧ j ≤ nt L := by
  unfold stF at h
  by_cases c1 : ¬ (tK L i = 4 ∨ tK L i = 5 ∨ tK L i = 6)
  · rw [if_pos c1] at h; cases h
  rw [if_neg c1] at h
  have hlt := tK_N L i (by omega)
  obtain ⟨u, k, h1, h2⟩ := bd4_inl h
  obtain ⟨u2, k2, h3, h4⟩ := bd4_inl h2
  obtain ⟨a1, a2⟩ := sm_rng (by omega) h1
  obtain ⟨b1, b2⟩ := sm_rng a2 h3
  by_cases c2 : tK L i = 5
  · rw [if_pos c2] at h4
    obtain ⟨u3, k3, h5, h6⟩ := bd4_inl h4
    obtain ⟨u4, k4, h7, h8⟩ := bd4_inl h6
    obtain ⟨d1, d2⟩ := sm_rng b2 h5
    obtain ⟨e1, e2⟩ := sm_rng d2 h7
    cases h8
    omega
  · rw [if_neg c2] at h4
    cases h4
    omega
theorem letF_inl {L : List Nat} {told i j : Nat} {nm : Nat → Nat} {env : Nat → Int32} {v : Int32} (h : letF L told nm env i = .inl (v, j)) : nnF L told nm (i + 1) = none ∧ smL L told nm env (i + 2) = .inl (v, j) := by
  unfold letF at h
  cases e : nnF L told nm (i + 1) with
  | some k => rw [e] at h; cases h
  | none => rw [e] at h; exact ⟨rfl, h⟩
theorem eaH_inl {L : List Nat} {told i j : Nat} {nm : Nat → Nat} {env : Nat → Int32} {q : Int32 × Int32 × Int32 × Int32} (h : eaH L told nm env i = .inl (q, j)) : nnF L told nm (i + 1) = none ∧ ∃ a b k, smL L told nm env (i + 2) = .inl (a, k) ∧ smL L told nm env k = .inl (b, j) ∧ q = (a, b, 0, 0) := by
  cases e : nnF L told nm (i + 1) with
  | some k => unfold eaH at h; rw [e] at h; cases h
  | none =>
    rw [eaH_n e] at h
    obtain ⟨u, k, h1, h2⟩ := bd4_inl h
    obtain ⟨u2, k2, h3, h4⟩ := bd4_inl h2
    cases h4
    exact ⟨rfl, _, _, _, h1, h3, rfl⟩
theorem bdS_inl {r : ER} {c : Nat → SR} {p : Nat × (Nat → Nat) × Nat} (h : bdS r c = .inl p) : ∃ v j, r = .inl (v, j) ∧ c j = .inl p := by
  cases r with
  | inl q => exact ⟨q.1, q.2, rfl, h⟩
  | inr e => rw [bdS_r] at h; cases h
theorem bd4S_inl {r : ER4} {c : Nat → SR} {p : Nat × (Nat → Nat) × Nat} (h : bd4S r c = .inl p) : ∃ v j, r = .inl (v, j) ∧ c j = .inl p := by
  cases r with
  | inl q => exact ⟨q.1, q.2, rfl, h⟩
  | inr e => rw [bd4S_r] at h; cases h
theorem st1_lt {L : List Nat} {told i j T : Nat} {nm N : Nat → Nat} (hi : i ≤ nt L) (h : st1 L told nm i = .inl (T, N, j)) : i < j ∧ j ≤ nt L := by
  rw [st1_is] at h
  cases e : st1' L told nm i with
  | inr e' => rw [e] at h; cases h
  | inl p =>
    obtain ⟨T', N', k⟩ := p
    rw [e] at h
    have h : semi L T' N' k = .inl (T, N, j) := h
    unfold semi at h
    by_cases hs : tK L k = 59
    · rw [if_pos hs] at h
      cases h
      have hk := tK_N L k (by omega)
      have hik : i ≤ k := by
        unfold st1' at e
        by_cases c7 : tK L i = 7
        · rw [if_pos c7] at e
          obtain ⟨v, m, h1, h2⟩ := bdS_inl e
          obtain ⟨n1, n2⟩ := letF_inl h1
          have := (nn_w n1).1
          have := sm_rng (by omega) n2
          cases h2
          omega
        rw [if_neg c7] at e
        by_cases c8 : tK L i = 8
        · rw [if_pos c8] at e
          obtain ⟨v, m, h1, h2⟩ := bd4S_inl e
          obtain ⟨v', m', h3, h4⟩ := bd4S_inl h2
          obtain ⟨n1, a, b, k', n2, n3, -⟩ := eaH_inl h1
          have := (nn_w n1).1
          have q1 := sm_rng (by omega) n2
          have q2 := sm_rng q1.2 n3
          have q3 := st_rng q2.2 h3
          cases h4
          omega
        · rw [if_neg c8] at e
          obtain ⟨v', m', h3, h4⟩ := bd4S_inl e
          have q3 := st_rng hi h3
          cases h4
          omega
      omega
    · rw [if_neg hs] at h; cases h
/-- the loop with a FAULT -/
theorem rd_bad {g : GV} {d : Nat} {P : Int32 → PS → Prop} {σ : PS} {l2 l3 : Int32} (hL : Lay σ) (hT : mr σ 16 4 = some 11) (h0 : ¬ mi σ 16 6 = 0) (h : VX7_read g (d + 1) P 32 [some (.ref 16), none, some (.int (l2 + 1)), none] [] σ) : VX7_read g (d + 1) P 66 [some (.ref 16), none, some (.int l2), some (.int l3)] [] σ :=
  vcX7_read_66 hL hT _ _ ⟨fun _ x e => e ▸ h, fun _ => ⟨fun _ x e => e ▸ h, fun q => absurd q h0⟩⟩
theorem rd1 {g : GV} {d : Nat} {L : List Nat} {P : Int32 → PS → Prop} {l2 : Int32} (hc : ∀ i, lc L i < 127) : ∀ (f told i c : Nat) (nm : Nat → Nat) (τ : PS), nt L - i + 1 ≤ f → i ≤ nt L → c ≤ i → Lay τ → RS τ L told nm → mi τ 16 5 = nI i → mi τ 16 6 = 0 → mi τ 16 7 = 0 →
    (∀ s T N, p1 L f told nm i = .inl (T, N) → RS s L T N → mi s 16 6 = 0 → Ch chRd chRl τ s → VX7_read g (d + 16) P 32 [some (.ref 16), none, some (.int (l2 + 1)), none] [] s) →
    (∀ s k j, p1 L f told nm i = .inr (k, j) → mi s 16 6 = nI (k + 16 * tb L j) → 1 ≤ k → k ≤ 7 → j ≤ nt L → Ch chRd chRl τ s → VX7_read g (d + 16) P 32 [some (.ref 16), none, some (.int (l2 + 1)), none] [] s) →
    VX7_read g (d + 16) P 66 [some (.ref 16), none, some (.int l2), some (.int (nI c))] [] τ := by
  intro f
  induction f with
  | zero => intro told i c nm τ h; omega
  | succ f ih =>
    intro told i c nm τ hf hi hci hL hR hat h0 hw hgo hbad
    have hl := hR.2.2.1
    have hn := nt_le (L := L)
    have hk : tK L i < 1000 := tk_lt (σ := τ) hc (tb L i)
    rw [p1_s] at hgo hbad
    refine vcX7_read_66 hL hR.1 _ _ ?_
    rw [hR.2.1.1, zLE (by omega) (by omega)]
    refine ⟨fun h x e => ?_, fun h => ⟨fun q => absurd h0 q, fun _ => ?_⟩⟩
    · have hz : tK L i = 0 := tk_end (by omega)
      rw [if_pos hz] at hgo
      exact e ▸ hgo τ told nm rfl hR h0 Ch.rf
    · refine Ct.imp (sp_kind7 hL hR hat hi) (fun r s q => ?_)
      obtain ⟨v, rfl, rfl, rfl⟩ := q
      refine ⟨_, rfl, Fr.rf, ?_⟩
      rw [lit32 0, zEQ (by omega) (by omega)]
      refine ⟨fun hz x e => ?_, fun hz => ?_⟩
      · rw [if_pos hz] at hgo
        exact e ▸ hgo s told nm rfl hR h0 Ch.rf
      rw [if_neg hz, st1_is] at hgo hbad
      have hlt := tK_N L i hz
      -- behind the ;
      have back : ∀ s2 : PS, O1 L (semiR L (st1' L told nm i)) s2 → Ch chRd chRl s s2 → ∀ x : Int32, x = nI c + 1 → VX7_read g (d + 16) P 66 [some (.ref 16), none, some (.int l2), some (.int x)] [] s2 := by
        intro s2 hO c2 x e
        rw [inc e]
        rcases hO with ⟨T, N, j, er, a1, a2, a3, a4⟩ | ⟨k, j, T, N, er, a1, a2, a3, a4, a5⟩
        · rw [er] at hgo hbad
          have hij : i < j := (st1_lt (T := T) (N := N) hi (by rw [st1_is]; exact er)).1
          exact ih T j (c + 1) N s2 (by omega) a4 (by omega) (c2.lay hL) a1 a2 a3 (by rw [c2.i (by omega)]; exact hw) (fun s' T' N' e' b1 b2 b3 => hgo s' T' N' e' b1 b2 (c2.trans b3)) (fun s' k j' e' b1 b2 b3 b4 b5 => hbad s' k j' e' b1 b2 b3 b4 (c2.trans b5))
        · rw [er] at hbad
          exact rd_bad (c2.lay hL) a1.1 (nB a2 a3 a4 hl) (hbad s2 k j rfl a2 a3 a4 a5 c2)
      have semi' : ∀ s1 : PS, O1 L (st1' L told nm i) s1 → Ch chRd chRl s s1 → CX7_expect g (d + 15) [.ref 16, .int 59] s1 (fun s2 => Fr s1 s2 ∧ ∀ x : Int32, x = nI c + 1 → VX7_read g (d + 16) P 66 [some (.ref 16), none, some (.int l2), some (.int x)] [] s2) := by
        intro s1 hO c1
        refine Ct.imp (sp_semi (d := d + 14) hc (c1.lay hL) hO) (fun r s2 q => ?_)
        obtain ⟨rfl, hO2, c2⟩ := q
        exact ⟨rfl, c2.fr, back s2 hO2 (c1.trans c2.rd)⟩
      refine Ct.imp (sp_kind7 hL hR hat hi) (fun r s q => ?_)
      obtain ⟨v, rfl, rfl, rfl⟩ := q
      refine ⟨_, rfl, Fr.rf, ?_⟩
      rw [lit32 7, zEQ (by omega) (by omega)]
      refine ⟨fun h7 => ?_, fun h7 => ?_⟩
      · refine Ct.imp (sp_kind7 hL hR hat hi) (fun r s q => ?_)
        obtain ⟨v, rfl, rfl, rfl⟩ := q
        refine ⟨_, rfl, Fr.rf, ?_⟩
        rw [lit32 8, zEQ (by omega) (by omega)]
        refine ⟨fun h8 => ?_, fun h8 => ?_⟩
        · rw [hw]
          have e : st1' L told nm i = bd4S (stF L told nm e0 i) (fun j => .inl (told, nm, j)) := by unfold st1'; rw [if_neg h7, if_neg h8]
          refine Ct.imp (sp_st1step (d := d + 1) hc hi hL hR hat h0) (fun r s1 q => ?_)
          obtain ⟨rfl, hO, c1⟩ := q
          exact ⟨rfl, c1.fr, semi' s1 (by rw [e]; exact hO) c1.rd⟩
        · refine Ct.imp (sp_st1each (d := d) hc hlt hL hR hat h0 h8 hw) (fun r s1 q => ?_)
          obtain ⟨rfl, hO, c1⟩ := q
          exact ⟨rfl, c1.fr, semi' s1 hO c1⟩
      · refine Ct.imp (sp_st1let (d := d) hc hlt hL hR hat h0 h7) (fun r s1 q => ?_)
        obtain ⟨rfl, hO, c1⟩ := q
        exact ⟨rfl, c1.fr, semi' s1 hO c1⟩
