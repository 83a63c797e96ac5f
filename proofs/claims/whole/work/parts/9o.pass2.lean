/-! ===== the second pass: one statement ===== -/
theorem bdN_inl {r : SR} {c : Nat → (Nat → Nat) → Nat → NR} {p : Nat × (Nat → Nat)} (h : bdN r c = .inl p) : ∃ t n j, r = .inl (t, n, j) ∧ c t n j = .inl p := by
  cases r with
  | inl q => exact ⟨q.1, q.2.1, q.2.2, rfl, h⟩
  | inr e => cases h
theorem semi_inl {L : List Nat} {T t j k : Nat} {N n : Nat → Nat} (h : semi L T N k = .inl (t, n, j)) : tK L k = 59 ∧ t = T ∧ n = N ∧ j = k + 1 := by
  unfold semi at h
  by_cases hs : tK L k = 59
  · rw [if_pos hs] at h; cases h; exact ⟨hs, rfl, rfl, rfl⟩
  · rw [if_neg hs] at h; cases h
theorem st1_inl {L : List Nat} {told i j t : Nat} {nm n : Nat → Nat} (h : st1 L told nm i = .inl (t, n, j)) : ∃ k, st1' L told nm i = .inl (t, n, k) ∧ tK L k = 59 ∧ j = k + 1 := by
  rw [st1_is] at h
  cases e : st1' L told nm i with
  | inr e' => rw [e] at h; cases h
  | inl p =>
    obtain ⟨T', N', k⟩ := p
    rw [e] at h
    obtain ⟨h1, rfl, rfl, h4⟩ := semi_inl (show semi L T' N' k = .inl (t, n, j) from h)
    exact ⟨k, rfl, h1, h4⟩
theorem s1let {L : List Nat} {told i k t : Nat} {nm n : Nat → Nat} (h7 : tK L i = 7) (h : st1' L told nm i = .inl (t, n, k)) : nnF L told nm (i + 1) = none ∧ (∃ v, smL L told nm e0 (i + 2) = .inl (v, k)) ∧ t = tellT nm told (tC L (i + 1)) ∧ n = tellN nm told (tC L (i + 1)) := by
  unfold st1' at h
  rw [if_pos h7] at h
  obtain ⟨v, m, h1, h2⟩ := bdS_inl h
  obtain ⟨n1, n2⟩ := letF_inl h1
  cases h2
  exact ⟨n1, ⟨v, n2⟩, rfl, rfl⟩
theorem s1each {L : List Nat} {told i k t : Nat} {nm n : Nat → Nat} (h8 : tK L i = 8) (h : st1' L told nm i = .inl (t, n, k)) : nnF L told nm (i + 1) = none ∧ t = tellT nm told (tC L (i + 1)) ∧ n = tellN nm told (tC L (i + 1)) ∧ ∃ a b j j2, smL L told nm e0 (i + 2) = .inl (a, j) ∧ smL L told nm e0 j = .inl (b, j2) ∧ ∃ q, stF L t n e0 j2 = .inl (q, k) := by
  unfold st1' at h
  rw [if_neg (by omega), if_pos h8] at h
  obtain ⟨v, m, h1, h2⟩ := bd4S_inl h
  obtain ⟨v', m', h3, h4⟩ := bd4S_inl h2
  obtain ⟨n1, a, b, k', n2, n3, -⟩ := eaH_inl h1
  cases h4
  exact ⟨n1, rfl, rfl, a, b, k', m, n2, n3, v', h3⟩
theorem s1step {L : List Nat} {told i k t : Nat} {nm n : Nat → Nat} (h7 : ¬ tK L i = 7) (h8 : ¬ tK L i = 8) (h : st1' L told nm i = .inl (t, n, k)) : t = told ∧ n = nm ∧ ∃ q, stF L told nm e0 i = .inl (q, k) := by
  unfold st1' at h
  rw [if_neg h7, if_neg h8] at h
  obtain ⟨v', m', h3, h4⟩ := bd4S_inl h
  cases h4
  exact ⟨rfl, rfl, v', h3⟩
theorem st1_ext {L : List Nat} {told i k t T : Nat} {nm n NM : Nat → Nat} (h : st1' L told nm i = .inl (t, n, k)) (hx : Ext t n T NM) : Ext told nm T NM := by
  by_cases h7 : tK L i = 7
  · obtain ⟨-, -, rfl, rfl⟩ := s1let h7 h; exact hx.tell
  by_cases h8 : tK L i = 8
  · obtain ⟨-, rfl, rfl, -⟩ := s1each h8 h; exact hx.tell
  · obtain ⟨rfl, rfl, -⟩ := s1step h7 h8 h; exact hx
theorem p1_ext {L : List Nat} : ∀ (f told i T : Nat) (nm NM : Nat → Nat), p1 L f told nm i = .inl (T, NM) → Ext told nm T NM := by
  intro f
  induction f with
  | zero => intro told i T nm NM h; cases h
  | succ f ih =>
    intro told i T nm NM h
    rw [p1_s] at h
    by_cases hz : tK L i = 0
    · rw [if_pos hz] at h; cases h; exact Ext.rf
    rw [if_neg hz] at h
    obtain ⟨t, n, j, h1, h2⟩ := bdN_inl h
    obtain ⟨k, h3, -, -⟩ := st1_inl h1
    exact st1_ext h3 (ih _ _ _ _ _ h2)
/-- a name told in the first pass, met in the second -/
theorem late_nm {L : List Nat} {told i T : Nat} {nm NM : Nat → Nat} (h : nnF L told nm i = none) (hx : Ext (tellT nm told (tC L i)) (tellN nm told (tC L i)) T NM) : slt NM T (tC L i) = some (slE L T NM i) ∧ slD L T NM i = slE L T NM i ∧ slE L T NM i < T ∧ nnF L T NM i = none ∧ tellT NM T (tC L i) = T ∧ tellN NM T (tC L i) = NM := by
  have e := hx _ _ (tell_slot (nm := nm) (told := told) (c := tC L i))
  have e1 : slE L T NM i = (slt nm told (tC L i)).getD told := by unfold slE; rw [e]; rfl
  have e2 : slt NM T (tC L i) = some (slE L T NM i) := by rw [e1]; exact e
  refine ⟨e2, by unfold slD; rw [e2]; rfl, (slt_lt e2).1, ?_, (tell_some e2).1, (tell_some e2).2⟩
  unfold nnF at h ⊢
  by_cases c1 : ¬ tK L i = 3
  · rw [if_pos c1] at h; cases h
  · rw [if_neg c1, if_neg (fun q => by rw [e2] at q; cases q.1)]
abbrev chR2 : Nat → Nat → Prop := fun a i => a = 19 ∨ a = 17 ∨ a = 16 ∧ (i = 3 ∨ i = 5 ∨ i = 6)
theorem Ch.r2 {σ s : PS} (c : Ch chRd chRl σ s) : Ch chR2 chRl σ s := c.mono (fun a k h => by omega) (fun _ _ h => h)
theorem Ch.s2 {σ s : PS} (c : Ch chStp noL σ s) : Ch chR2 chRl σ s := c.mono (fun a k h => by omega) (fun _ _ h => h.elim)
theorem RS.stp {σ s : PS} {L : List Nat} {told : Nat} {nm : Nat → Nat} (h : RS σ L told nm) (c : Ch chStp noL σ s) : RS s L told nm := h.ch c (by omega) (fun i => by omega) (fun i => by omega) (fun i => id) (by omega) (fun i => id)
/-- a STEP done -/
theorem sp_stepD {g : GV} {d T i j : Nat} {L : List Nat} {NM rw' : Nat → Nat} {env : Nat → Int32} {q : Int32 × Int32 × Int32 × Int32} {τ : PS} (hc : ∀ i, lc L i < 127) (hi : i ≤ nt L) (hL : Lay τ) (hR : RS τ L T NM) (hat : mi τ 16 5 = nI i) (h0 : mi τ 16 6 = 0) (hE : ∀ k, k < T → mi τ 19 k = env k) (hF : RowsF τ 17 rw') (hst : stF L T NM env i = .inl (q, j)) :
    CX7_readStep g (d + 14) [.ref 16, .int 1] τ (fun s => ((∃ r2, doF rw' (tK L i) q = .inl r2 ∧ mi s 16 5 = nI j ∧ mi s 16 6 = 0 ∧ RowsF s 17 r2) ∨ ∃ k, doF rw' (tK L i) q = .inr k ∧ mi s 16 6 = nI (k + 16 * tb L i) ∧ 1 ≤ k ∧ k ≤ 7) ∧ Ch chStp noL τ s) := by
  have hk : tK L i < 1000 := tk_lt (σ := τ) hc (tb L i)
  have af : ∀ s, Ch chAF noL τ s → Ch chStp noL τ s := fun s c => c.mono (fun a k h => Or.inr h) (fun _ _ h => h)
  have pf : ∀ s s', Ch chPut noL s s' → Ch chStp noL s s' := fun s s' c => c.mono (fun a k h => by omega) (fun _ _ h => h)
  refine sp_readStep hc hi hL hR hat h0 hE (fun s k j' er _ _ _ _ _ => ?_) (fun s x y w h j' er a1 a2 a3 c => ?_)
  · rw [hst] at er; cases er
  · rw [hst] at er
    cases er
    refine step_do (d := d + 12) (c.lay hL) (hR.af c) a2 hi hk (hF.ch c (fun i => by omega)) a1 (by decide) (fun s' r2 hd b1 b2 b3 c' => ?_) (fun s' k hd b1 b2 b3 c' => ?_)
    · exact ⟨Or.inl ⟨r2, doF_ok hd, b1, b2, b3⟩, (af _ c).trans (pf _ _ c')⟩
    · exact ⟨Or.inr ⟨k, doF_bad hd, b3, b1, b2⟩, (af _ c).trans (pf _ _ c')⟩
theorem eaF_s (L : List Nat) (T : Nat) (NM : Nat → Nat) (s : Nat) (a : Int32) (j z k : Nat) (env : Nat → Int32) (rw' : Nat → Nat) : eaF L T NM s a j (z + 1) k env rw' = match stF L T NM (upE env s (a + nI k)) j with
    | .inr _ => .inr 0
    | .inl p => match doF rw' (tK L j) p.1 with
      | .inr e => .inr e
      | .inl r2 => eaF L T NM s a j z (k + 1) (upE env s (a + nI k)) r2 := rfl
theorem ea_loop {g : GV} {d T sl j j3 : Nat} {L : List Nat} {NM : Nat → Nat} {a : Int32} {x : Int64} {P : PS → Prop} (hc : ∀ i, lc L i < 127) (hj : j ≤ nt L) (hsl : sl < T) (hst : ∀ env, ∃ q, stF L T NM env j = .inl (q, j3)) : ∀ (z k : Nat) (env : Nat → Int32) (rw' : Nat → Nat) (τ : PS), x.toInt = (z + k : Nat) → z + k ≤ 64 → Lay τ → RS τ L T NM → (z = 0 → mi τ 16 5 = nI j3) → mi τ 16 6 = 0 → (∀ q, q < T → mi τ 19 q = env q) → RowsF τ 17 rw' →
    (∀ s e r, eaF L T NM sl a j z k env rw' = .inl (e, r) → mi s 16 5 = nI j3 → mi s 16 6 = 0 → RS s L T NM → (∀ q, q < T → mi s 19 q = e q) → RowsF s 17 r → Ch chR2 chRl τ s → P s) →
    (∀ s e, eaF L T NM sl a j z k env rw' = .inr e → mi s 16 6 = nI (e + 16 * tb L j) → 1 ≤ e → e ≤ 7 → RS s L T NM → Ch chR2 chRl τ s → P s) →
    VX7_readEach g (d + 15) P 107 [some (.ref 16), none, none, some (.int a), none, some (.int (nI sl)), some (.long x), none, some (.int (nI j)), some (.int (nI k))] [] τ := by
  intro z
  induction z with
  | zero =>
    intro k env rw' τ hx hk hL hR hat h0 hE hF hgo hbad
    refine vcX7_readEach_107 hL hR.1 _ _ _ _ _ ⟨fun _ => hgo τ env rw' rfl (hat rfl) h0 hR hE hF Ch.rf, fun h => absurd (lcN.mpr ?_) h⟩
    rw [hx, Int32.toInt_toInt64, nI_toInt (by omega)]
    omega
  | succ z ih =>
    intro k env rw' τ hx hk hL hR hat h0 hE hF hgo hbad
    have hl := hR.2.2.1
    have hn := nt_le (L := L)
    have h8 := hR.2.2.2.2.1
    refine vcX7_readEach_107 hL hR.1 _ _ _ _ _ ⟨fun h => ?_, fun _ => ⟨fun q => absurd h0 q, fun _ s25 e25 => ?_⟩⟩
    · have := lcN.mp h
      rw [hx, Int32.toInt_toInt64, nI_toInt (by omega)] at this
      omega
    rw [zIN (by omega) (by omega), zCL (by omega)]
    refine ⟨by omega, fun s28 e28 => ?_⟩
    have c25 : Ch chR2 chRl τ s28 := by
      rw [e28, e25]
      exact (((Ch.rf : Ch chR2 chRl τ τ).si (by omega)).si (by omega))
    have c25' : Ch (fun a i => a = 19 ∨ a = 16 ∧ i = 5) noL τ s28 := by
      rw [e28, e25]
      exact (((Ch.rf : Ch (fun a i => a = 19 ∨ a = 16 ∧ i = 5) noL τ τ).si (by omega)).si (by omega))
    have hR28 : RS s28 L T NM := hR.ch c25' (by omega) (fun i => by omega) (fun i => by omega) (fun i => id) (by omega) (fun i => id)
    have hE28 : ∀ q, q < T → mi s28 19 q = upE env sl (a + nI k) q := by
      intro q hq
      rw [e28, mi_si]
      unfold upE
      by_cases hqs : q = sl
      · rw [if_pos ⟨rfl, hqs⟩, if_pos hqs]
      · rw [if_neg (fun z => hqs z.2), if_neg hqs, e25, mi_si, if_neg (by omega)]; exact hE q hq
    obtain ⟨q, hq⟩ := hst (upE env sl (a + nI k))
    rw [eaF_s, hq] at hgo hbad
    dsimp only at hgo hbad
    refine Ct.imp (sp_stepD (d := d) hc hj (c25.lay hL) hR28 (by rw [e28, mi_si, if_neg (by omega), e25, mi_si, if_pos ⟨rfl, rfl⟩]) (by rw [c25'.i (by omega)]; exact h0) hE28 (hF.ch c25' (fun i => by omega)) hq) (fun r s30 w => ?_)
    obtain ⟨rfl, hp, c30⟩ := w
    refine ⟨rfl, c30.fr, fun x32 e32 => ?_⟩
    rw [inc e32]
    have c' := c25.trans c30.s2
    rcases hp with ⟨r2, hd, b1, b2, b3⟩ | ⟨e, hd, b1, b2, b3⟩
    · rw [hd] at hgo hbad
      dsimp only at hgo hbad
      exact ih (k + 1) _ r2 s30 (by rw [hx]; congr 1; omega) (by omega) (c'.lay hL) (hR28.stp c30) (fun _ => b1) b2 (fun q hq => by rw [c30.i (by omega)]; exact hE28 q hq) b3 (fun s e r h1 h2 h3 h4 h5 h6 h7 => hgo s e r h1 h2 h3 h4 h5 h6 (c'.trans h7)) (fun s e h1 h2 h3 h4 h5 h6 => hbad s e h1 h2 h3 h4 h5 (c'.trans h6))
    · rw [hd] at hbad
      dsimp only at hbad
      have hb := nB b1 b2 b3 hl
      have hR30 := hR28.stp c30
      refine vcX7_readEach_107 (c'.lay hL) hR30.1 _ _ _ _ _ ⟨fun _ => ?_, fun _ => ⟨fun _ => ?_, fun q => absurd q hb⟩⟩
      · exact hbad s30 e rfl b1 b2 b3 hR30 c'
      · exact hbad s30 e rfl b1 b2 b3 hR30 c'
