/-! ===== the reference's readsPlain ===== -/
/-- line l holds the codes of the tokens from i to before j, all before code C -/
def LineOK (s : PS) (L : List Nat) (told : Nat) (nm : Nat → Nat) (l i j C : Nat) : Prop := ∃ c, mi s 186 l = nI c ∧ mi s 187 l = nI (c + (j - i)) ∧ c + (j - i) ≤ C ∧ ∀ k, i ≤ k → k < j → mi s 188 (c + (k - i)) = nI (cd L told nm k)
theorem LineOK.ch {s s' : PS} {L : List Nat} {told l i j C : Nat} {nm : Nat → Nat} {Pm Pl : Nat → Nat → Prop} (h : LineOK s L told nm l i j C) (c : Ch Pm Pl s s') (h1 : ¬ Pm 186 l) (h2 : ¬ Pm 187 l) (h3 : ∀ q, q < C → ¬ Pm 188 q) : LineOK s' L told nm l i j C := by
  obtain ⟨c0, a1, a2, a3, a4⟩ := h
  exact ⟨c0, by rw [c.i h1]; exact a1, by rw [c.i h2]; exact a2, a3, fun k q1 q2 => by rw [c.i (h3 _ (by omega))]; exact a4 k q1 q2⟩
theorem LineOK.le {s : PS} {L : List Nat} {told l i j C D : Nat} {nm : Nat → Nat} (h : LineOK s L told nm l i j C) (hd : C ≤ D) : LineOK s L told nm l i j D := by
  obtain ⟨c0, a1, a2, a3, a4⟩ := h
  exact ⟨c0, a1, a2, by omega, a4⟩
/-- the reference at token i, with c codes and n statements -/
def MS (s : PS) (L : List Nat) (told : Nat) (nm : Nat → Nat) (c i n : Nat) : Prop := RT s L (tb L i) ∧ TX s L ∧ RN s L told nm ∧ mi s 179 21 = nI c ∧ c ≤ i ∧ i ≤ nt L ∧ mi s 179 10 = nI n ∧ n < 200 ∧ Lay s
theorem pl_E {g : GV} {d told i c n e : Nat} {L : List Nat} {nm : Nat → Nat} {s : PS} (hc : ∀ i, lc L i < 127) (hM : MS s L told nm c i n) (he : e ≤ 5) :
    CX12_readsE g (d + 2) [.ref 179, .int ((6 * (mi s 179 10)) + nI e)] s (fun v s' => ((∃ u j, smL L told nm e0 i = .inl (u, j) ∧ v = 1 ∧ MS s' L told nm (c + (j - i)) j n ∧ LineOK s' L told nm (6 * n + e) i j (c + (j - i)) ∧ i < j) ∨ ∃ k m, smL L told nm e0 i = .inr (k, m) ∧ v = 0 ∧ mi s' 179 9 = nI (k + 16 * tb L m)) ∧ Ch (chRE c (6 * n + e)) chNl s s') := by
  obtain ⟨m1, m2, m3, m4, m5, m6, m7, m8, m9⟩ := hM
  rw [m7, lit32 6, pk_mul, nI_add]
  refine Ct.imp (sp_readsE (d := d) (l := 6 * n + e) hc m9 m2 m3 m5 m6 m1 m4 (by omega)) (fun r s' q => ?_)
  obtain ⟨v, rfl, hp, cc⟩ := q
  refine ⟨_, rfl, ?_, cc⟩
  rcases hp with ⟨u, j, a1, rfl, a2, a3, a4, a5, a6, a7, a8⟩ | ⟨k, m, a1, rfl, a2⟩
  · exact Or.inl ⟨u, j, a1, rfl, ⟨a2, m2.ch cc (by omega) (fun i => by omega), m3.ch cc (by omega) (fun i => by omega), a3, by omega, a6, by rw [cc.i (by omega)]; exact m7, m8, cc.lay m9⟩, ⟨c, a7, a8, Nat.le_refl _, a4⟩, a5⟩
  · exact Or.inr ⟨k, m, a1, rfl, a2⟩
/-- a cell, rect or less read: its lines -/
def PlR (s : PS) (L : List Nat) (told : Nat) (nm : Nat → Nat) (n p C j : Nat) : Prop := mi s 181 n = nI (tK L p - 4) ∧ mi s 183 n = nI (tb L p) ∧ ∃ j1 j2 u1 u2, smL L told nm e0 (p + 1) = .inl (u1, j1) ∧ smL L told nm e0 j1 = .inl (u2, j2) ∧ LineOK s L told nm (6 * n) (p + 1) j1 C ∧ LineOK s L told nm (6 * n + 1) j1 j2 C ∧ ((¬ tK L p = 5 ∧ j = j2) ∨ (tK L p = 5 ∧ ∃ j3 u3 u4, smL L told nm e0 j2 = .inl (u3, j3) ∧ smL L told nm e0 j3 = .inl (u4, j) ∧ LineOK s L told nm (6 * n + 2) j2 j3 C ∧ LineOK s L told nm (6 * n + 3) j3 j C))
abbrev chPn (c n : Nat) : Nat → Nat → Prop := fun a i => a = 179 ∧ (4 ≤ i ∧ i ≤ 6 ∨ i = 8 ∨ i = 9 ∨ i = 21) ∨ a = 188 ∧ c ≤ i ∨ (a = 186 ∨ a = 187) ∧ 6 * n ≤ i ∧ i ≤ 6 * n + 3 ∨ (a = 181 ∨ a = 183) ∧ i = n
theorem Ch.pn {s s' : PS} {c c' n e : Nat} (h : Ch (chRE c' (6 * n + e)) chNl s s') (hc : c ≤ c') (he : e ≤ 3) : Ch (chPn c n) chNl s s' := h.mono (fun a k q => by omega) (fun _ _ q => q)
theorem sp_readsPlain {g : GV} {d told p c n : Nat} {L : List Nat} {nm : Nat → Nat} {τ : PS} (hc : ∀ i, lc L i < 127) (hM : MS τ L told nm c p n) (hp : 4 ≤ tK L p ∧ tK L p ≤ 6) :
    CX12_readsPlain g (d + 3) [.ref 179, .int (nI (tK L p - 4))] τ (fun v s => ((∃ q j C, stF L told nm e0 p = .inl (q, j) ∧ v = 1 ∧ MS s L told nm C j n ∧ PlR s L told nm n p C j ∧ c ≤ C ∧ p < j) ∨ ∃ k m, stF L told nm e0 p = .inr (k, m) ∧ v = 0 ∧ mi s 179 9 = nI (k + 16 * tb L m)) ∧ Ch (chPn c n) chNl τ s) := by
  have hM' := hM
  obtain ⟨m1, m2, m3, m4, m5, m6, m7, m8, m9⟩ := hM
  have hlt := tK_N L p (by omega)
  have hb := tb_ltn hlt
  have hn := nt_le (L := L)
  have hst : stF L told nm e0 p = bd4 (smL L told nm e0 (p + 1)) (fun x j => bd4 (smL L told nm e0 j) (fun y j2 => if tK L p = 5 then bd4 (smL L told nm e0 j2) (fun w j3 => bd4 (smL L told nm e0 j3) (fun h j4 => .inl ((x, y, w, h), j4))) else .inl ((x, y, 1, 1), j2))) := by unfold stF; rw [if_neg (fun q => q (by omega))]
  generalize hP : (fun (v : Int32) (s : PS) => ((∃ q j C, stF L told nm e0 p = .inl (q, j) ∧ v = 1 ∧ MS s L told nm C j n ∧ PlR s L told nm n p C j ∧ c ≤ C ∧ p < j) ∨ ∃ k m, stF L told nm e0 p = .inr (k, m) ∧ v = 0 ∧ mi s 179 9 = nI (k + 16 * tb L m)) ∧ Ch (chPn c n) chNl τ s) = P
  refine vcX12_readsPlain m9 _ ?_
  rw [m7, zIN (by omega) (by omega), zCL (by omega)]
  refine ⟨m8, fun s2 e2 => ?_⟩
  have v2 : mi s2 179 10 = nI n := by rw [e2, mi_si, if_neg (by omega)]; exact m7
  have w2 : mi s2 179 5 = nI (tb L p) := by rw [e2, mi_si, if_neg (by omega)]; exact m1.1
  rw [v2, w2, zIN (by omega) (by omega), zCL (by omega)]
  refine ⟨m8, fun s5 e5 => ?_⟩
  have c5 : Ch (fun a i => (a = 181 ∨ a = 183) ∧ i = n) noL τ s5 := by rw [e5, e2]; exact (Ch.rf.si ⟨Or.inl rfl, rfl⟩).si ⟨Or.inr rfl, rfl⟩
  have x5 : mi s5 181 n = nI (tK L p - 4) ∧ mi s5 183 n = nI (tb L p) := by
    constructor
    · rw [e5, mi_si, if_neg (by omega), e2, mi_si, if_pos ⟨rfl, rfl⟩]
    · rw [e5, mi_si, if_pos ⟨rfl, rfl⟩]
  have hp4 : mi s5 179 4 = nI (te L (tb L p)) := by rw [c5.i (by omega), m1.2.1, if_pos hb]
  have hT5 : TX s5 L := m2.ch c5 (by omega) (fun i => by omega)
  refine Ct.imp (sp_nextToken (d := d + 1) (c5.lay m9) hT5 hp4 (te_b hb).2) (fun r s7 q => ?_)
  obtain ⟨rfl, a1, c7⟩ := q
  refine ⟨rfl, c7.fr, ?_⟩
  have r7 : RT s7 L (tb L (p + 1)) := by rw [tb_s, if_pos hb]; exact a1
  have f7 : Ch (chPn c n) chNl τ s7 := (c5.mono (fun a k h => by omega) (fun _ _ h => h.elim)).trans (c7.mono (fun a k h => by omega) (fun _ _ h => h))
  have M7 : MS s7 L told nm c (p + 1) n := ⟨r7, hT5.ch c7 (by omega) (fun i => by omega), (m3.ch c5 (by omega) (fun i => id)).ch c7 (by omega) (fun i => by omega), by rw [c7.i (by omega), c5.i (by omega)]; exact m4, by omega, by omega, by rw [c7.i (by omega), c5.i (by omega)]; exact m7, m8, f7.lay m9⟩
  have x7 : mi s7 181 n = nI (tK L p - 4) ∧ mi s7 183 n = nI (tb L p) := ⟨by rw [c7.i (by omega)]; exact x5.1, by rw [c7.i (by omega)]; exact x5.2⟩
  have bad : ∀ (s : PS) (k m : Nat), stF L told nm e0 p = .inr (k, m) → mi s 179 9 = nI (k + 16 * tb L m) → Ch (chPn c n) chNl τ s → P 0 s := fun s k m er a c => by rw [← hP]; exact ⟨Or.inr ⟨k, m, er, rfl, a⟩, c⟩
  have keep : ∀ {s s' : PS} {c' e : Nat}, Ch (chRE c' (6 * n + e)) chNl s s' → (mi s 181 n = nI (tK L p - 4) ∧ mi s 183 n = nI (tb L p)) → (mi s' 181 n = nI (tK L p - 4) ∧ mi s' 183 n = nI (tb L p)) := fun c x => ⟨by rw [c.i (by omega)]; exact x.1, by rw [c.i (by omega)]; exact x.2⟩
  have keepL : ∀ {s s' : PS} {c' e l i j : Nat}, Ch (chRE c' (6 * n + e)) chNl s s' → l ≠ 6 * n + e → LineOK s L told nm l i j c' → ∀ D, c' ≤ D → LineOK s' L told nm l i j D := fun c hl h D hD => (h.ch c (by omega) (by omega) (fun q hq => by omega)).le hD
  have k1 : (nI (tK L p - 4) = 1) = (tK L p = 5) := by rw [lit32 1, zEQ (by omega) (by omega)]; exact propext ⟨fun h => by omega, fun h => by omega⟩
  -- the loop at its E number e
  have stp : ∀ (e : Nat) (s : PS), e < (if tK L p = 5 then 4 else 2) → Lay s → CX12_readsE g (d + 2) [.ref 179, .int ((6 * (mi s 179 10)) + nI e)] s (fun v s' => Fr s s' ∧ (¬ v = 0 → VX12_readsPlain g (d + 3) P 29 [some (.ref 179), some (.int (nI (tK L p - 4))), some (.int (nI (e + 1)))] [] s') ∧ (v = 0 → P 0 s')) → VX12_readsPlain g (d + 3) P 29 [some (.ref 179), some (.int (nI (tK L p - 4))), some (.int (nI e))] [] s := by
    intro e s he hLs h
    have h' : CX12_readsE g (d + 2) [.ref 179, .int ((6 * (mi s 179 10)) + nI e)] s (fun v s' => Fr s s' ∧ (¬ v = 0 → ∀ x, x = nI e + 1 → VX12_readsPlain g (d + 3) P 29 [some (.ref 179), some (.int (nI (tK L p - 4))), some (.int x)] [] s') ∧ (v = 0 → P 0 s')) := by
      refine Ct.imp h (fun r s' q => ?_)
      obtain ⟨v, rfl, f, q1, q2⟩ := q
      exact ⟨_, rfl, f, fun hv x ex => by rw [inc ex]; exact q1 hv, q2⟩
    refine vcX12_readsPlain_29 hLs _ _ ?_
    rw [k1, lit32 2, lit32 4]
    by_cases h5 : tK L p = 5
    · rw [if_pos h5] at he
      refine ⟨fun q => absurd h5 q, fun _ => ⟨fun q => ?_, fun _ => h'⟩⟩
      rw [zLE (by omega) (by omega)] at q
      omega
    · rw [if_neg h5] at he
      refine ⟨fun _ => ⟨fun q => ?_, fun _ => h'⟩, fun q => absurd q h5⟩
      rw [zLE (by omega) (by omega)] at q
      omega
  have fin : ∀ (e : Nat) (s : PS), e = (if tK L p = 5 then 4 else 2) → Lay s → P 1 s → VX12_readsPlain g (d + 3) P 29 [some (.ref 179), some (.int (nI (tK L p - 4))), some (.int (nI e))] [] s := by
    intro e s he hLs h
    refine vcX12_readsPlain_29 hLs _ _ ?_
    rw [k1, lit32 2, lit32 4]
    by_cases h5 : tK L p = 5
    · rw [if_pos h5] at he
      refine ⟨fun q => absurd h5 q, fun _ => ⟨fun _ => h, fun q => ?_⟩⟩
      rw [zLE (by omega) (by omega)] at q
      omega
    · rw [if_neg h5] at he
      refine ⟨fun _ => ⟨fun _ => h, fun q => ?_⟩, fun q => absurd q h5⟩
      rw [zLE (by omega) (by omega)] at q
      omega
  refine stp 0 s7 (by split <;> omega) (f7.lay m9) ?_
  refine Ct.imp (pl_E (d := d) (e := 0) hc M7 (by omega)) (fun r s8 q => ?_)
  obtain ⟨v, rfl, hp0, c8⟩ := q
  have f8 := f7.trans (c8.pn (Nat.le_refl _) (by omega))
  rcases hp0 with ⟨u1, j1, er1, rfl, M8, L8, i1⟩ | ⟨k, m, er1, rfl, b1⟩
  rotate_left
  · rw [er1, bd4_r] at hst
    exact ⟨_, rfl, c8.fr, fun q => absurd rfl q, fun _ => bad s8 k m hst b1 f8⟩
  rw [er1, bd4_l] at hst
  refine ⟨_, rfl, c8.fr, fun _ => ?_, fun q => absurd q (by decide)⟩
  refine stp 1 s8 (by split <;> omega) (f8.lay m9) ?_
  refine Ct.imp (pl_E (d := d) (e := 1) hc M8 (by omega)) (fun r s9 q => ?_)
  obtain ⟨v, rfl, hp0, c9⟩ := q
  have f9 := f8.trans (c9.pn (c := c) (by omega) (by omega))
  rcases hp0 with ⟨u2, j2, er2, rfl, M9, L9, i2⟩ | ⟨k, m, er2, rfl, b1⟩
  rotate_left
  · rw [er2, bd4_r] at hst
    exact ⟨_, rfl, c9.fr, fun q => absurd rfl q, fun _ => bad s9 k m hst b1 f9⟩
  rw [er2, bd4_l] at hst
  refine ⟨_, rfl, c9.fr, fun _ => ?_, fun q => absurd q (by decide)⟩
  have x9 := keep c9 (keep c8 x7)
  by_cases h5 : tK L p = 5
  rotate_left
  · rw [if_neg h5] at hst
    refine fin 2 s9 (by rw [if_neg h5]) (f9.lay m9) ?_
    rw [← hP]
    exact ⟨Or.inl ⟨_, j2, _, hst, rfl, M9, ⟨x9.1, x9.2, j1, j2, u1, u2, er1, er2, keepL c9 (by omega) L8 _ (by omega), L9, Or.inl ⟨h5, rfl⟩⟩, by omega, by omega⟩, f9⟩
  rw [if_pos h5] at hst
  refine stp 2 s9 (by rw [if_pos h5]; omega) (f9.lay m9) ?_
  refine Ct.imp (pl_E (d := d) (e := 2) hc M9 (by omega)) (fun r s10 q => ?_)
  obtain ⟨v, rfl, hp0, c10⟩ := q
  have f10 := f9.trans (c10.pn (c := c) (by omega) (by omega))
  rcases hp0 with ⟨u3, j3, er3, rfl, M10, L10, i3⟩ | ⟨k, m, er3, rfl, b1⟩
  rotate_left
  · rw [er3, bd4_r] at hst
    exact ⟨_, rfl, c10.fr, fun q => absurd rfl q, fun _ => bad s10 k m hst b1 f10⟩
  rw [er3, bd4_l] at hst
  refine ⟨_, rfl, c10.fr, fun _ => ?_, fun q => absurd q (by decide)⟩
  refine stp 3 s10 (by rw [if_pos h5]; omega) (f10.lay m9) ?_
  refine Ct.imp (pl_E (d := d) (e := 3) hc M10 (by omega)) (fun r s11 q => ?_)
  obtain ⟨v, rfl, hp0, c11⟩ := q
  have f11 := f10.trans (c11.pn (c := c) (by omega) (by omega))
  rcases hp0 with ⟨u4, j4, er4, rfl, M11, L11, i4⟩ | ⟨k, m, er4, rfl, b1⟩
  rotate_left
  · rw [er4, bd4_r] at hst
    exact ⟨_, rfl, c11.fr, fun q => absurd rfl q, fun _ => bad s11 k m hst b1 f11⟩
  rw [er4, bd4_l] at hst
  refine ⟨_, rfl, c11.fr, fun _ => ?_, fun q => absurd q (by decide)⟩
  have x11 := keep c11 (keep c10 x9)
  refine fin 4 s11 (by rw [if_pos h5]) (f11.lay m9) ?_
  rw [← hP]
  exact ⟨Or.inl ⟨_, j4, _, hst, rfl, M11, ⟨x11.1, x11.2, j1, j2, u1, u2, er1, er2, keepL c11 (by omega) (keepL c10 (by omega) (keepL c9 (by omega) L8 _ (by omega)) _ (by omega)) _ (by omega), keepL c11 (by omega) (keepL c10 (by omega) L9 _ (by omega)) _ (by omega), Or.inr ⟨h5, j3, u3, u4, er3, er4, keepL c11 (by omega) L10 _ (by omega), L11⟩⟩, by omega, by omega⟩, f11⟩
