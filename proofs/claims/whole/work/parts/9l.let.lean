/-! ===== the class's readLet, readEach ===== -/
theorem nB {L : List Nat} {k j : Nat} {s : PS} (h : mi s 16 6 = nI (k + 16 * tb L j)) (hk : 1 ≤ k) (hk5 : k ≤ 7) (hl : L.length ≤ 1000) : ¬ mi s 16 6 = 0 := by
  have := tb_le L j
  rw [h, lit32 0, zEQ (by omega) (by omega)]
  omega
/-- what stands behind let: the new NAME, the E -/
def letF (L : List Nat) (told : Nat) (nm : Nat → Nat) (env : Nat → Int32) (i : Nat) : ER := match nnF L told nm (i + 1) with
  | some k => .inr (k, i + 1)
  | none => smL L told nm env (i + 2)
def eaH (L : List Nat) (told : Nat) (nm : Nat → Nat) (env : Nat → Int32) (i : Nat) : ER4 := match nnF L told nm (i + 1) with
  | some k => .inr (k, i + 1)
  | none => bd4 (smL L told nm env (i + 2)) (fun a j => bd4 (smL L told nm env j) (fun b j2 => .inl ((a, b, 0, 0), j2)))
def slD (L : List Nat) (told : Nat) (nm : Nat → Nat) (i : Nat) : Nat := (slt nm told (tC L i)).getD told
abbrev chRd : Nat → Nat → Prop := fun a i => a = 19 ∨ a = 16 ∧ (i = 3 ∨ i = 5 ∨ i = 6)
abbrev chRl : Nat → Nat → Prop := fun a _ => a = 18
theorem Ch.rd {σ s : PS} (c : Ch chAF noL σ s) : Ch chRd chRl σ s := c.mono (fun a k h => by omega) (fun _ _ h => h.elim)
/-- what comes of let -/
def LetP (L : List Nat) (told : Nat) (nm : Nat → Nat) (env : Nat → Int32) (i : Nat) (τ s : PS) : Prop :=
  (∃ v j, letF L told nm env i = .inl (v, j) ∧ mi s 16 5 = nI j ∧ mi s 16 6 = 0 ∧ j ≤ nt L ∧ RS s L (tellT nm told (tC L (i + 1))) (tellN nm told (tC L (i + 1))) ∧ ∀ k, mi s 19 k = if k = slD L told nm (i + 1) then v else mi τ 19 k) ∨ (∃ k j, letF L told nm env i = .inr (k, j) ∧ mi s 16 6 = nI (k + 16 * tb L j) ∧ 1 ≤ k ∧ k ≤ 5 ∧ j ≤ nt L ∧ RS s L told nm)
theorem nn_w {L : List Nat} {told i : Nat} {nm : Nat → Nat} (h : nnF L told nm i = none) : i < nt L ∧ isW L (tb L i) ∧ ¬ (slt nm told (tC L i) = none ∧ told = 8) := by
  unfold nnF at h
  by_cases c1 : ¬ tK L i = 3
  · rw [if_pos c1] at h; cases h
  rw [if_neg c1] at h
  by_cases c2 : slt nm told (tC L i) = none ∧ told = 8
  · rw [if_pos c2] at h; cases h
  exact ⟨tK_N L i (by omega), tk_word (L := L) (b := tb L i) (by change ¬ tk L (tb L i) ≠ 3 at c1; omega), c2⟩
theorem slD_lt {L : List Nat} {told i : Nat} {nm : Nat → Nat} (h8 : told ≤ 8) (h : ¬ (slt nm told (tC L i) = none ∧ told = 8)) : slD L told nm i < 8 := by
  unfold slD
  cases e : slt nm told (tC L i) with
  | some k => have := (slt_lt e).1; show k < 8; omega
  | none => rw [e] at h; show told < 8; exact Nat.lt_of_le_of_ne h8 (fun q => h ⟨rfl, q⟩)
theorem sp_readLet {g : GV} {d told i : Nat} {L : List Nat} {nm : Nat → Nat} {env : Nat → Int32} {τ : PS} (hc : ∀ i, lc L i < 127) (hi : i < nt L) (hL : Lay τ) (hR : RS τ L told nm) (hat : mi τ 16 5 = nI i) (h0 : mi τ 16 6 = 0) (hE : ∀ k, k < told → mi τ 19 k = env k) :
    CX7_readLet g (d + 14) [.ref 16] τ (fun s => LetP L told nm env i τ s ∧ Ch chRd chRl τ s) := by
  have hl := hR.2.2.1
  have hn := nt_le (L := L)
  refine vcX7_readLet hL hR.1 (fun s1 e1 x3 e3 => ?_)
  rw [hat, inc rfl] at e1
  have u1 : mi s1 16 5 = nI (i + 1) := by rw [e1, mi_si, if_pos ⟨rfl, rfl⟩]
  have u2 : mi s1 16 6 = 0 := by rw [e1, mi_si, if_neg (by omega)]; exact h0
  have u3 : Ch chAF noL τ s1 := by rw [e1]; exact Ch.rf.si ⟨rfl, Or.inl rfl⟩
  rw [u1] at e3
  subst e3
  refine Ct.imp (sp_readNewName (d := d + 12) hc (by omega) (u3.lay hL) (hR.af u3) u1 u2) (fun r s5 q => ?_)
  obtain ⟨rfl, hp, c5⟩ := q
  have c5' := u3.trans c5
  refine ⟨rfl, c5.fr, ?_⟩
  have hl1 : ∀ k, nnF L told nm (i + 1) = some k → letF L told nm env i = .inr (k, i + 1) := fun k e => by unfold letF; rw [e]
  rcases hp with ⟨en, a1, a2⟩ | ⟨k, ek, a1, a2, a3⟩
  · obtain ⟨w1, w2, w3⟩ := nn_w en
    have hl2 : letF L told nm env i = smL L told nm env (i + 2) := by unfold letF; rw [en]
    refine Ct.imp (sp_sum (d := d) (env := env) hc (by omega) (c5'.lay hL) (hR.af c5') a1 a2 (fun k hk => by rw [c5'.i (by omega)]; exact hE k hk)) (fun r s7 q => ?_)
    obtain ⟨v, rfl, hp, c7⟩ := q
    have c7' := c5'.trans c7
    refine ⟨_, rfl, c7.fr, ?_⟩
    rcases hp with ⟨u, j, er, rfl, b1, b2, b3⟩ | ⟨k, j, er, b1, b2, b3, b4⟩
    · refine ⟨fun q => absurd b2 q, fun _ => ?_⟩
      refine Ct.imp (sp_tellName (d := d + 12) w1 (c7'.lay hL) (hR.af c7') w2 w3) (fun r s9 q => ?_)
      obtain ⟨v10, rfl, rfl, hs, hR9, c9⟩ := q
      refine ⟨_, rfl, c9.fr, ?_⟩
      have h8 : slD L told nm (i + 1) < 8 := slD_lt hR.2.2.2.2.1 w3
      have h8' : (slt nm told (tC L (i + 1))).getD told < 8 := h8
      rw [zIN (by omega) (by omega), zCL (by omega)]
      refine ⟨h8', fun s12 e12 => ?_⟩
      have c12 : Ch (fun a _ => a = 19) noL s9 s12 := by rw [e12]; exact Ch.rf.si rfl
      have c9' : Ch chRd chRl s7 s9 := c9.mono (fun a k h => by omega) (fun _ _ h => h)
      refine ⟨Or.inl ⟨v, j, by rw [hl2]; exact er, ?_, ?_, b3, hR9.ch c12 (by omega) (fun i => by omega) (fun i => by omega) (fun i => id) (by omega) (fun i => id), fun k => ?_⟩, (c7'.rd.trans c9').trans (c12.mono (fun a k h => Or.inl h) (fun _ _ h => h.elim))⟩
      · rw [e12, mi_si, if_neg (by omega), c9.i (by omega)]; exact b1
      · rw [e12, mi_si, if_neg (by omega), c9.i (by omega)]; exact b2
      · rw [e12, mi_si]
        unfold slD
        by_cases q : k = (slt nm told (tC L (i + 1))).getD told
        · rw [if_pos ⟨rfl, q⟩, if_pos q]
        · rw [if_neg (fun z => q z.2), if_neg q, c9.i (by omega), c7'.i (by omega)]
    · exact ⟨fun _ => ⟨Or.inr ⟨k, j, by rw [hl2]; exact er, b1, b2, b3, b4, hR.af c7'⟩, c7'.rd⟩, fun q => absurd q (nB b1 b2 (by omega) hl)⟩
  · have hb := nB a1 a2 (by omega) hl
    refine Ct.imp (sp_sumf (d := d + 11) (c5'.lay hL) (hR.af c5').1 hb) (fun r s7 q => ?_)
    obtain ⟨v, rfl, rfl⟩ := q
    exact ⟨_, rfl, Fr.rf, fun _ => ⟨Or.inr ⟨k, i + 1, hl1 k ek, a1, a2, a3, by omega, hR.af c5'⟩, c5'.rd⟩, fun q => absurd q hb⟩
