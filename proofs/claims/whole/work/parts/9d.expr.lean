/-! ===== E: what it is worth, or its FAULT (numbers alone) ===== -/
abbrev ER := (Int32 × Nat) ⊕ (Nat × Nat)
def bnd (r : ER) (c : Int32 → Nat → ER) : ER := match r with
  | .inr e => .inr e
  | .inl p => c p.1 p.2
theorem bnd_l (v : Int32) (j : Nat) (c : Int32 → Nat → ER) : bnd (.inl (v, j)) c = c v j := rfl
theorem bnd_r (e : Nat × Nat) (c : Int32 → Nat → ER) : bnd (.inr e) c = .inr e := rfl
/-- a PART at token i within so many ( ) (none), or what goes on behind a PRODUCT (total, sign, product) -/
def pe (K : Nat → Nat) (V : Nat → Int32) (sl : Nat → Option Nat) (env : Nat → Int32) : Nat → Option (Int32 × Int32 × Int32) → Nat → Nat → ER
  | 0, _, _, i => .inr (0, i)
  | f + 1, none, w, i =>
    if ¬ (K i = 2 ∨ K i = 3 ∨ K i = 40) then .inr (1, i)
    else if K i = 3 ∧ sl i = none then .inr (2, i)
    else if 5 ≤ w then .inr (5, i)
    else if K i = 2 then .inl (V i, i + 1)
    else if K i = 3 then .inl (env ((sl i).getD 0), i + 1)
    else bnd (bnd (pe K V sl env f none (w + 1) (i + 1)) (fun v j => pe K V sl env f (some (0, 1, v)) (w + 1) j)) (fun u j => if K j = 41 then .inl (u, j + 1) else .inr (1, j))
  | f + 1, some a, w, i =>
    if K i = 42 then bnd (pe K V sl env f none w (i + 1)) (fun v j => pe K V sl env f (some (a.1, a.2.1, a.2.2 * v)) w j)
    else if K i = 43 ∨ K i = 45 then bnd (pe K V sl env f none w (i + 1)) (fun v j => pe K V sl env f (some (a.1 + a.2.1 * a.2.2, (if K i = 43 then 1 else -1), v)) w j)
    else .inl (a.1 + a.2.1 * a.2.2, i)
theorem pe_n (K : Nat → Nat) (V : Nat → Int32) (sl : Nat → Option Nat) (env : Nat → Int32) (f w i : Nat) : pe K V sl env (f + 1) none w i = if ¬ (K i = 2 ∨ K i = 3 ∨ K i = 40) then .inr (1, i) else if K i = 3 ∧ sl i = none then .inr (2, i) else if 5 ≤ w then .inr (5, i) else if K i = 2 then .inl (V i, i + 1) else if K i = 3 then .inl (env ((sl i).getD 0), i + 1) else bnd (bnd (pe K V sl env f none (w + 1) (i + 1)) (fun v j => pe K V sl env f (some (0, 1, v)) (w + 1) j)) (fun u j => if K j = 41 then .inl (u, j + 1) else .inr (1, j)) := rfl
theorem pe_s (K : Nat → Nat) (V : Nat → Int32) (sl : Nat → Option Nat) (env : Nat → Int32) (f w i : Nat) (a : Int32 × Int32 × Int32) : pe K V sl env (f + 1) (some a) w i = if K i = 42 then bnd (pe K V sl env f none w (i + 1)) (fun v j => pe K V sl env f (some (a.1, a.2.1, a.2.2 * v)) w j) else if K i = 43 ∨ K i = 45 then bnd (pe K V sl env f none w (i + 1)) (fun v j => pe K V sl env f (some (a.1 + a.2.1 * a.2.2, (if K i = 43 then 1 else -1), v)) w j) else .inl (a.1 + a.2.1 * a.2.2, i) := rfl
/-- an E -/
def sm (K : Nat → Nat) (V : Nat → Int32) (sl : Nat → Option Nat) (env : Nat → Int32) (f w i : Nat) : ER := bnd (pe K V sl env f none w i) (fun v j => pe K V sl env f (some (0, 1, v)) w j)
def KN (K : Nat → Nat) (N : Nat) : Prop := ∀ i, K i ≠ 0 → i < N
theorem bnd_inl {r : ER} {c : Int32 → Nat → ER} {v : Int32} {j : Nat} (h : bnd r c = .inl (v, j)) : ∃ u k, r = .inl (u, k) ∧ c u k = .inl (v, j) := by
  cases r with
  | inl p => exact ⟨p.1, p.2, rfl, h⟩
  | inr e => rw [bnd_r] at h; cases h
theorem bnd_inr {r : ER} {c : Int32 → Nat → ER} {e : Nat × Nat} (h : bnd r c = .inr e) : r = .inr e ∨ ∃ u k, r = .inl (u, k) ∧ c u k = .inr e := by
  cases r with
  | inl p => exact Or.inr ⟨p.1, p.2, rfl, h⟩
  | inr e' => rw [bnd_r] at h; exact Or.inl h
/-- where a part or a sum ends; what kinds of FAULT there are -/
theorem pe_ok {K : Nat → Nat} {V : Nat → Int32} {sl : Nat → Option Nat} {env : Nat → Int32} {N : Nat} (hK : KN K N) : ∀ (f : Nat) (m : Option (Int32 × Int32 × Int32)) (w i : Nat), i ≤ N → 2 * (N - i) + 1 ≤ f → (∀ v j, pe K V sl env f m w i = .inl (v, j) → i ≤ j ∧ j ≤ N ∧ (m = none → i < j)) ∧ ∀ k j, pe K V sl env f m w i = .inr (k, j) → (k = 1 ∨ k = 2 ∨ k = 5) ∧ j ≤ N := by
  intro f
  induction f with
  | zero => intro m w i _ h; omega
  | succ f ih =>
    intro m w i hi hf
    cases m with
    | none =>
      rw [pe_n]
      by_cases c1 : ¬ (K i = 2 ∨ K i = 3 ∨ K i = 40)
      · rw [if_pos c1]
        exact ⟨fun v j h => (nomatch h), fun k j h => by cases h; exact ⟨Or.inl rfl, hi⟩⟩
      rw [if_neg c1]
      have hlt := hK i (by omega)
      by_cases c2 : K i = 3 ∧ sl i = none
      · rw [if_pos c2]
        exact ⟨fun v j h => (nomatch h), fun k j h => by cases h; exact ⟨Or.inr (Or.inl rfl), hi⟩⟩
      rw [if_neg c2]
      by_cases c3 : 5 ≤ w
      · rw [if_pos c3]
        exact ⟨fun v j h => (nomatch h), fun k j h => by cases h; exact ⟨Or.inr (Or.inr rfl), hi⟩⟩
      rw [if_neg c3]
      by_cases c4 : K i = 2
      · rw [if_pos c4]
        exact ⟨fun v j h => by cases h; exact ⟨by omega, by omega, fun _ => by omega⟩, fun k j h => (nomatch h)⟩
      rw [if_neg c4]
      by_cases c5 : K i = 3
      · rw [if_pos c5]
        exact ⟨fun v j h => by cases h; exact ⟨by omega, by omega, fun _ => by omega⟩, fun k j h => (nomatch h)⟩
      rw [if_neg c5]
      obtain ⟨a1, a2⟩ := ih none (w + 1) (i + 1) (by omega) (by omega)
      constructor
      · intro v j h
        obtain ⟨u, k, h1, h2⟩ := bnd_inl h
        obtain ⟨u', k', h3, h4⟩ := bnd_inl h1
        obtain ⟨b1, b2, b3⟩ := a1 u' k' h3
        have b4 := b3 rfl
        obtain ⟨e1, -⟩ := ih (some (0, 1, u')) (w + 1) k' b2 (by omega)
        obtain ⟨d1, d2, -⟩ := e1 u k h4
        by_cases c6 : K k = 41
        · rw [if_pos c6] at h2
          cases h2
          have := hK k (by omega)
          exact ⟨by omega, by omega, fun _ => by omega⟩
        · rw [if_neg c6] at h2
          cases h2
      · intro k j h
        rcases bnd_inr h with h1 | ⟨u, k', h1, h2⟩
        · rcases bnd_inr h1 with h3 | ⟨u', k2, h3, h4⟩
          · exact a2 k j h3
          · obtain ⟨b1, b2, b3⟩ := a1 u' k2 h3
            have b4 := b3 rfl
            exact (ih (some (0, 1, u')) (w + 1) k2 b2 (by omega)).2 k j h4
        · obtain ⟨u', k2, h3, h4⟩ := bnd_inl h1
          obtain ⟨b1, b2, b3⟩ := a1 u' k2 h3
          have b4 := b3 rfl
          obtain ⟨d1, d2, -⟩ := (ih (some (0, 1, u')) (w + 1) k2 b2 (by omega)).1 u k' h4
          by_cases c6 : K k' = 41
          · rw [if_pos c6] at h2; cases h2
          · rw [if_neg c6] at h2
            cases h2
            exact ⟨Or.inl rfl, d2⟩
    | some a =>
      rw [pe_s]
      have go : ∀ (g : Int32 → Int32 × Int32 × Int32), K i ≠ 0 → (∀ v j, bnd (pe K V sl env f none w (i + 1)) (fun v j => pe K V sl env f (some (g v)) w j) = .inl (v, j) → i ≤ j ∧ j ≤ N ∧ (some a = none → i < j)) ∧ ∀ k j, bnd (pe K V sl env f none w (i + 1)) (fun v j => pe K V sl env f (some (g v)) w j) = .inr (k, j) → (k = 1 ∨ k = 2 ∨ k = 5) ∧ j ≤ N := by
        intro g hne
        have hlt := hK i hne
        obtain ⟨a1, a2⟩ := ih none w (i + 1) (by omega) (by omega)
        constructor
        · intro v j h
          obtain ⟨u, k, h1, h2⟩ := bnd_inl h
          obtain ⟨b1, b2, b3⟩ := a1 u k h1
          have b4 := b3 rfl
          obtain ⟨d1, d2, -⟩ := (ih (some (g u)) w k b2 (by omega)).1 v j h2
          exact ⟨by omega, d2, fun h => (nomatch h)⟩
        · intro k j h
          rcases bnd_inr h with h1 | ⟨u, k', h1, h2⟩
          · exact a2 k j h1
          · obtain ⟨b1, b2, b3⟩ := a1 u k' h1
            have b4 := b3 rfl
            exact (ih (some (g u)) w k' b2 (by omega)).2 k j h2
      by_cases c1 : K i = 42
      · rw [if_pos c1]
        exact go (fun v => (a.1, a.2.1, a.2.2 * v)) (by omega)
      rw [if_neg c1]
      by_cases c2 : K i = 43 ∨ K i = 45
      · rw [if_pos c2]
        exact go (fun v => (a.1 + a.2.1 * a.2.2, (if K i = 43 then 1 else -1), v)) (by omega)
      rw [if_neg c2]
      exact ⟨fun v j h => by cases h; exact ⟨Nat.le_refl _, hi, fun h => (nomatch h)⟩, fun k j h => (nomatch h)⟩
/-! the class's Reader -/
abbrev tK (L : List Nat) (i : Nat) : Nat := tk L (tb L i)
abbrev tV (L : List Nat) (i : Nat) : Int32 := nI (tv L (tb L i))
abbrev tC (L : List Nat) (i : Nat) : Nat := cw L (tb L i)
theorem tK_N (L : List Nat) : KN (tK L) (nt L) := fun i h => by
  refine Nat.lt_of_not_le (fun hle => h (tk_end hle))
/-- which name, of those told, has this code -/
def slt (nm : Nat → Nat) (told c : Nat) : Option Nat := fnd (fun k => nm k == c) told
def isW (L : List Nat) (b : Nat) : Prop := b < L.length ∧ ltr (lc L b) = true ∧ tlen L b ≤ 8
/-- a NAME, or a word -/
theorem tk_word {L : List Nat} {b : Nat} (h : 3 ≤ tk L b ∧ tk L b ≤ 8) : isW L b := by
  unfold tk at h
  by_cases c1 : L.length ≤ b
  · rw [if_pos c1] at h; omega
  rw [if_neg c1] at h
  by_cases c2 : ltr (lc L b) = true
  · rw [if_pos c2] at h
    by_cases c3 : tlen L b ≤ 8
    · exact ⟨by omega, c2, c3⟩
    · rw [if_neg c3] at h; omega
  · rw [if_neg c2] at h
    by_cases c3 : dgt (lc L b) = true
    · rw [if_pos c3] at h
      split at h <;> omega
    · rw [if_neg c3] at h
      by_cases c4 : sgC (lc L b) = true
      · rw [if_pos c4] at h
        rw [sgC_is] at c4
        omega
      · rw [if_neg c4] at h; omega
theorem w_tv {L : List Nat} {b : Nat} (h : isW L b) : tv L b = vk 256 0 L b (tlen L b) := by unfold tv; rw [if_pos h.2.1, if_pos h.2.2]
theorem w_eq {L : List Nat} {b b' : Nat} (h : isW L b) (h' : isW L b') : tv L b = tv L b' ↔ cw L b = cw L b' := by
  rw [w_tv h, w_tv h']
  exact ⟨fun e => vk_inj (by decide) (by decide) _ _ (te_all h.1 h.2.1) (te_all h'.1 h'.2.1) e, fun e => vk_inj (by decide) (by decide) _ _ (te_all h.1 h.2.1) (te_all h'.1 h'.2.1) e⟩
theorem w_63 {L : List Nat} {b : Nat} (h : isW L b) : tv L b < 2 ^ 63 := by rw [w_tv h]; exact v256_lt h.1 h.2.1 _ h.2.2 (Nat.le_refl _)
def RS (σ : PS) (L : List Nat) (told : Nat) (nm : Nat → Nat) : Prop := mr σ 16 4 = some 11 ∧ TKA σ L ∧ L.length ≤ 1000 ∧ mi σ 16 3 = nI told ∧ told ≤ 8 ∧ ∀ k, k < told → ∃ b, isW L b ∧ ml σ 18 k = lN (tv L b) ∧ cw L b = nm k
abbrev chAt : Nat → Nat → Prop := fun a i => a = 16 ∧ i = 5
abbrev chAF : Nat → Nat → Prop := fun a i => a = 16 ∧ (i = 5 ∨ i = 6)
theorem TKA.ch {σ s : PS} {L : List Nat} {Pm Pl : Nat → Nat → Prop} (h : TKA σ L) (c : Ch Pm Pl σ s) (h1 : ¬ Pm 11 5) (h2 : ∀ i, ¬ Pm 13 i) (h3 : ∀ i, ¬ Pm 14 i) (h4 : ∀ i, ¬ Pl 15 i) : TKA s L := ⟨by rw [c.i h1]; exact h.1, fun i hi => by rw [c.i (h2 i), c.i (h3 i)]; exact h.2.1 i hi, fun i hi => by rw [c.l (h4 i)]; exact h.2.2 i hi⟩
theorem RS.ch {σ s : PS} {L : List Nat} {told : Nat} {nm : Nat → Nat} {Pm Pl : Nat → Nat → Prop} (h : RS σ L told nm) (c : Ch Pm Pl σ s) (h1 : ¬ Pm 11 5) (h2 : ∀ i, ¬ Pm 13 i) (h3 : ∀ i, ¬ Pm 14 i) (h4 : ∀ i, ¬ Pl 15 i) (h5 : ¬ Pm 16 3) (h6 : ∀ i, ¬ Pl 18 i) : RS s L told nm :=
  ⟨by rw [c.1.2]; exact h.1, h.2.1.ch c h1 h2 h3 h4, h.2.2.1, by rw [c.i h5]; exact h.2.2.2.1, h.2.2.2.2.1, fun k hk => by rw [c.l (h6 k)]; exact h.2.2.2.2.2 k hk⟩
theorem RS.af {σ s : PS} {L : List Nat} {told : Nat} {nm : Nat → Nat} (h : RS σ L told nm) (c : Ch chAF noL σ s) : RS s L told nm := h.ch c (by omega) (fun i => by omega) (fun i => by omega) (fun i => id) (by omega) (fun i => id)
theorem nt_le {L : List Nat} : nt L ≤ L.length := (nt_spec L).2.2
theorem sp_kind7 {g : GV} {d told i : Nat} {L : List Nat} {nm : Nat → Nat} {σ : PS} (hL : Lay σ) (hR : RS σ L told nm) (hat : mi σ 16 5 = nI i) (hi : i ≤ nt L) : CX7_kind g d [.ref 16] σ (fun v s => v = nI (tK L i) ∧ s = σ) := by
  have hl := hR.2.2.1
  have hn := nt_le (L := L)
  refine vcX7_kind hL hR.1 ?_
  rw [hat, hR.2.1.1, lit32 0, zLT (by omega) (by omega), zLT (by omega) (by omega), zIN (by omega) (by omega), zCL (by omega)]
  exact ⟨fun h => by omega, fun _ => ⟨fun h => by omega, fun _ => ⟨by omega, (hR.2.1.2.1 i hi).1, rfl⟩⟩⟩
theorem sp_kind7a {g : GV} {d told : Nat} {L : List Nat} {nm : Nat → Nat} {σ : PS} (hL : Lay σ) (hR : RS σ L told nm) : CX7_kind g d [.ref 16] σ (fun _ s => s = σ) := by
  have hl := hR.2.2.1
  have hn := nt_le (L := L)
  refine vcX7_kind hL hR.1 ⟨fun _ => rfl, fun h => ⟨fun _ => rfl, fun h2 => ⟨?_, rfl⟩⟩⟩
  obtain ⟨k, hk, e⟩ := zNEG (n := nt L + 1) (by omega) h (fun h3 => by
    rw [hR.2.1.1] at h2
    rw [← nI_1] at h3
    have a := Int32.le_iff_toInt_le.mp h3
    have b := Int32.le_iff_toInt_le.mp (Int32.not_lt.mp h2)
    rw [nI_1, nI_toInt (by omega)] at a
    rw [nI_toInt (by omega)] at b
    omega)
  rw [e, zIN (by omega) (by omega)]
  omega
theorem sp_fail7 {g : GV} {d told j k : Nat} {L : List Nat} {nm : Nat → Nat} {σ : PS} (hL : Lay σ) (hR : RS σ L told nm) (hj : j ≤ nt L) (h0 : mi σ 16 6 = 0) : CX7_fail g d [.ref 16, .int (nI j), .int (nI k)] σ (fun s => mi s 16 6 = nI (k + 16 * tb L j) ∧ Ch chAF noL σ s) := by
  have hl := hR.2.2.1
  have hn := nt_le (L := L)
  refine vcX7_fail hL hR.1 _ _ ⟨fun h => absurd h0 h, fun _ => ?_⟩
  rw [hR.2.1.1, lit32 0, zLT (by omega) (by omega), zLT (by omega) (by omega), zIN (by omega) (by omega), zCL (by omega)]
  refine ⟨fun h => by omega, fun _ => ⟨fun h => by omega, fun _ => ⟨by omega, fun s2 e2 => ⟨?_, by rw [e2]; exact Ch.rf.si ⟨rfl, Or.inr rfl⟩⟩⟩⟩⟩
  rw [e2, mi_si, if_pos ⟨rfl, rfl⟩, (hR.2.1.2.1 j hj).2, lit32 16, pk_mul, nI_add]
theorem sp_fail7f {g : GV} {d : Nat} {a b : Int32} {σ : PS} (hL : Lay σ) (hT : mr σ 16 4 = some 11) (h0 : ¬ mi σ 16 6 = 0) : CX7_fail g d [.ref 16, .int a, .int b] σ (fun s => s = σ) := vcX7_fail hL hT _ _ ⟨fun _ => rfl, fun h => absurd h h0⟩
theorem sp_expect7 {g : GV} {d told i c : Nat} {L : List Nat} {nm : Nat → Nat} {σ : PS} (hL : Lay σ) (hR : RS σ L told nm) (hat : mi σ 16 5 = nI i) (hi : i ≤ nt L) (h0 : mi σ 16 6 = 0) (hc : c < 1000) (hk : tK L i < 1000) :
    CX7_expect g (d + 1) [.ref 16, .int (nI c)] σ (fun s => (tK L i = c → mi s 16 5 = nI (i + 1) ∧ mi s 16 6 = 0) ∧ (¬ tK L i = c → mi s 16 6 = nI (1 + 16 * tb L i)) ∧ Ch chAF noL σ s) := by
  refine vcX7_expect hL hR.1 _ (Ct.imp (sp_kind7 hL hR hat hi) (fun r s w => ?_))
  obtain ⟨v, rfl, rfl, rfl⟩ := w
  refine ⟨_, rfl, Fr.rf, ?_⟩
  rw [zEQ (by omega) (by omega), hat]
  refine ⟨fun h s3 e3 => ⟨fun _ => ?_, fun h2 => absurd h h2, by rw [e3]; exact Ch.rf.si ⟨rfl, Or.inl rfl⟩⟩, fun h => ?_⟩
  · rw [inc rfl] at e3
    exact ⟨by rw [e3, mi_si, if_pos ⟨rfl, rfl⟩], by rw [e3, mi_si, if_neg (by omega)]; exact h0⟩
  · refine Ct.imp (sp_fail7 (k := 1) hL hR hi h0) (fun r s5 w => ?_)
    obtain ⟨rfl, k1, k2⟩ := w
    exact ⟨rfl, k2.fr, fun h2 => absurd h2 h, fun _ => k1, k2⟩
theorem sp_expect7f {g : GV} {d told : Nat} {c : Int32} {L : List Nat} {nm : Nat → Nat} {σ : PS} (hL : Lay σ) (hR : RS σ L told nm) (h0 : ¬ mi σ 16 6 = 0) :
    CX7_expect g (d + 1) [.ref 16, .int c] σ (fun s => mi s 16 6 = mi σ 16 6 ∧ Ch chAt noL σ s) := by
  refine vcX7_expect hL hR.1 _ (Ct.imp (sp_kind7a hL hR) (fun r s w => ?_))
  obtain ⟨v, rfl, rfl⟩ := w
  refine ⟨_, rfl, Fr.rf, fun h s3 e3 => ⟨by rw [e3, mi_si, if_neg (by omega)], by rw [e3]; exact Ch.rf.si ⟨rfl, rfl⟩⟩, fun h => ?_⟩
  refine Ct.imp (sp_fail7f hL hR.1 h0) (fun r s5 w => ?_)
  obtain ⟨rfl, rfl⟩ := w
  exact ⟨rfl, Fr.rf, rfl, Ch.rf⟩
theorem sp_slotOf {g : GV} {d told i : Nat} {L : List Nat} {nm : Nat → Nat} {σ : PS} (hL : Lay σ) (hR : RS σ L told nm) (hi : i < nt L) (hw : isW L (tb L i)) :
    CX7_slotOf g d [.ref 16, .int (nI i)] σ (fun v s => v = oI (slt nm told (tC L i)) ∧ s = σ) := by
  obtain ⟨r1, r2, r3, r4, r5, r6⟩ := id hR
  have hn := nt_le (L := L)
  have loop : ∀ (z k : Nat), z = told - k → k ≤ told → (∀ j, j < k → ¬ nm j = tC L i) → VX7_slotOf g d (fun v s => v = oI (slt nm told (tC L i)) ∧ s = σ) 2 [some (.ref 16), some (.int (nI i)), some (.int (nI k))] [] σ := by
    intro z
    induction z with
    | zero =>
      intro k hz hk hq
      have : k = told := by omega
      subst this
      refine vcX7_slotOf_2 hL r1 _ _ ⟨fun _ => ⟨?_, rfl⟩, fun h => absurd (by rw [r4, zLE (by omega) (by omega)]; omega) h⟩
      have : slt nm k (tC L i) = none := fnd_no (fun j hj => by simpa using hq j hj)
      rw [this]
      rfl
    | succ z ih =>
      intro k hz hk hq
      obtain ⟨b, b1, b2, b3⟩ := r6 k (by omega)
      refine vcX7_slotOf_2 hL r1 _ _ ⟨fun h => ?_, fun _ => ?_⟩
      · rw [r4, zLE (by omega) (by omega)] at h
        omega
      · rw [zIN (by omega) (by omega), zIN (by omega) (by omega), zCL (by omega), zCL (by omega), b2, r2.2.2 i hi, lg0, pk_lEQ (w_63 b1) (w_63 hw), w_eq b1 hw, b3]
        refine ⟨by omega, by omega, fun hne x3 e3 => ?_, fun he => ⟨?_, rfl⟩⟩
        · rw [inc e3]
          refine ih (k + 1) (by omega) (by omega) (fun j hj => ?_)
          by_cases q : j = k
          · rw [q]; exact hne
          · exact hq j (by omega)
        · have : slt nm told (tC L i) = some k := fnd_is (by omega) (by simpa using he) (fun j hj => by simpa using hq j hj)
          rw [this]
          rfl
  exact vcX7_slotOf hL r1 _ (loop told 0 rfl (Nat.zero_le _) (fun j hj => by omega))
