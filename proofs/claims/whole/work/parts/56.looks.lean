/-! ===== all ways from a cell ===== -/
theorem sp_fill {g : GV} {d o n : Nat} {v : Int32} {σ : PS} (hL : Lay σ) (hk : kd σ o = some (.inr (0, n))) (hn : n < 1000000) :
    CJ7_fill_53178 g d [.ref o, .int v] σ (fun s => (∀ i, i < n → mi s o i = v) ∧ Ch (fun a i => a = o ∧ i < n) noL σ s) := by
  generalize hP : (fun (s : PS) => (∀ i, i < n → mi s o i = v) ∧ Ch (fun a i => a = o ∧ i < n) noL σ s) = P
  have loop : ∀ (z i : Nat) (s : PS), z = n - i → i ≤ n → Ch (fun a i => a = o ∧ i < n) noL σ s → (∀ j, j < i → mi s o j = v) → VJ7_fill_53178 g d P 5 [some (.ref o), some (.int v), some (.int (nI i)), some (.int (nI n))] [] s := by
    intro z
    induction z with
    | zero =>
      intro i s hz hi cs hq
      have e : i = n := by omega
      subst e
      refine vcJ7_fill_53178_5 (cs.lay hL) _ _ ((cs.1.1 ▸ hk)) _ _ _ ⟨fun _ => by rw [← hP]; exact ⟨hq, cs⟩, fun h => absurd (by rw [zLE (by omega) (by omega)]; omega) h⟩
    | succ z ih =>
      intro i s hz hi cs hq
      refine vcJ7_fill_53178_5 (cs.lay hL) _ _ ((cs.1.1 ▸ hk)) _ _ _ ⟨fun h => ?_, fun _ => ⟨by rw [zIN (by omega) (by omega)]; omega, fun s4 e4 x6 e6 => ?_⟩⟩
      · rw [zLE (by omega) (by omega)] at h
        omega
      · rw [inc e6]
        rw [zCL (by omega)] at e4
        refine ih (i + 1) s4 (by omega) (by omega) (by rw [e4]; exact cs.si ⟨rfl, by omega⟩) (fun j hj => ?_)
        rw [e4, mi_si]
        by_cases e : j = i
        · rw [if_pos ⟨rfl, e⟩]
        · rw [if_neg (by omega)]; exact hq j (by omega)
  exact vcJ7_fill_53178 hL o n hk v (fun x e => by rw [e]; exact loop n 0 σ rfl (by omega) Ch.rf (fun j hj => by omega))
/-- square, how many, the first -/
abbrev Acc := Nat × Nat × Nat × Nat
def len2 (i : Nat) : Nat := wd (i / 25) * wd (i / 25) + wd (i % 25) * wd (i % 25)
def kp (a : Acc) (i : Nat) : Acc := if len2 i < a.1 then (len2 i, 1, i / 25, i % 25) else if len2 i = a.1 then (a.1, a.2.1 + 1, a.2.2) else a
def acc (T : Nat → Bool) : Nat → Acc
  | 0 => (145, 0, 0, 0)
  | i + 1 => if T i then kp (acc T i) i else acc T i
/-- whether the i-th way is one to this slot: 10 is back, not turned -/
def hit (f t : Nat → Nat) (c slot i : Nat) : Bool := decide (len2 i ≤ 144) && (match way' f t c (i / 25) (i % 25) with
  | none => false
  | some p => if slot = 10 then decide (0 < len2 i) && (p == (c, 0)) else p.1 == slot)
theorem len2_le {i : Nat} (h : i < 625) : len2 i ≤ 288 := by
  unfold len2
  have a := wd_le (k := i / 25) (by omega)
  have b := wd_le (k := i % 25) (by omega)
  have c := Nat.mul_le_mul a a
  have d := Nat.mul_le_mul b b
  omega
theorem acc_ok (T : Nat → Bool) (hT : ∀ i, i < 625 → T i = true → len2 i ≤ 144) : ∀ i, i ≤ 625 → (acc T i).1 ≤ 145 ∧ (acc T i).2.1 ≤ i ∧ ((acc T i).2.1 = 0 ↔ (acc T i).1 = 145) ∧ (0 < (acc T i).2.1 → (acc T i).2.2.1 < 25 ∧ (acc T i).2.2.2 < 25) := by
  intro i
  induction i with
  | zero => intro _; simp [acc]
  | succ i ih =>
    intro hi
    obtain ⟨h1, h2, h3, h4⟩ := ih (by omega)
    unfold acc
    by_cases q : T i = true
    · rw [if_pos q]
      have := hT i (by omega) q
      unfold kp
      split
      · exact ⟨by simp only; omega, by simp only; omega, by simp only; omega, fun _ => ⟨by simp only; omega, by simp only; omega⟩⟩
      · split
        · refine ⟨h1, by simp only; omega, by simp only; omega, fun _ => h4 (by omega)⟩
        · exact ⟨h1, by omega, h3, h4⟩
    · rw [if_neg q]
      exact ⟨h1, by omega, h3, h4⟩
theorem hit_le {f t : Nat → Nat} {c slot i : Nat} (h : hit f t c slot i = true) : len2 i ≤ 144 := by
  unfold hit at h
  simp only [Bool.and_eq_true, decide_eq_true_eq] at h
  exact h.1
/-- what a slot of the class's Ways tells -/
def KS (σ : PS) (slot : Nat) (a : Acc) : Prop := mi σ 146 slot = nI a.2.1 ∧ (0 < a.2.1 → mi σ 145 slot = nI a.1 ∧ mi σ 147 slot = dI a.2.2.1 ∧ mi σ 148 slot = dI a.2.2.2)
abbrev chK (slot : Nat) : Nat → Nat → Prop := fun a i => 145 ≤ a ∧ a ≤ 148 ∧ i = slot
theorem sp_keep10 {g : GV} {d slot i : Nat} {a : Acc} {σ : PS} (hL : Lay σ) (hs : slot < 11) (hi : i < 625) (hl : len2 i ≤ 144) (ha : a.1 ≤ 145) (hm : a.2.1 ≤ 625) (h0 : a.2.1 = 0 ↔ a.1 = 145) (hK : KS σ slot a) :
    CX10_keep g d [.ref 144, .int (nI slot), .int (nI (len2 i)), .int (dI (i / 25)), .int (dI (i % 25))] σ (fun s => KS s slot (kp a i) ∧ Ch (chK slot) noL σ s) := by
  obtain ⟨k1, k2⟩ := hK
  have newk : ∀ s1 s2 s3 s4 : PS, s1 = si σ 145 slot (nI (len2 i)) → s2 = si s1 147 slot (dI (i / 25)) → s3 = si s2 148 slot (dI (i % 25)) → s4 = si s3 146 slot 1 → len2 i < a.1 → KS s4 slot (kp a i) ∧ Ch (chK slot) noL σ s4 := by
    intro s1 s2 s3 s4 e1 e2 e3 e4 hlt
    unfold kp
    rw [if_pos hlt]
    refine ⟨⟨?_, fun _ => ⟨?_, ?_, ?_⟩⟩, ?_⟩
    · rw [e4, mi_si, if_pos ⟨rfl, rfl⟩]; rfl
    · rw [e4, mi_si, if_neg (by omega), e3, mi_si, if_neg (by omega), e2, mi_si, if_neg (by omega), e1, mi_si, if_pos ⟨rfl, rfl⟩]
    · rw [e4, mi_si, if_neg (by omega), e3, mi_si, if_neg (by omega), e2, mi_si, if_pos ⟨rfl, rfl⟩]
    · rw [e4, mi_si, if_neg (by omega), e3, mi_si, if_pos ⟨rfl, rfl⟩]
    · rw [e4, e3, e2, e1]
      exact (((Ch.rf.si (by simp [chK])).si (by simp [chK])).si (by simp [chK])).si (by simp [chK])
  refine vcX10_keep hL _ _ _ _ ?_
  simp (disch := omega) only [zIN, zCL, k1]
  rw [lit32 0, zEQ (by omega) (by omega)]
  refine ⟨hs, fun hz => ⟨hs, fun s3 e3 => ⟨hs, fun s6 e6 => ⟨hs, fun s9 e9 => ⟨hs, fun s12 e12 => newk s3 s6 s9 s12 e3 e6 e9 e12 (by omega)⟩⟩⟩⟩, fun hz => ?_⟩
  obtain ⟨j1, j2, j3⟩ := k2 (by omega)
  simp (disch := omega) only [j1, zLE, zEQ]
  refine ⟨hs, fun hle => ⟨hs, fun hne => ?_, fun heq => ⟨hs, hs, fun s18 e18 => ?_⟩⟩, fun hlt => ⟨hs, fun s3 e3 => ⟨hs, fun s6 e6 => ⟨hs, fun s9 e9 => ⟨hs, fun s12 e12 => newk s3 s6 s9 s12 e3 e6 e9 e12 (by omega)⟩⟩⟩⟩⟩
  · unfold kp
    rw [if_neg (by omega), if_neg hne]
    exact ⟨⟨k1, k2⟩, Ch.rf⟩
  · unfold kp
    rw [if_neg (by omega), if_pos heq]
    rw [inc rfl] at e18
    refine ⟨⟨?_, fun _ => ⟨?_, ?_, ?_⟩⟩, ?_⟩
    · rw [e18, mi_si, if_pos ⟨rfl, rfl⟩]
    · rw [e18, mi_si, if_neg (by omega)]; exact j1
    · rw [e18, mi_si, if_neg (by omega)]; exact j2
    · rw [e18, mi_si, if_neg (by omega)]; exact j3
    · rw [e18]; exact Ch.rf.si (by simp [chK])
theorem KS.ch {σ s : PS} {slot : Nat} {a : Acc} {Pm Pl : Nat → Nat → Prop} (h : KS σ slot a) (c : Ch Pm Pl σ s) (hn : ∀ o, 145 ≤ o → o ≤ 148 → ¬ Pm o slot) : KS s slot a := by
  unfold KS
  rw [c.i (hn 146 (by omega) (by omega)), c.i (hn 145 (by omega) (by omega)), c.i (hn 147 (by omega) (by omega)), c.i (hn 148 (by omega) (by omega))]
  exact h
/-- what the class's Ways tell after a look from a cell -/
def LK (σ : PS) (f t : Nat → Nat) (c k : Nat) : Prop := ∀ slot, slot < 11 → KS σ slot (acc (hit f t c slot) k)
abbrev chL : Nat → Nat → Prop := fun a i => a = 144 ∧ 1 ≤ i ∧ i ≤ 3 ∨ 145 ≤ a ∧ a ≤ 148
theorem sp_look {g : GV} {d n c : Nat} {f t : Nat → Nat} {σ : PS} (hL : Lay σ) (hB : BD σ 129 n f) (hT : ∀ q, q < 4 * n → mi σ 132 q = nI (t q) ∧ t q < 1000) (hc : c < n) (h0 : mi σ 144 3 = nI c → LK σ f t c 625) :
    CX10_look g (d + 2) [.ref 144, .int (nI c)] σ (fun s => LK s f t c 625 ∧ mi s 144 3 = nI c ∧ Ch chL noL σ s) := by
  generalize hP : (fun (s : PS) => LK s f t c 625 ∧ mi s 144 3 = nI c ∧ Ch chL noL σ s) = P
  have hn := hB.2.1
  have h12 : ∀ k, k ≤ 25 → ((12 : Int32) < dI k ↔ k = 25) := by decide +kernel
  have hinc : ∀ k, k < 25 → dI k + 1 = dI (k + 1) := by decide +kernel
  have hsq : ∀ k, k < 25 → dI k * dI k = nI (wd k * wd k) := by decide +kernel
  have l34 : ∀ (kx : Nat), kx < 25 → (∀ s, Ch chL noL σ s → mi s 144 3 = nI c → LK s f t c (25 * (kx + 1)) → VX10_look g (d + 2) P 25 [some (.ref 144), some (.int (nI c)), some (.int (dI (kx + 1))), none, none] [] s) →
      ∀ (z ky : Nat) (s : PS), z = 25 - ky → ky ≤ 25 → Ch chL noL σ s → mi s 144 3 = nI c → LK s f t c (25 * kx + ky) → VX10_look g (d + 2) P 34 [some (.ref 144), some (.int (nI c)), some (.int (dI kx)), some (.int (dI ky)), none] [] s := by
    intro kx hx K z
    induction z with
    | zero =>
      intro ky s hz hy cs h3 hk
      have e : ky = 25 := by omega
      subst e
      refine vcX10_look_34 (cs.lay hL) _ _ _ ⟨fun _ x5 e5 => ?_, fun h => absurd ((h12 25 (by omega)).mpr rfl) h⟩
      rw [e5, hinc kx hx]
      exact K s cs h3 hk
    | succ z ih =>
      intro ky s hz hy cs h3 hk
      have hL2 := cs.lay hL
      have hy2 : ky < 25 := by omega
      have q1 : (25 * kx + ky) / 25 = kx := by omega
      have q2 : (25 * kx + ky) % 25 = ky := by omega
      have hlen := len2_le (i := 25 * kx + ky) (by omega)
      have aok := fun slot => acc_ok (hit f t c slot) (fun i _ h => hit_le h) (25 * kx + ky) (by omega)
      have same : (∀ slot, slot < 11 → hit f t c slot (25 * kx + ky) = false) → ∀ s', Ch chL noL σ s' → mi s' 144 3 = nI c → LK s' f t c (25 * kx + ky) → ∀ x : Int32, x = dI ky + 1 → VX10_look g (d + 2) P 34 [some (.ref 144), some (.int (nI c)), some (.int (dI kx)), some (.int x), none] [] s' := by
        intro hh s' c' h3' hk' x ex
        rw [ex, hinc ky hy2]
        refine ih (ky + 1) s' (by omega) (by omega) c' h3' (fun slot hs => ?_)
        show KS s' slot (acc _ (25 * kx + ky + 1))
        unfold acc
        rw [hh slot hs, if_neg (by decide)]
        exact hk' slot hs
      refine vcX10_look_34 hL2 _ _ _ ⟨fun h => absurd ((h12 ky (by omega)).mp h) (by omega), fun _ x7 e7 => ?_⟩
      have ex7 : x7 = nI (len2 (25 * kx + ky)) := by rw [e7, hsq kx hx, hsq ky hy2, nI_add]; unfold len2; rw [q1, q2]
      subst ex7
      rw [lit32 144, lit32 0]
      simp (disch := omega) only [zLT, zLE]
      refine ⟨fun hbig => same (fun slot hs => ?_) s cs h3 hk, fun hle => ?_⟩
      · unfold hit
        rw [decide_eq_false (by omega)]
        rfl
      · have hB2 : BD s 129 n f := hB.ch cs (by simp [chL]) (fun i => by simp [chL]) (fun i => by simp [chL])
        refine Ct.imp (sp_go hL2 hB2 (t := t) (fun q hq => ⟨by rw [cs.i (by simp [chL])]; exact (hT q hq).1, (hT q hq).2⟩) hc hx hy2) (fun r s1 w1 => ?_)
        obtain ⟨v, rfl, cw, hr⟩ := w1
        have c1 : Ch chL noL σ s1 := cs.trans (cw.mono (fun a k h => by simp only [chW] at h; simp only [chL]; omega) (fun _ _ h => h))
        have h31 : mi s1 144 3 = nI c := by rw [cw.i (by simp [chW])]; exact h3
        have hk1 : LK s1 f t c (25 * kx + ky) := fun slot hs => (hk slot hs).ch cw (fun o h1 h2 => by simp only [chW]; omega)
        refine ⟨_, rfl, cw.fr, ?_⟩
        cases hw : way' f t c kx ky with
        | none =>
          rw [hw] at hr
          have hr0 : v = 0 := hr
          refine ⟨fun _ => same (fun slot hs => ?_) s1 c1 h31 hk1, fun h => absurd hr0 h⟩
          unfold hit
          rw [q1, q2, hw, Bool.and_false]
        | some p =>
          rw [hw] at hr
          obtain ⟨hv, p1, p2, m1, m2⟩ := hr
          refine ⟨fun h => absurd h (by rw [hv]; decide), fun _ => ?_⟩
          have hitp : ∀ slot, slot < 11 → hit f t c slot (25 * kx + ky) = if slot = 10 then decide (0 < len2 (25 * kx + ky)) && (p == (c, 0)) else p.1 == slot := by
            intro slot hs
            unfold hit
            rw [q1, q2, hw, decide_eq_true (by omega), Bool.true_and]
          have hp1 := aok p.1
          have K1 := sp_keep10 (g := g) (d := d + 1) (c1.lay hL) (show p.1 < 11 by omega) (show 25 * kx + ky < 625 by omega) (by omega) hp1.1 (by omega) hp1.2.2.1 (hk1 p.1 (by omega))
          rw [q1, q2] at K1
          rw [m1]
          refine Ct.imp K1 (fun r s2 w2 => ?_)
          obtain ⟨rfl, ks2, ck⟩ := w2
          have c2 : Ch chL noL σ s2 := c1.trans (ck.mono (fun a k h => by simp only [chK] at h; simp only [chL]; omega) (fun _ _ h => h))
          have h32 : mi s2 144 3 = nI c := by rw [ck.i (by simp [chK])]; exact h31
          have m12 : mi s2 144 1 = nI p.1 := by rw [ck.i (by simp [chK])]; exact m1
          have m22 : mi s2 144 2 = nI p.2 := by rw [ck.i (by simp [chK])]; exact m2
          have fin : ∀ s', Ch chL noL σ s' → mi s' 144 3 = nI c → (∀ slot, slot < 10 → KS s' slot (acc (hit f t c slot) (25 * kx + ky + 1))) → KS s' 10 (acc (hit f t c 10) (25 * kx + ky + 1)) → ∀ x : Int32, x = dI ky + 1 → VX10_look g (d + 2) P 34 [some (.ref 144), some (.int (nI c)), some (.int (dI kx)), some (.int x), none] [] s' := by
            intro s' c' h3' hk' hk10 x ex
            rw [ex, hinc ky hy2]
            refine ih (ky + 1) s' (by omega) (by omega) c' h3' (fun slot hs => ?_)
            by_cases e : slot = 10
            · subst e; exact hk10
            · exact hk' slot (by omega)
          have low : ∀ slot, slot < 10 → KS s2 slot (acc (hit f t c slot) (25 * kx + ky + 1)) := by
            intro slot hs
            unfold acc
            rw [hitp slot (by omega), if_neg (show ¬ slot = 10 by omega)]
            by_cases e : p.1 = slot
            · subst e
              rw [if_pos (by simp)]
              exact ks2
            · rw [if_neg (by simpa using e)]
              exact (hk1 slot (by omega)).ch ck (fun o _ _ => by simp only [chK]; omega)
          have k10 : KS s2 10 (acc (hit f t c 10) (25 * kx + ky)) := (hk1 10 (by omega)).ch ck (fun o _ _ => by simp only [chK]; omega)
          have no10 : hit f t c 10 (25 * kx + ky) = false → KS s2 10 (acc (hit f t c 10) (25 * kx + ky + 1)) := by
            intro h
            unfold acc
            rw [h, if_neg (by decide)]
            exact k10
          have h10 := hitp 10 (by omega)
          rw [if_pos rfl] at h10
          refine ⟨rfl, ck.fr, ?_⟩
          rw [m12, m22]
          simp (disch := omega) only [zEQ]
          refine ⟨fun hz => fin s2 c2 h32 low (no10 (by rw [h10, decide_eq_false (by omega)]; rfl)), fun hpos => ⟨fun hne => fin s2 c2 h32 low (no10 ?_), fun heq => ⟨fun hne => fin s2 c2 h32 low (no10 ?_), fun heq2 => ?_⟩⟩⟩
          · rw [h10]
            have : (p == (c, 0)) = false := by
              cases hb : (p == (c, 0)) with
              | false => rfl
              | true => exact absurd (congrArg Prod.fst (eq_of_beq hb)) hne
            rw [this, Bool.and_false]
          · rw [h10]
            have : (p == (c, 0)) = false := by
              cases hb : (p == (c, 0)) with
              | false => rfl
              | true => exact absurd (congrArg Prod.snd (eq_of_beq hb)) hne
            rw [this, Bool.and_false]
          · have hp10 := aok 10
            have K2 := sp_keep10 (g := g) (d := d + 1) (c2.lay hL) (show 10 < 11 by omega) (show 25 * kx + ky < 625 by omega) (by omega) hp10.1 (by omega) hp10.2.2.1 k10
            rw [q1, q2] at K2
            refine Ct.imp K2 (fun r s3 w3 => ?_)
            obtain ⟨rfl, ks3, ck3⟩ := w3
            have c3 : Ch chL noL σ s3 := c2.trans (ck3.mono (fun a k h => by simp only [chK] at h; simp only [chL]; omega) (fun _ _ h => h))
            refine ⟨rfl, ck3.fr, fin s3 c3 (by rw [ck3.i (by simp [chK])]; exact h32) (fun slot hs => (low slot hs).ch ck3 (fun o _ _ => by simp only [chK]; omega)) ?_⟩
            unfold acc
            have : hit f t c 10 (25 * kx + ky) = true := by
              rw [h10, decide_eq_true (by omega), Bool.true_and]
              exact beq_iff_eq.mpr (Prod.ext heq heq2)
            rw [this, if_pos rfl]
            exact ks3
  have l25 : ∀ (z kx : Nat) (s : PS), z = 25 - kx → kx ≤ 25 → Ch chL noL σ s → mi s 144 3 = nI c → LK s f t c (25 * kx) → VX10_look g (d + 2) P 25 [some (.ref 144), some (.int (nI c)), some (.int (dI kx)), none, none] [] s := by
    intro z
    induction z with
    | zero =>
      intro kx s hz hx cs h3 hk
      have e : kx = 25 := by omega
      subst e
      refine vcX10_look_25 (cs.lay hL) _ _ ⟨fun _ => ?_, fun h => absurd ((h12 25 (by omega)).mpr rfl) h⟩
      rw [← hP]
      exact ⟨hk, h3, cs⟩
    | succ z ih =>
      intro kx s hz hx cs h3 hk
      refine vcX10_look_25 (cs.lay hL) _ _ ⟨fun h => absurd ((h12 kx (by omega)).mp h) (by omega), fun _ => ?_⟩
      exact l34 kx (by omega) (fun s2 c2 h32 hk2 => ih (kx + 1) s2 (by omega) (by omega) c2 h32 hk2) 25 0 s rfl (by omega) cs h3 hk
  refine vcX10_look hL _ ⟨fun _ s1 e1 => ?_, fun h => ?_⟩
  · have c1 : Ch chL noL σ s1 := by rw [e1]; exact Ch.rf.si (by simp [chL])
    refine Ct.imp (sp_fill (c1.lay hL) (kd_146 (c1.lay hL)) (by omega)) (fun r s2 w2 => ?_)
    obtain ⟨rfl, hz, ck⟩ := w2
    have c2 : Ch chL noL σ s2 := c1.trans (ck.mono (fun a k h => by simp only [chL]; omega) (fun _ _ h => h))
    refine ⟨rfl, ck.fr, l25 25 0 s2 rfl (by omega) c2 ?_ (fun slot hs => ⟨hz slot hs, fun h => absurd h (by simp [acc])⟩)⟩
    rw [ck.i (by omega), e1, mi_si, if_pos ⟨rfl, rfl⟩]
  · rw [← hP]
    exact ⟨h0 h, h, Ch.rf⟩
