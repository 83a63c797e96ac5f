/-! ===== crossing; the reference lists all gluings ===== -/
def x1 (a b : Nat) : Option Nat → Bool
  | some x => decide (x < a) || decide (b < x)
  | none => false
theorem x1_some (a b x : Nat) : x1 a b (some x) = (decide (x < a) || decide (b < x)) := rfl
def xs (m : Mat) (a b : Nat) : Nat → Nat → Bool
  | 0, _ => false
  | z + 1, c => x1 a b (m c) || xs m a b z (c + 1)
def crx (m : Mat) (a b : Nat) : Bool := xs m a b (b - (a + 1)) (a + 1)
theorem oI_lt0 (o : Option Nat) (h : ∀ k, o = some k → k < 100) : (oI o < 0) = (o = none) := oI_neg h (by omega)
theorem sp_crosses12 {g : GV} {d o no a b : Nat} {m : Mat} {σ : PS} (hL : Lay σ) (ko : kd σ o = some (.inr (0, no))) (hno : 22 ≤ no) (hno2 : no < 1000000) (hM : MA σ o 22 m) (hm : ∀ e k, m e = some k → k < 22) (ha : a < 22) (hb : b < 22) :
    CX12_crosses g d [.ref 179, .ref o, .int (nI a), .int (nI b)] σ (fun v s => v = (if crx m a b = true then 1 else 0) ∧ s = σ) := by
  have loop : ∀ (z c : Nat), z = b - c → c ≤ 22 → VX12_crosses g d (fun v s => v = (if xs m a b z c = true then 1 else 0) ∧ s = σ) 5 [none, some (.ref o), some (.int (nI a)), some (.int (nI b)), some (.int (nI c))] [] σ := by
    intro z
    induction z with
    | zero =>
      intro c hz hc
      refine vcX12_crosses_5 hL _ _ ko _ _ _ ?_
      rw [zLE (by omega) (by omega)]
      exact ⟨fun _ => ⟨rfl, rfl⟩, fun h => by omega⟩
    | succ z ih =>
      intro c hz hc
      have nxt := ih (c + 1) (by omega) (by omega)
      have hxs : xs m a b (z + 1) c = (x1 a b (m c) || xs m a b z (c + 1)) := rfl
      refine vcX12_crosses_5 hL _ _ ko _ _ _ ?_
      simp (disch := omega) only [zLE, zIN, zCL, hM c (by omega)]
      rw [oI_lt0 (m c) (fun k hk => by have := hm c k hk; omega)]
      refine ⟨fun h => by omega, fun _ => ⟨by omega, fun hn x4 e4 => ?_, fun hn => ⟨by omega, ?_⟩⟩⟩
      · rw [hn] at hxs
        rw [inc e4, hxs]
        exact nxt
      · cases hmc : m c with
        | none => exact absurd hmc hn
        | some x =>
          have hx := hm c x hmc
          rw [hmc] at hxs
          simp only [oI]
          rw [zLT (by omega) (by omega)]
          refine ⟨fun h => ⟨?_, trivial⟩, fun h => ⟨by omega, ?_⟩⟩
          · rw [hxs, x1_some, decide_eq_true h]
            rfl
          · rw [zLE (by omega) (by omega)]
            have e1 : x1 a b (some x) = decide (b < x) := by rw [x1_some, decide_eq_false h, Bool.false_or]
            refine ⟨fun h2 x8 e8 => ?_, fun h2 => ⟨?_, trivial⟩⟩
            · rw [e1, decide_eq_false (by omega), Bool.false_or] at hxs
              rw [inc e8, hxs]
              exact nxt
            · rw [hxs, e1, decide_eq_true (by omega)]
              rfl
  refine vcX12_crosses hL _ _ ko _ _ (fun x1 e1 => ?_)
  rw [inc e1]
  exact loop (b - (a + 1)) (a + 1) rfl (by omega)
theorem sp_crosses11 {g : GV} {d o no a b : Nat} {m : Mat} {σ : PS} (hL : Lay σ) (ko : kd σ o = some (.inr (0, no))) (hno : 22 ≤ no) (hno2 : no < 1000000) (hM : MA σ o 22 m) (hm : ∀ e k, m e = some k → k < 22) (ha : a < 22) (hb : b < 22) :
    CX11_crosses g d [.ref 10, .ref o, .int (nI a), .int (nI b)] σ (fun v s => v = (if crx m a b = true then 1 else 0) ∧ s = σ) := by
  have loop : ∀ (z c : Nat), z = b - c → c ≤ 22 → VX11_crosses g d (fun v s => v = (if xs m a b z c = true then 1 else 0) ∧ s = σ) 5 [none, some (.ref o), some (.int (nI a)), some (.int (nI b)), some (.int (nI c))] [] σ := by
    intro z
    induction z with
    | zero =>
      intro c hz hc
      refine vcX11_crosses_5 hL _ _ ko _ _ _ ?_
      rw [zLE (by omega) (by omega)]
      exact ⟨fun _ => ⟨rfl, rfl⟩, fun h => by omega⟩
    | succ z ih =>
      intro c hz hc
      have nxt := ih (c + 1) (by omega) (by omega)
      have hxs : xs m a b (z + 1) c = (x1 a b (m c) || xs m a b z (c + 1)) := rfl
      refine vcX11_crosses_5 hL _ _ ko _ _ _ ?_
      simp (disch := omega) only [zLE, zIN, zCL, hM c (by omega)]
      rw [oI_m1 (o := m c) (n := 22) (fun k hk => hm c k hk) (by omega)]
      refine ⟨fun h => by omega, fun _ => ⟨by omega, fun hn x4 e4 => ?_, fun hn => ⟨by omega, ?_⟩⟩⟩
      · rw [hn] at hxs
        rw [inc e4, hxs]
        exact nxt
      · cases hmc : m c with
        | none => exact absurd hmc hn
        | some x =>
          have hx := hm c x hmc
          rw [hmc] at hxs
          simp only [oI]
          rw [zLT (by omega) (by omega)]
          refine ⟨fun h => ⟨?_, trivial⟩, fun h => ⟨by omega, ?_⟩⟩
          · rw [hxs, x1_some, decide_eq_true h]
            rfl
          · rw [zLE (by omega) (by omega)]
            have e1 : x1 a b (some x) = decide (b < x) := by rw [x1_some, decide_eq_false h, Bool.false_or]
            refine ⟨fun h2 x8 e8 => ?_, fun h2 => ⟨?_, trivial⟩⟩
            · rw [e1, decide_eq_false (by omega), Bool.false_or] at hxs
              rw [inc e8, hxs]
              exact nxt
            · rw [hxs, e1, decide_eq_true (by omega)]
              rfl
  refine vcX11_crosses hL _ _ ko _ _ (fun x1 e1 => ?_)
  rw [inc e1]
  exact loop (b - (a + 1)) (a + 1) rfl (by omega)
theorem xs_none {m : Mat} {a b : Nat} : ∀ z c, (∀ e, c ≤ e → e < c + z → m e = none) → xs m a b z c = false := by
  intro z
  induction z with
  | zero => intro c _; rfl
  | succ z ih =>
    intro c h
    show (x1 a b (m c) || xs m a b z (c + 1)) = false
    rw [h c (Nat.le_refl _) (by omega), ih (c + 1) (fun e h1 h2 => h e (by omega) (by omega))]
    rfl
theorem xs_some {m : Mat} {a b e x : Nat} (hx : m e = some x) (hax : x < a ∨ b < x) : ∀ z c, c ≤ e → e < c + z → xs m a b z c = true := by
  intro z
  induction z with
  | zero => intro c h1 h2; omega
  | succ z ih =>
    intro c h1 h2
    show (x1 a b (m c) || xs m a b z (c + 1)) = true
    by_cases w : c = e
    · rw [w, hx]
      have : x1 a b (some x) = true := by
        rw [x1_some]
        rcases hax with h | h
        · rw [decide_eq_true h]; rfl
        · rw [decide_eq_true h, Bool.or_true]
      rw [this]
      rfl
    · rw [ih (c + 1) (by omega) (by omega), Bool.or_true]
/-- what the reference has listed -/
def EM (σ : PS) (E : Nat) (T : List Mat) : Prop := mi σ 179 48 = nI (min T.length 2001) ∧ ∀ i m, i < 2001 → T[i]? = some m → ∀ e, e < E → mi σ 211 (24 * i + e) = oI (m e)
theorem EM.sat {σ : PS} {E : Nat} {T : List Mat} (h : EM σ E T) (h2 : 2000 < T.length) (U : List Mat) : EM σ E (T ++ U) := by
  obtain ⟨a, c⟩ := h
  refine ⟨?_, fun i m hi hm => c i m hi ?_⟩
  · rw [a, List.length_append]; congr 1; omega
  · rw [List.getElem?_append_left (by omega)] at hm; exact hm
theorem EM.ch {σ s : PS} {E : Nat} {T : List Mat} {Pm Pl : Nat → Nat → Prop} (h : EM σ E T) (c : Ch Pm Pl σ s) (h2 : ¬ Pm 179 48) (h8 : ∀ i, ¬ Pm 211 i) : EM s E T := by
  unfold EM
  rw [c.i h2]
  exact ⟨h.1, fun i m hi hm e he => by rw [c.i (h8 _)]; exact h.2 i m hi hm e he⟩
theorem byt (o : Option Nat) (h : ∀ k, o = some k → k < 22) : vp_nar .byte (ji2b (oI o)) = oI o := by
  cases o with
  | none => decide +kernel
  | some k =>
    have : ∀ k, k < 22 → vp_nar .byte (ji2b (nI k)) = nI k := by decide +kernel
    exact this k (h k rfl)
abbrev chM : Nat → Nat → Prop := fun a i => a = 179 ∧ i = 48 ∨ a = 210 ∨ a = 211 ∨ a = 212
theorem sp_pairs {g : GV} {E : Nat} {q : Nat → Nat} (hE : E ≤ 22) : ∀ (k d a : Nat) (m : Mat) (T : List Mat) (σ : PS), E - a < k → Lay σ → mi σ 179 38 = nI E → (∀ i, i < E → mi σ 205 i = nI (q i) ∧ q i ≤ 4) → MA σ 212 24 m → NP E m a → EM σ E T →
    CX12_pairs g (d + k + 1) [.ref 179, .int (nI a)] σ (fun s => EM s E (T ++ en E q k m a) ∧ MA s 212 24 m ∧ Ch chM noL σ s) := by
  intro k
  induction k with
  | zero => intro d a m T σ h; omega
  | succ k ih =>
    intro d a m T σ hk hL h0 hq hM hN hT
    obtain ⟨f1, f2, f3, f4⟩ := ff_spec E m a hN.le
    have hml := m_lt hN
    generalize hPP : (fun (s : PS) => EM s E (T ++ en E q (k + 1) m a) ∧ MA s 212 24 m ∧ Ch chM noL σ s) = P
    have l118 : ∀ f, ff E m a = f → f < E → ∀ (z b : Nat) (U : List Mat) (s : PS), E + 1 - b ≤ z → f < b → b ≤ E + 1 → (b - f) % 2 = 1 → Ch chM noL σ s → MA s 212 24 m → EM s E U →
        ((∀ c, f < c → c < b → m c = none) ∧ T ++ en E q (k + 1) m a = U ++ (bsl m f (E - b) b).flatMap (fun b => en E q k (setp m f b) (f + 1)) ∨ (∃ c, f < c ∧ c < b ∧ m c ≠ none) ∧ T ++ en E q (k + 1) m a = U) →
        VX12_pairs g (d + k + 1 + 1) P 118 [some (.ref 179), none, some (.int (nI f)), some (.int (nI b))] [] s := by
      intro f hf hfE z
      have hfree := f4 (by omega)
      rw [hf] at f1 f2 f3 hfree
      induction z with
      | zero =>
        intro b U s hz hfb hb hod cs hMs hU hall
        refine vcX12_pairs_118 (cs.lay hL) _ _ ?_
        rw [cs.i (by simp [chM]), h0]
        refine ⟨fun _ => ?_, fun h => absurd (by rw [zLE (by omega) (by omega)]; omega) h⟩
        rw [← hPP]
        refine ⟨?_, hMs, cs⟩
        show EM s E (T ++ en E q (k + 1) m a)
        rcases hall with ⟨-, hall⟩ | ⟨-, hall⟩
        · rw [hall, show E - b = 0 by omega]
          show EM s E (U ++ [])
          rw [List.append_nil]; exact hU
        · rw [hall]; exact hU
      | succ z ihz =>
        intro b U s hz hfb hb hod cs hMs hU hall
        have hL2 := cs.lay hL
        refine vcX12_pairs_118 hL2 _ _ ?_
        rw [cs.i (by simp [chM]), h0, zLE (by omega) (by omega)]
        refine ⟨fun hEb => ?_, fun hbE => ?_⟩
        · rw [← hPP]
          refine ⟨?_, hMs, cs⟩
          show EM s E (T ++ en E q (k + 1) m a)
          rcases hall with ⟨-, hall⟩ | ⟨-, hall⟩
          · rw [hall, show E - b = 0 by omega]
            show EM s E (U ++ [])
            rw [List.append_nil]; exact hU
          · rw [hall]; exact hU
        · have hx : ∀ x : Int32, x = nI b + 2 → x = nI (b + 2) := fun x e => by rw [e, lit32 2, nI_add]
          simp (disch := omega) only [zIN, zCL, hMs b (by omega)]
          rw [oI_pos (o := m b) (n := 22) (fun k hk => by have := hml b k hk; omega) (by omega)]
          refine ⟨by omega, fun hsome x13 e13 => ?_, fun hnone => ?_⟩
          · rw [hx _ e13]
            refine ihz (b + 2) U s (by omega) (by omega) (by omega) (by omega) cs hMs hU (Or.inr ⟨⟨b, hfb, by omega, hsome⟩, ?_⟩)
            rcases hall with ⟨-, hall⟩ | ⟨-, hall⟩
            · rw [hall, show E - b = (E - b - 1) + 1 by omega]
              have : bsl m f (E - b - 1 + 1) b = [] := by
                conv => lhs; unfold bsl
                rw [if_pos (by cases h : m b with | none => exact absurd h hsome | some _ => rfl)]
              rw [this]
              show U ++ [] = U
              rw [List.append_nil]
            · exact hall
          · have hnone : m b = none := Classical.not_not.mp hnone
            refine Ct.imp (sp_crosses12 hL2 (kd_212 hL2) (by omega) (by omega) (fun e he => hMs e (by omega)) (fun e k hk => by have := hml e k hk; omega) (show f < 22 by omega) (show b < 22 by omega)) (fun r s15 w => ?_)
            obtain ⟨v, rfl, hv, rfl⟩ := w
            refine ⟨_, rfl, Fr.rf, ?_⟩
            rcases hall with ⟨hfr, hall⟩ | ⟨⟨c, c1, c2, c3⟩, hall⟩
            · have hcr : crx m f b = false := xs_none _ _ (fun e h1 h2 => hfr e (by omega) (by omega))
              rw [hcr, if_neg (by decide)] at hv
              refine ⟨fun _ => ⟨by omega, fun s18 e18 => ⟨by omega, fun s21 e21 => ?_⟩⟩, fun h => absurd hv h⟩
              have hM21 : MA s21 212 24 (setp m f b) := by
                intro e he
                rw [e21, mi_si, e18, mi_si]
                unfold setp
                by_cases q1 : e = f
                · rw [if_pos q1, if_neg (by omega), if_pos ⟨rfl, q1⟩]; rfl
                · rw [if_neg q1]
                  by_cases q2 : e = b
                  · rw [if_pos q2, if_pos ⟨rfl, q2⟩]; rfl
                  · rw [if_neg q2, if_neg (by omega), if_neg (by omega)]
                    exact hMs e he
              have c21 : Ch (fun a _ => a = 212) noL s15 s21 := by rw [e21, e18]; exact ((Ch.rf (Pm := fun a _ => a = 212) (Pl := noL)).si rfl).si rfl
              have c021 : Ch chM noL σ s21 := cs.trans (c21.mono (fun a i h => by simp only [chM]; omega) (fun _ _ h => h))
              have hset := hN.set hf hfE hfb (show b < E by omega) (fun c c1 c2 => by
                by_cases e : c = b
                · rw [e]; exact hnone
                · exact hfr c c1 (by omega)) (by omega)
              have step := ih d (f + 1) (setp m f b) U s21 (by omega) (c021.lay hL) (by rw [c021.i (by simp [chM])]; exact h0) (fun i hi => by rw [c021.i (by simp [chM])]; exact hq i hi) hM21 hset (hU.ch c21 (by omega) (fun i => by omega))
              rw [inc (show nI f + 1 = nI f + 1 from rfl)]
              refine Ct.imp step (fun r s23 w23 => ?_)
              obtain ⟨rfl, hU3, hM3, c3⟩ := w23
              refine ⟨rfl, c3.fr, by omega, fun s26 e26 => ⟨by omega, fun s29 e29 x31 e31 => ?_⟩⟩
              have c29 : Ch (fun a _ => a = 212) noL s23 s29 := by rw [e29, e26]; exact ((Ch.rf (Pm := fun a _ => a = 212) (Pl := noL)).si rfl).si rfl
              have c029 : Ch chM noL σ s29 := (c021.trans c3).trans (c29.mono (fun a i h => by simp only [chM]; omega) (fun _ _ h => h))
              rw [hx _ e31]
              have hM29 : MA s29 212 24 m := by
                intro e he
                have := hM3 e he
                unfold setp at this
                rw [e29, mi_si, e26, mi_si]
                by_cases q2 : e = b
                · rw [if_pos ⟨rfl, q2⟩, q2, hnone]; rfl
                · rw [if_neg (by omega)]
                  by_cases q1 : e = f
                  · rw [if_pos ⟨rfl, q1⟩, q1, hfree]; rfl
                  · rw [if_neg (by omega)]
                    rw [if_neg q1, if_neg q2] at this
                    exact this
              have hbl : bsl m f (E - b) b = b :: bsl m f (E - (b + 1)) (b + 1) := by
                rw [show E - b = (E - (b + 1)) + 1 by omega]
                conv => lhs; unfold bsl
                rw [hnone, if_neg (by decide), if_neg (by omega)]
              rw [hbl, List.flatMap_cons, ← List.append_assoc] at hall
              have hU29 := hU3.ch c29 (by omega) (fun i => by omega)
              refine ihz (b + 2) _ s29 (by omega) (by omega) (by omega) (by omega) c029 hM29 hU29 ?_
              by_cases hbE2 : b + 1 < E
              · have hb2 : bsl m f (E - (b + 1)) (b + 1) = if (m (b + 1)).isSome then [] else bsl m f (E - (b + 2)) (b + 2) := by
                  rw [show E - (b + 1) = (E - (b + 2)) + 1 by omega]
                  conv => lhs; unfold bsl
                  rw [if_pos (show (b + 1 - f) % 2 = 0 by omega)]
                cases hmb : m (b + 1) with
                | none =>
                  rw [hmb, if_neg (by decide)] at hb2
                  refine Or.inl ⟨fun c c1 c2 => ?_, by rw [hall, hb2]⟩
                  by_cases e : c = b + 1
                  · rw [e]; exact hmb
                  · by_cases e : c = b
                    · rw [e]; exact hnone
                    · exact hfr c c1 (by omega)
                | some x =>
                  rw [hmb, if_pos (show (some x).isSome = true from rfl)] at hb2
                  refine Or.inr ⟨⟨b + 1, by omega, by omega, by rw [hmb]; exact fun h => by cases h⟩, ?_⟩
                  rw [hall, hb2]
                  show _ ++ [] = _
                  rw [List.append_nil]
              · refine Or.inl ⟨fun c c1 c2 => ?_, ?_⟩
                · by_cases e : c = b
                  · rw [e]; exact hnone
                  · by_cases e2 : c = b + 1
                    · cases hmc : m c with
                      | none => rfl
                      | some x => have := (hN.inv c x hmc).1; omega
                    · exact hfr c c1 (by omega)
                · rw [hall, show E - (b + 1) = 0 by omega, show E - (b + 2) = 0 by omega]
                  rfl
            · obtain ⟨x, hx2⟩ : ∃ x, m c = some x := by
                cases h : m c with
                | none => exact absurd h c3
                | some x => exact ⟨x, rfl⟩
              have hxa := hN.low c x (by omega) hx2
              have hcr : crx m f b = true := xs_some hx2 (Or.inl (show x < f by
                have : x ≠ f := fun w => by have := (hN.inv c x hx2).2.2.2; rw [w, hfree] at this; cases this
                omega)) _ _ (by omega) (by omega)
              rw [hcr, if_pos rfl] at hv
              refine ⟨fun h => absurd h (by rw [hv]; decide), fun _ x33 e33 => ?_⟩
              rw [hx _ e33]
              exact ihz (b + 2) U s15 (by omega) (by omega) (by omega) (by omega) cs hMs hU (Or.inr ⟨⟨c, c1, by omega, c3⟩, hall⟩)
    have leaf : T.length ≤ 2000 → ff E m a = E → CX12_corners g (d + k + 1) [.ref 179, .ref 212] σ (fun (v4 : Int32) (s3 : PS) => Fr σ s3 ∧ (¬ v4 = 0 → VX12_pairs g (d + k + 1 + 1) P 58 [some (.ref 179), none, none, some (.int 0)] [] s3) ∧ (v4 = 0 → P s3)) := by
      intro hTl hf
      obtain ⟨t1, t2⟩ := id hT
      refine Ct.imp (sp_corners (d := d + k) hL hE h0 (kd_212 hL) (by omega) (by omega) (by omega) (fun e he => hM e (by omega)) (fun e b h => ⟨hml e b h, (hN.inv e b h).2.2.1⟩) hq) (fun r s3 w3 => ?_)
      obtain ⟨v, rfl, hv, -, c3⟩ := w3
      have c03 : Ch chM noL σ s3 := c3.mono (fun a i h => by simp only [ch210] at h; simp only [chM]; omega) (fun _ _ h => h)
      have hT3 : EM s3 E T := hT.ch c3 (by simp [ch210]) (fun i => by simp [ch210])
      have hM3 : MA s3 212 24 m := hM.ch c3 (fun i _ => by simp [ch210])
      refine ⟨_, rfl, c3.fr, fun hv1 => ?_, fun hv0 => ?_⟩
      · rw [i01 hv, Classical.not_not] at hv1
        have hen : en E q (k + 1) m a = [m] := by rw [en_leaf (by omega), if_pos hv1]
        have l58 : ∀ (z i : Nat) (s : PS), z = E - i → i ≤ E → Ch chM noL σ s → mi s 179 48 = nI T.length → (∀ j m', j < 2001 → T[j]? = some m' → ∀ e, e < E → mi s 211 (24 * j + e) = oI (m' e)) → (∀ e, e < i → mi s 211 (24 * T.length + e) = oI (m e)) → MA s 212 24 m → VX12_pairs g (d + k + 1 + 1) P 58 [some (.ref 179), none, none, some (.int (nI i))] [] s := by
          intro z
          induction z with
          | zero =>
            intro i s hz hi cs h48 hrows hnew hMs
            have e : i = E := by omega
            subst e
            refine vcX12_pairs_58 (cs.lay hL) _ ?_
            rw [cs.i (by simp [chM]), h0]
            refine ⟨fun _ s35 e35 => ?_, fun h => absurd (by rw [zLE (by omega) (by omega)]; omega) h⟩
            rw [h48, inc rfl] at e35
            have c35 : Ch (fun a i => a = 179 ∧ i = 48) noL s s35 := by rw [e35]; exact Ch.rf.si ⟨rfl, rfl⟩
            rw [← hPP]
            refine ⟨⟨?_, fun j m' hj hm' e he => ?_⟩, hMs.ch c35 (fun i _ => by omega), cs.trans (c35.mono (fun a i h => by simp only [chM]; omega) (fun _ _ h => h))⟩
            · rw [e35, mi_si, if_pos ⟨rfl, rfl⟩, hen, List.length_append, List.length_singleton, Nat.min_eq_left (by omega)]
            · rw [c35.i (by omega)]
              rw [hen] at hm'
              rcases Nat.lt_or_ge j T.length with w | w
              · rw [List.getElem?_append_left w] at hm'
                exact hrows j m' hj hm' e he
              · rw [List.getElem?_append_right w] at hm'
                by_cases w2 : j = T.length
                · subst w2
                  rw [Nat.sub_self] at hm'
                  cases hm'
                  exact hnew e he
                · rw [List.getElem?_eq_none (by simp only [List.length_singleton]; omega)] at hm'
                  cases hm'
          | succ z ihz =>
            intro i s hz hi cs h48 hrows hnew hMs
            refine vcX12_pairs_58 (cs.lay hL) _ ?_
            rw [cs.i (by simp [chM]), h0, h48, lit32 2001, lit32 24, pk_mul, nI_add]
            simp (disch := omega) only [zLE, zIN, zCL, hMs i (by omega)]
            rw [byt (m i) (fun k hk => by have := hml i k hk; omega)]
            refine ⟨fun h => by omega, fun _ => ⟨fun h => by omega, fun _ => ⟨by omega, by omega, fun s41 e41 x43 e43 => ?_⟩⟩⟩
            rw [inc e43]
            have c41 : Ch (fun a i => a = 211) noL s s41 := by rw [e41]; exact Ch.rf.si rfl
            refine ihz (i + 1) s41 (by omega) (by omega) (cs.trans (c41.mono (fun a i h => by simp only [chM]; omega) (fun _ _ h => h))) (by rw [c41.i (by omega)]; exact h48) (fun j m' hj hm' e he => ?_) (fun e he => ?_) (hMs.ch c41 (fun i _ => by omega))
            · have hjl : j < T.length := by
                rcases Nat.lt_or_ge j T.length with w | w
                · exact w
                · rw [List.getElem?_eq_none w] at hm'; cases hm'
              rw [e41, mi_si, if_neg (by omega)]
              exact hrows j m' hj hm' e he
            · rw [e41, mi_si]
              by_cases w : e = i
              · rw [if_pos ⟨rfl, by omega⟩, w]
              · rw [if_neg (by omega)]
                exact hnew e (by omega)
        exact l58 E 0 s3 rfl (by omega) c03 (by rw [hT3.1, Nat.min_eq_left (by omega)]) hT3.2 (fun e he => by omega) hM3
      · rw [i01 hv] at hv0
        rw [← hPP]
        refine ⟨?_, hM3, c03⟩
        show EM s3 E (T ++ en E q (k + 1) m a)
        rw [en_leaf (by omega), if_neg hv0, List.append_nil]
        exact hT3
    have l13 : T.length ≤ 2000 → ∀ (z e : Nat), z = E - e → a ≤ e → e ≤ E → ff E m a = ff E m e → VX12_pairs g (d + k + 1 + 1) P 13 [some (.ref 179), none, some (.int (nI e)), none] [] σ := by
      intro hTl z
      have node : ∀ f, ff E m a = f → (¬ nI f = nI E → ∀ x1 : Int32, x1 = nI f + 1 → VX12_pairs g (d + k + 1 + 1) P 118 [some (.ref 179), none, some (.int (nI f)), some (.int x1)] [] σ) ∧ (nI f = nI E → CX12_corners g (d + k + 1) [.ref 179, .ref 212] σ (fun (v4 : Int32) (s3 : PS) => Fr σ s3 ∧ (¬ v4 = 0 → VX12_pairs g (d + k + 1 + 1) P 58 [some (.ref 179), none, none, some (.int 0)] [] s3) ∧ (v4 = 0 → P s3))) := by
        intro f hf
        rw [hf] at f2
        rw [zEQ (by omega) (by omega)]
        refine ⟨fun hne x1 e1 => ?_, fun heq => leaf hTl (by omega)⟩
        rw [inc e1]
        exact l118 f hf (by omega) (E + 1 - (f + 1)) (f + 1) T σ (Nat.le_refl _) (by omega) (by omega) (by omega) Ch.rf hM hT (Or.inl ⟨fun c c1 c2 => by omega, by rw [en_node hf (by omega)]⟩)
      induction z with
      | zero =>
        intro e hz hae he hff
        have ee : e = E := by omega
        have nd := node e (by rw [hff, ff_end (by omega)])
        refine vcX12_pairs_13 hL _ ?_
        rw [h0]
        refine ⟨fun _ => nd, fun h => absurd (by rw [zLE (by omega) (by omega)]; omega) h⟩
      | succ z ihz =>
        intro e hz hae he hff
        refine vcX12_pairs_13 hL _ ?_
        rw [h0]
        simp (disch := omega) only [zLE, zIN, zCL, hM e (by omega)]
        rw [oI_lt0 (m e) (fun k hk => by have := hml e k hk; omega)]
        refine ⟨fun h => by omega, fun _ => ⟨by omega, fun hnone => node e (by rw [hff, ff_at hnone]), fun hsome x10 e10 => ?_⟩⟩
        rw [inc e10]
        cases hme : m e with
        | none => exact absurd hme hsome
        | some x => exact ihz (e + 1) (by omega) (by omega) (by omega) (by rw [hff, ff_step (by omega) hme])
    refine vcX12_pairs hL _ ?_
    rw [hT.1, lit32 2000, zLE (by omega) (by omega)]
    refine ⟨fun h => l13 (by omega) (E - a) a rfl (Nat.le_refl _) hN.le rfl, fun h => ?_⟩
    rw [← hPP]
    exact ⟨hT.sat (by omega) _, hM, Ch.rf⟩
