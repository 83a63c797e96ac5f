/-! ===== the class's Gluings ===== -/
theorem mr90 {s : PS} (h : Lay s) {i : Nat} (hi : i < 12) : mr s 90 i = some (93 + 3 * i) ∧ isC (93 + 3 * i) := by
  rcases (by omega : i = 0 ∨ i = 1 ∨ i = 2 ∨ i = 3 ∨ i = 4 ∨ i = 5 ∨ i = 6 ∨ i = 7 ∨ i = 8 ∨ i = 9 ∨ i = 10 ∨ i = 11) with e | e | e | e | e | e | e | e | e | e | e | e <;> subst e
  · exact ⟨mr_90_0 h, by unfold isC; decide⟩
  · exact ⟨mr_90_1 h, by unfold isC; decide⟩
  · exact ⟨mr_90_2 h, by unfold isC; decide⟩
  · exact ⟨mr_90_3 h, by unfold isC; decide⟩
  · exact ⟨mr_90_4 h, by unfold isC; decide⟩
  · exact ⟨mr_90_5 h, by unfold isC; decide⟩
  · exact ⟨mr_90_6 h, by unfold isC; decide⟩
  · exact ⟨mr_90_7 h, by unfold isC; decide⟩
  · exact ⟨mr_90_8 h, by unfold isC; decide⟩
  · exact ⟨mr_90_9 h, by unfold isC; decide⟩
  · exact ⟨mr_90_10 h, by unfold isC; decide⟩
  · exact ⟨mr_90_11 h, by unfold isC; decide⟩
/-- an array holds a matching -/
def MA (σ : PS) (o N : Nat) (m : Mat) : Prop := ∀ e, e < N → mi σ o e = oI (m e)
theorem MA.ch {σ s : PS} {o N : Nat} {m : Mat} {Pm Pl : Nat → Nat → Prop} (h : MA σ o N m) (c : Ch Pm Pl σ s) (hn : ∀ i, i < N → ¬ Pm o i) : MA s o N m := fun e he => by rw [c.i (hn e he)]; exact h e he
/-- what the class has listed -/
def EC (σ : PS) (E : Nat) (T : List Mat) : Prop := mi σ 87 3 = nI (min T.length 2000) ∧ mi σ 87 2 = (if 2000 < T.length then 1 else 0) ∧ ∀ i m, i < 2000 → T[i]? = some m → mi σ 88 i = nI (bt m E)
theorem EC.sat {σ : PS} {E : Nat} {T : List Mat} (h : EC σ E T) (h2 : 2000 < T.length) (U : List Mat) : EC σ E (T ++ U) := by
  obtain ⟨a, b, c⟩ := h
  refine ⟨?_, ?_, fun i m hi hm => c i m hi ?_⟩
  · rw [a, List.length_append]; congr 1; omega
  · rw [b, List.length_append, if_pos h2, if_pos (by omega)]
  · rw [List.getElem?_append_left (by omega)] at hm; exact hm
theorem EC.ch {σ s : PS} {E : Nat} {T : List Mat} {Pm Pl : Nat → Nat → Prop} (h : EC σ E T) (c : Ch Pm Pl σ s) (h2 : ¬ Pm 87 2) (h3 : ¬ Pm 87 3) (h8 : ∀ i, ¬ Pm 88 i) : EC s E T := by
  unfold EC
  rw [c.i h2, c.i h3]
  exact ⟨h.1, h.2.1, fun i m hi hm => by rw [c.i (h8 i)]; exact h.2.2 i m hi hm⟩
theorem m_lt {E a : Nat} {m : Mat} (h : NP E m a) : ∀ e k, m e = some k → k < E := fun e k hk => (h.inv e k hk).2.1
theorem or_add {a n : Nat} (h : a < 2 ^ n) : a ||| 2 ^ n = a + 2 ^ n := by
  have := Nat.two_pow_add_eq_or_of_lt h 1
  rw [Nat.mul_one] at this
  rw [Nat.or_comm, ← this, Nat.add_comm]
theorem p2_22 {n : Nat} (h : n ≤ 22) : 2 ^ n ≤ 4194304 := Nat.pow_le_pow_right (by decide) h
theorem sp_keep5 {g : GV} {d E : Nat} {m : Mat} {T : List Mat} {σ : PS} (hL : Lay σ) (hE : E ≤ 22) (h0 : mi σ 20 6 = nI E) (hM : MA σ 89 22 m) (hm : ∀ e k, m e = some k → k < E) (hT : EC σ E T) :
    CX5_keep g d [.ref 87] σ (fun s => EC s E (T ++ [m]) ∧ Ch (fun a i => a = 87 ∧ (i = 2 ∨ i = 3) ∨ a = 88) noL σ s) := by
  obtain ⟨t1, t2, t3⟩ := id hT
  have loop : T.length < 2000 → ∀ (z i : Nat), z = E - i → i ≤ E → VX5_keep g d (fun s => EC s E (T ++ [m]) ∧ Ch (fun a i => a = 87 ∧ (i = 2 ∨ i = 3) ∨ a = 88) noL σ s) 20 [some (.ref 87), some (.int (nI (bt m i))), some (.int (nI i))] [] σ := by
    intro hlt z
    induction z with
    | zero =>
      intro i hz hi
      have e : i = E := by omega
      subst e
      refine vcX5_keep_20 hL _ _ ?_
      rw [h0, t1, Nat.min_eq_left (by omega)]
      simp (disch := omega) only [zIN, zCL]
      refine ⟨fun _ => ⟨hlt, fun s4 e4 s6 e6 => ?_⟩, fun h => absurd (by rw [zLE (by omega) (by omega)]; omega) h⟩
      have v : mi s4 87 3 = nI T.length := by rw [e4, mi_si, if_neg (by omega), t1, Nat.min_eq_left (by omega)]
      rw [v, inc rfl] at e6
      refine ⟨⟨?_, ?_, fun j m' hj hm' => ?_⟩, ?_⟩
      · rw [e6, mi_si, if_pos ⟨rfl, rfl⟩, List.length_append, List.length_singleton, Nat.min_eq_left (by omega)]
      · rw [e6, mi_si, if_neg (by omega), e4, mi_si, if_neg (by omega), t2, List.length_append, List.length_singleton, if_neg (by omega), if_neg (by omega)]
      · rw [e6, mi_si, if_neg (by omega), e4, mi_si]
        by_cases q : j = T.length
        · subst q
          rw [if_pos ⟨rfl, rfl⟩]
          rw [List.getElem?_append_right (Nat.le_refl _), Nat.sub_self] at hm'
          cases hm'
          rfl
        · rw [if_neg (by omega)]
          rcases Nat.lt_or_ge j T.length with w | w
          · rw [List.getElem?_append_left w] at hm'
            exact t3 j m' hj hm'
          · rw [List.getElem?_append_right w, List.getElem?_eq_none (by simp only [List.length_singleton]; omega)] at hm'
            cases hm'
      · rw [e6, e4]
        exact (Ch.rf.si (Or.inr rfl)).si (Or.inl ⟨rfl, Or.inr rfl⟩)
    | succ z ih =>
      intro i hz hi
      have nxt := ih (i + 1) (by omega) (by omega)
      have hb := bt_lt m i
      have hp := p2_22 (show i ≤ 22 by omega)
      have hbs : bt m (i + 1) = bt m i + if opn1 m i then 2 ^ i else 0 := rfl
      refine vcX5_keep_20 hL _ _ ?_
      rw [h0]
      simp (disch := omega) only [zIN, zCL, zLE, hM i (by omega)]
      refine ⟨fun h => by omega, fun _ => ⟨by omega, fun hle x9 e9 x11 e11 => ?_, fun hgt x13 e13 x15 e15 => ?_⟩⟩
      · have ho : opn1 m i = false := by
          unfold opn1
          cases h : m i with
          | none => rfl
          | some b =>
            rw [h] at hle
            simp only [oI] at hle
            have := hm i b h
            rw [zLE (by omega) (by omega)] at hle
            exact decide_eq_false (by omega)
        rw [hbs, ho, if_neg (by decide), Nat.add_zero] at nxt
        rw [inc e11, e9, lit32 0, fa_or, Nat.or_zero]
        exact nxt
      · have ho : opn1 m i = true := by
          unfold opn1
          cases h : m i with
          | none =>
            rw [h] at hgt
            refine absurd ?_ hgt
            refine Int32.le_iff_toInt_le.mpr ?_
            rw [nI_toInt (by omega)]
            have : (oI none).toInt = -1 := by decide
            omega
          | some b =>
            rw [h] at hgt
            simp only [oI] at hgt
            have := hm i b h
            rw [zLE (by omega) (by omega)] at hgt
            exact decide_eq_true (by omega)
        rw [hbs, ho, if_pos rfl] at nxt
        rw [inc e15, e13, zOR1 (by omega), or_add hb]
        exact nxt
  refine vcX5_keep hL ?_
  rw [t1, lit32 2000, zLT (by omega) (by omega)]
  refine ⟨fun h => loop (by omega) E 0 rfl (by omega), fun h s1 e1 => ⟨⟨?_, ?_, fun i m' hi hm' => ?_⟩, ?_⟩⟩
  · rw [e1, mi_si, if_neg (by omega), t1, List.length_append, List.length_singleton]
    congr 1
    omega
  · rw [e1, mi_si, if_pos ⟨rfl, rfl⟩, List.length_append, List.length_singleton, if_pos (by omega)]
  · rw [e1, mi_si, if_neg (by omega)]
    rw [List.getElem?_append_left (by omega)] at hm'
    exact t3 i m' hi hm'
  · rw [e1]
    exact Ch.rf.si (Or.inl ⟨rfl, Or.inl rfl⟩)
abbrev chQ (dp : Nat) : Nat → Nat → Prop := fun a i => a = 87 ∧ (i = 2 ∨ i = 3) ∨ a = 88 ∨ a = 89 ∨ 93 + 3 * dp < a ∧ 96 + 3 * dp ≤ a ∧ a ≤ 128
theorem sp_search5 {g : GV} {E : Nat} {q : Nat → Nat} (hE : E ≤ 22) (hq : ∀ i, i < E → q i ≤ 4) : ∀ (k d a dp : Nat) (m : Mat) (T : List Mat) (lf qf : Nat → Nat) (σ : PS), E - a < k → Lay σ → mi σ 20 6 = nI E → MA σ 89 22 m → NP E m a → gcn E m = 2 * dp → lf = cl E m a → Cor σ (93 + 3 * dp) E lf qf → RQ E lf qf q → A4 E lf q → (∀ i, i < E → qf i ≤ 4) → EC σ E T →
    CX5_search g (d + k + 1) [.ref 87, .int (nI a), .int (nI dp)] σ (fun s => EC s E (T ++ en E q k m a) ∧ MA s 89 22 m ∧ Ch (chQ dp) noL σ s) := by
  intro k
  induction k with
  | zero => intro d a dp m T lf qf σ h; omega
  | succ k ih =>
    intro d a dp m T lf qf σ hk hL h0 hM hN hg hlf hC hR h4 hqf hT
    obtain ⟨f1, f2, f3, f4⟩ := ff_spec E m a hN.le
    have hml := m_lt hN
    have hP : Prt E lf := by rw [hlf]; exact Prt.cl hml a hN.le
    have hgle : gcn E m ≤ E := cnt_le _ E
    generalize hPP : (fun (s : PS) => EC s E (T ++ en E q (k + 1) m a) ∧ MA s 89 22 m ∧ Ch (chQ dp) noL σ s) = P
    -- the candidates
    have l62 : ∀ f, ff E m a = f → f < E → ∀ (z b : Nat) (U : List Mat) (s : PS), z = E - b → f < b → b ≤ E → (∀ c, f < c → c < b → m c = none) → Ch (chQ dp) noL σ s → MA s 89 22 m → EC s E U → T ++ en E q (k + 1) m a = U ++ (bsl m f z b).flatMap (fun b => en E q k (setp m f b) (f + 1)) →
        VX5_search g (d + k + 1 + 1) P 62 [some (.ref 87), none, some (.int (nI dp)), some (.int (nI f)), some (.int (nI b))] [] s := by
      intro f hf hfE z
      have hfree := f4 (by omega)
      rw [hf] at f1 f2 f3 hfree
      have hdp : dp ≤ 10 := by
        have := gcn_lt hfE hfree
        omega
      have clf : cl E m f = lf := by
        rw [hlf]
        have : ∀ z, a + z ≤ f → cl E m (a + z) = cl E m a := by
          intro z
          induction z with
          | zero => intro _; rfl
          | succ z ihz =>
            intro hz
            rw [show a + (z + 1) = (a + z) + 1 by omega, cl_s, ihz (by omega)]
            have hs := f3 (a + z) (by omega) (by omega)
            cases hmz : m (a + z) with
            | none => rfl
            | some x =>
              have := hN.low (a + z) x (by omega) hmz
              show (if a + z < x then _ else _) = _
              rw [if_neg (by omega)]
        have := this (f - a) (by omega)
        rw [show a + (f - a) = f by omega] at this
        exact this
      induction z with
      | zero =>
        intro b U s hz hfb hb hfr cs hMs hU hall
        have e : b = E := by omega
        subst e
        refine vcX5_search_62 (cs.lay hL) _ _ _ ?_
        rw [cs.i (by simp only [chQ]; omega), h0]
        refine ⟨fun _ => ?_, fun h => absurd (by rw [zLE (by omega) (by omega)]; omega) h⟩
        rw [← hPP]
        refine ⟨?_, hMs, cs⟩
        show EC s b (T ++ en b q (k + 1) m a)
        rw [hall]
        show EC s b (U ++ [])
        rw [List.append_nil]
        exact hU
      | succ z ihz =>
        intro b U s hz hfb hb hfr cs hMs hU hall
        have hL2 := cs.lay hL
        obtain ⟨u1, u2, u3⟩ := id hU
        have done : EC s E (T ++ en E q (k + 1) m a) → P s := fun h => by rw [← hPP]; exact ⟨h, hMs, cs⟩
        refine vcX5_search_62 hL2 _ _ _ ?_
        rw [cs.i (by simp only [chQ]; omega), h0]
        simp (disch := omega) only [zIN, zCL, hMs b (by omega), zLE]
        rw [oI_m1 (hml b) (by omega)]
        have hbl : bsl m f (z + 1) b = if (m b).isSome then [] else if (b - f) % 2 = 0 then bsl m f z (b + 1) else b :: bsl m f z (b + 1) := rfl
        refine ⟨fun h => by omega, fun _ => ⟨by omega, fun hsome => done ?_, fun hnone => ⟨fun htm => done ?_, fun htm => ?_⟩⟩⟩
        · rw [hall, hbl, if_pos (by cases h : m b with | none => exact absurd h hsome | some _ => rfl)]
          show EC s E (U ++ [])
          rw [List.append_nil]
          exact hU
        · rw [hall]
          refine hU.sat ?_ _
          rw [u2] at htm
          rcases Nat.lt_or_ge 2000 U.length with w | w
          · exact w
          · rw [if_neg (by omega)] at htm
            exact absurd rfl htm
        · rw [hbl, hnone, if_neg (by decide)] at hall
          have hfr2 : ∀ c, f < c → c < b + 1 → m c = none := fun c c1 c2 => by
            by_cases e : c = b
            · rw [e]; exact hnone
            · exact hfr c c1 (by omega)
          have hsub : jrem (nI b - nI f) 2 = nI ((b - f) % 2) := by rw [pk_sub (by omega), lit32 2, zREM (by omega) (by omega) (by omega)]
          rw [hsub, lit32 0, zEQ (by omega) (by omega), inc (show nI dp + 1 = nI dp + 1 from rfl)]
          simp (disch := omega) only [zIN, zCL]
          refine ⟨fun hodd => ?_, fun heven x46 e46 => ?_⟩
          · rw [if_neg hodd, List.flatMap_cons, ← List.append_assoc] at hall
            obtain ⟨r1, r2⟩ := mr90 hL2 (show dp + 1 < 12 by omega)
            obtain ⟨r3, r4⟩ := mr90 hL2 (show dp < 12 by omega)
            have hCs : Cor s (93 + 3 * dp) E lf qf := hC.ch cs (by simp only [chQ]; omega) (fun i _ => by simp only [chQ]; omega) (fun i _ => by simp only [chQ]; omega)
            refine ⟨by omega, _, r1, by omega, _, r3, r2, Ct.imp (sp_copy hL2 r2 r4 (by omega) hCs) (fun r s1 w1 => ?_)⟩
            obtain ⟨rfl, hC1, c1⟩ := w1
            have hL3 := c1.lay hL2
            refine ⟨rfl, c1.fr, by omega, _, (mr90 hL3 (show dp + 1 < 12 by omega)).1, r2, ?_⟩
            refine Ct.imp (sp_pair (d := d + k) hL3 r2 hC1 hP (fun i hi => by have := hqf i hi; omega) hfE (show b < E by omega)) (fun r s2 w2 => ?_)
            obtain ⟨v, rfl, c2, hv, hC2⟩ := w2
            have c02 : Ch (chQ dp) noL σ s2 := cs.trans ((c1.mono (fun a i h => by simp only [chC0] at h; simp only [chQ]; omega) (fun _ _ h => h)).trans (c2.mono (fun a i h => by simp only [chC] at h; simp only [chQ]; omega) (fun _ _ h => h)))
            have hM2 : MA s2 89 22 m := (hMs.ch c1 (fun i _ => by simp only [chC0]; omega)).ch c2 (fun i _ => by simp only [chC]; omega)
            have hU2 : EC s2 E U := (hU.ch c1 (by simp only [chC0]; omega) (by simp only [chC0]; omega) (fun i => by simp only [chC0]; omega)).ch c2 (by simp only [chC]; omega) (by simp only [chC]; omega) (fun i => by simp only [chC]; omega)
            have hpair := A4_p hR hP hfE (show b < E by omega) h4
            have hset := hN.set hf hfE hfb (show b < E by omega) (fun c c1 c2 => hfr2 c c1 (by omega)) hodd
            have hcl : cl E (setp m f b) (f + 1) = pL E lf f b := by
              rw [cl_s, cl_congr (m' := m) f (fun e he => by unfold setp; rw [if_neg (by omega), if_neg (by omega)]), clf]
              have : setp m f b f = some b := by unfold setp; rw [if_pos rfl]
              rw [this]
              show (if f < b then _ else _) = _
              rw [if_pos hfb]
            refine ⟨_, rfl, c2.fr, fun hv0 x28 e28 => ?_, fun hv1 => ⟨by omega, fun s31 e31 => ?_⟩⟩
            · replace hv0 : v = 0 := hv0
              rw [i01 hv] at hv0
              have hnil : en E q k (setp m f b) (f + 1) = [] := en_nil k _ _ (by omega) (by rw [hcl, hpair]; exact hv0)
              rw [hnil, List.append_nil] at hall
              rw [inc e28]
              exact ihz (b + 1) U s2 (by omega) (by omega) (by omega) hfr2 c02 hM2 hU2 hall
            · replace hv1 : ¬ v = 0 := hv1
              rw [i01 hv, Classical.not_not] at hv1
              refine ⟨by omega, fun s34 e34 => ?_⟩
              have hM34 : MA s34 89 22 (setp m f b) := by
                intro e he
                rw [e34, mi_si, e31, mi_si]
                unfold setp
                by_cases q1 : e = f
                · rw [if_pos q1, if_neg (by omega), if_pos ⟨rfl, q1⟩]; rfl
                · rw [if_neg q1]
                  by_cases q2 : e = b
                  · rw [if_pos q2, if_pos ⟨rfl, q2⟩]; rfl
                  · rw [if_neg q2, if_neg (by omega), if_neg (by omega)]
                    exact hM2 e he
              have c34 : Ch (chQ dp) noL s2 s34 := by rw [e34, e31]; exact (Ch.rf.si (by simp [chQ])).si (by simp [chQ])
              have c89 : Ch (fun a _ => a = 89) noL s2 s34 := by rw [e34, e31]; exact ((Ch.rf (Pm := fun a _ => a = 89) (Pl := noL)).si rfl).si rfl
              have hC34 : Cor s34 (93 + 3 * (dp + 1)) E (pL E lf f b) (pQ E lf qf f b) := (hC2 hv1).ch c89 (by omega) (fun i _ => by omega) (fun i _ => by omega)
              have hU34 : EC s34 E U := hU2.ch c89 (by omega) (by omega) (fun i => by omega)
              have c034 := c02.trans c34
              have step := ih d (f + 1) (dp + 1) (setp m f b) U (pL E lf f b) (pQ E lf qf f b) s34 (by omega) (c034.lay hL) (by rw [c034.i (by simp only [chQ]; omega)]; exact h0) hM34 hset (by rw [gcn_set hfE (by omega) (by omega) hfree hnone]; omega) hcl.symm hC34 (hR.p hP hfE (by omega)) (hpair.mpr hv1) (pQ_le4 hqf hv1.1 hv1.2) hU34
              rw [inc (show nI f + 1 = nI f + 1 from rfl)]
              refine Ct.imp step (fun r s3 w3 => ?_)
              obtain ⟨rfl, hU3, hM3, c3⟩ := w3
              refine ⟨rfl, c3.fr, by omega, fun s39 e39 => ⟨by omega, fun s42 e42 x44 e44 => ?_⟩⟩
              have c42 : Ch (chQ dp) noL s3 s42 := by rw [e42, e39]; exact (Ch.rf.si (by simp [chQ])).si (by simp [chQ])
              have c89b : Ch (fun a _ => a = 89) noL s3 s42 := by rw [e42, e39]; exact ((Ch.rf (Pm := fun a _ => a = 89) (Pl := noL)).si rfl).si rfl
              rw [inc e44]
              refine ihz (b + 1) (U ++ en E q k (setp m f b) (f + 1)) s42 (by omega) (by omega) (by omega) hfr2 ((c034.trans (c3.mono (fun a i h => by simp only [chQ] at h ⊢; omega) (fun _ _ h => h))).trans c42) ?_ (hU3.ch c89b (by omega) (by omega) (fun i => by omega)) hall
              intro e he
              have := hM3 e he
              unfold setp at this
              rw [e42, mi_si, e39, mi_si]
              by_cases q2 : e = b
              · rw [if_pos ⟨rfl, q2⟩, q2, hnone]; rfl
              · rw [if_neg (by omega)]
                by_cases q1 : e = f
                · rw [if_pos ⟨rfl, q1⟩, q1, hfree]; rfl
                · rw [if_neg (by omega)]
                  rw [if_neg q1, if_neg q2] at this
                  exact this
          · rw [if_pos heven] at hall
            rw [inc e46]
            exact ihz (b + 1) U s (by omega) (by omega) (by omega) hfr2 cs hMs hU hall
    -- at the first free edge
    have node : ∀ f, ff E m a = f → (f < E → (nI dp + 1 < nI 12 → ∀ x : Int32, x = nI f + 1 → VX5_search g (d + k + 1 + 1) P 62 [some (.ref 87), none, some (.int (nI dp)), some (.int (nI f)), some (.int x)] [] σ) ∧ (¬ nI dp + 1 < nI 12 → P σ)) ∧ (¬ f < E → CX5_keep g (d + k + 1) [.ref 87] σ (fun (s3) => Fr σ s3 ∧ P s3)) := by
      intro f hf
      refine ⟨fun hfE => ?_, fun hfE => ?_⟩
      · have hfree := f4 (by omega)
        rw [hf] at hfree
        have hlt := gcn_lt hfE hfree
        rw [inc (show nI dp + 1 = nI dp + 1 from rfl), zLT (by omega) (by omega)]
        refine ⟨fun _ x ex => ?_, fun h => by omega⟩
        rw [inc ex]
        exact l62 f hf hfE (E - (f + 1)) (f + 1) T σ rfl (by omega) (by omega) (fun c c1 c2 => by omega) Ch.rf hM hT (by rw [en_node hf hfE])
      · refine Ct.imp (sp_keep5 hL hE h0 hM hml hT) (fun r s w => ?_)
        obtain ⟨rfl, hT2, c⟩ := w
        refine ⟨rfl, c.fr, ?_⟩
        rw [← hPP]
        have fE : ff E m a = E := by omega
        have : cl E m E = lf := by
          rw [hlf]
          have : ∀ z, a + z ≤ E → cl E m (a + z) = cl E m a := by
            intro z
            induction z with
            | zero => intro _; rfl
            | succ z ihz =>
              intro hz
              rw [show a + (z + 1) = (a + z) + 1 by omega, cl_s, ihz (by omega)]
              have hs := f3 (a + z) (by omega) (by omega)
              cases hmz : m (a + z) with
              | none => rfl
              | some x =>
                have := hN.low (a + z) x (by omega) hmz
                show (if a + z < x then _ else _) = _
                rw [if_neg (by omega)]
          have := this (E - a) (by have := hN.le; omega)
          rw [show a + (E - a) = E by have := hN.le; omega] at this
          exact this
        refine ⟨?_, hM.ch c (fun i _ => by omega), c.mono (fun a i h => by simp only [chQ]; omega) (fun _ _ h => h)⟩
        show EC s E (T ++ en E q (k + 1) m a)
        rw [en_leaf (by omega), if_pos (A4b_is.mpr (by rw [this]; exact h4))]
        exact hT2
    have l2 : ∀ (z e : Nat), z = E - e → a ≤ e → e ≤ E → ff E m a = ff E m e → VX5_search g (d + k + 1 + 1) P 2 [some (.ref 87), none, some (.int (nI dp)), some (.int (nI e)), none] [] σ := by
      intro z
      induction z with
      | zero =>
        intro e hz hae he hff
        have ee : e = E := by omega
        subst ee
        have nd := node e (by rw [hff, ff_end (Nat.le_refl _)])
        refine vcX5_search_2 hL _ _ ?_
        rw [h0]
        simp (disch := omega) only [zLE, zLT]
        exact ⟨fun _ => nd, fun h => absurd (Nat.le_refl e) h⟩
      | succ z ihz =>
        intro e hz hae he hff
        refine vcX5_search_2 hL _ _ ?_
        rw [h0]
        simp (disch := omega) only [zLE, zLT, zIN, zCL, hM e (by omega)]
        rw [oI_m1 (hml e) (by omega)]
        refine ⟨fun h => by omega, fun _ => ⟨by omega, fun hnone => node e (by rw [hff, ff_at hnone]), fun hsome x10 e10 => ?_⟩⟩
        rw [inc e10]
        cases hme : m e with
        | none => exact absurd hme hsome
        | some x => exact ihz (e + 1) (by omega) (by omega) (by omega) (by rw [hff, ff_step (by omega) hme])
    exact vcX5_search hL _ _ (l2 (E - a) a rfl (Nat.le_refl _) hN.le rfl)
