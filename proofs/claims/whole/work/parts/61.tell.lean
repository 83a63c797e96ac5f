/-! ===== the class's Gluings: worked out once, asked, told ===== -/
abbrev chW5 : Nat → Nat → Prop := fun a i => a = 87 ∧ 1 ≤ i ∧ i ≤ 3 ∨ a = 88 ∨ a = 89 ∨ 93 ≤ a ∧ a ≤ 128
theorem i01n {a : Int32} {c : Prop} [Decidable c] (h : a = if c then 1 else 0) : (¬ a = 0) = c := by
  rw [i01 h, Classical.not_not]
theorem sp_work5 {g : GV} {d E : Nat} {q : Nat → Nat} {σ : PS} (hL : Lay σ) (hE : E ≤ 22) (hq : ∀ i, i < E → q i ≤ 4) (h0 : mi σ 20 6 = nI E) (h8 : ∀ i, i < E → mi σ 28 i = nI (q i)) (hk : ¬ mi σ 87 1 = 0 → EC σ E (gls E q)) :
    CX5_work g (d + 25) [.ref 87] σ (fun s => EC s E (gls E q) ∧ ¬ mi s 87 1 = 0 ∧ Ch chW5 noL σ s) := by
  refine vcX5_work hL ⟨fun _ s1 e1 s3 e3 s5 e5 => ?_, fun h => ⟨hk h, h, Ch.rf⟩⟩
  have c5 : Ch chW5 noL σ s5 := by rw [e5, e3, e1]; exact ((Ch.rf.si (by simp [chW5])).si (by simp [chW5])).si (by simp [chW5])
  have hL5 := c5.lay hL
  refine Ct.imp (sp_fill hL5 (kd_89 hL5) (by omega)) (fun r s7 w7 => ?_)
  obtain ⟨rfl, hz, c7⟩ := w7
  have c07 : Ch chW5 noL σ s7 := c5.trans (c7.mono (fun a i h => by simp only [chW5]; omega) (fun _ _ h => h))
  have hL7 := c07.lay hL
  obtain ⟨r1, r2⟩ := mr90 hL7 (show 0 < 12 by omega)
  refine ⟨rfl, c7.fr, _, r1, r2, ?_⟩
  have i20 : isF 20 := by unfold isF; decide
  refine Ct.imp (sp_start hL7 r2 i20 hE (q := q) (by rw [c07.i (by simp [chW5])]; exact h0) (fun i hi => by rw [c07.i (by simp [chW5])]; exact h8 i hi)) (fun r s12 w12 => ?_)
  obtain ⟨rfl, hC, c12⟩ := w12
  have c012 : Ch chW5 noL σ s12 := c07.trans (c12.mono (fun a i h => by simp only [chC0] at h; simp only [chW5]; omega) (fun _ _ h => h))
  have hM : MA s12 89 22 (fun _ => none) := fun e he => by rw [c12.i (by simp only [chC0]; omega)]; exact hz e he
  have hT : EC s12 E [] := by
    refine ⟨?_, ?_, fun i m _ h => by cases h⟩
    · rw [c12.i (by simp only [chC0]; omega), c7.i (by omega), e5, mi_si, if_neg (by omega), e3, mi_si, if_pos ⟨rfl, rfl⟩]; rfl
    · rw [c12.i (by simp only [chC0]; omega), c7.i (by omega), e5, mi_si, if_pos ⟨rfl, rfl⟩]; rfl
  have v1 : mi s12 87 1 = 1 := by rw [c12.i (by simp only [chC0]; omega), c7.i (by omega), e5, mi_si, if_neg (by omega), e3, mi_si, if_neg (by omega), e1, mi_si, if_pos ⟨rfl, rfl⟩]
  refine ⟨rfl, c12.fr, ?_⟩
  have g0 : gcn E (fun _ => none) = 2 * 0 := by
    unfold gcn
    have : ∀ n, cnt (fun e => ((none : Option Nat)).isSome) n = 0 := by
      intro n
      induction n with
      | zero => rfl
      | succ n ih => rw [cnt_s, ih]; rfl
    exact this E
  have S := sp_search5 (g := g) hE hq 23 d 0 0 (fun _ => none) [] (fun i => i) q s12 (by omega) (c012.lay hL) (by rw [c012.i (by simp [chW5])]; exact h0) hM (NP.start E) g0 rfl hC RQ.id (fun k hk => tg_id_le (hq k hk)) hq hT
  refine Ct.imp S (fun r s14 w14 => ?_)
  obtain ⟨rfl, hT2, -, c14⟩ := w14
  rw [List.nil_append] at hT2
  refine ⟨rfl, c14.fr, hT2, ?_, c012.trans (c14.mono (fun a i h => by simp only [chQ] at h; simp only [chW5]; omega) (fun _ _ h => h))⟩
  rw [c14.i (by simp [chQ]), v1]
  decide
theorem zNEG {a : Int32} {n : Nat} (hn : n < 2147483648) (h0 : ¬ a < 0) (h : ¬ nI n ≤ a) : ∃ k, k < n ∧ a = nI k := by
  have e : (0 : Int32).toInt = 0 := by decide
  have h1 : 0 ≤ a.toInt := by
    have := Int32.le_iff_toInt_le.mp (Int32.not_lt.mp h0)
    omega
  have h2 : a.toInt < n := by
    have := Int32.lt_iff_toInt_lt.mp (Int32.not_le.mp h)
    rw [nI_toInt hn] at this
    exact this
  refine ⟨a.toInt.toNat, by omega, Int32.toInt_inj.mp ?_⟩
  rw [nI_toInt (by omega)]
  omega
/-- whether a is one of n -/
def inN (a : Int32) (n : Nat) : Bool := decide (0 ≤ a) && decide (a < nI n)
theorem inN_is {a : Int32} {n : Nat} (hn : n < 2147483648) : inN a n = true ↔ ∃ k, k < n ∧ a = nI k := by
  unfold inN
  simp only [Bool.and_eq_true, decide_eq_true_eq]
  constructor
  · intro h
    exact zNEG hn (Int32.not_lt.mpr h.1) (Int32.not_le.mpr h.2)
  · rintro ⟨k, hk, rfl⟩
    refine ⟨?_, ?_⟩
    · rw [lit32 0, zLE (by omega) (by omega)]; omega
    · rw [zLT (by omega) (by omega)]; exact hk
theorem sp_has5 {g : GV} {d E : Nat} {q : Nat → Nat} {a : Int32} {σ : PS} (hL : Lay σ) (hE : E ≤ 22) (hq : ∀ i, i < E → q i ≤ 4) (h0 : mi σ 20 6 = nI E) (h8 : ∀ i, i < E → mi σ 28 i = nI (q i)) (hk : ¬ mi σ 87 1 = 0 → EC σ E (gls E q)) :
    CX5_has g (d + 26) [.ref 87, .int a] σ (fun v s => v = (if (gls E q).length ≤ 2000 ∧ inN a (gls E q).length = true then 1 else 0) ∧ EC s E (gls E q) ∧ ¬ mi s 87 1 = 0 ∧ Ch chW5 noL σ s) := by
  refine vcX5_has hL _ (Ct.imp (sp_work5 hL hE hq h0 h8 hk) (fun r s w => ?_))
  obtain ⟨rfl, hT, h1, c⟩ := w
  obtain ⟨t1, t2, t3⟩ := id hT
  refine ⟨rfl, c.fr, ?_⟩
  rw [t1, t2]
  rcases Nat.lt_or_ge 2000 (gls E q).length with w | w
  · rw [if_pos w]
    refine ⟨fun _ => ⟨?_, hT, h1, c⟩, fun h => absurd h (by decide)⟩
    rw [if_neg (fun z => by omega)]
  · rw [if_neg (by omega), Nat.min_eq_left w]
    refine ⟨fun h => absurd rfl h, fun _ => ⟨fun hn => ⟨?_, hT, h1, c⟩, fun hn => ⟨fun hg => ⟨?_, hT, h1, c⟩, fun hg => ⟨?_, hT, h1, c⟩⟩⟩⟩
    · rw [if_neg (fun z => ?_)]
      have := z.2
      unfold inN at this
      simp only [Bool.and_eq_true, decide_eq_true_eq] at this
      exact Int32.not_lt.mpr this.1 hn
    · rw [if_neg (fun z => ?_)]
      have := z.2
      unfold inN at this
      simp only [Bool.and_eq_true, decide_eq_true_eq] at this
      exact Int32.not_le.mpr this.2 hg
    · have hin : inN a (gls E q).length = true := by
        unfold inN
        simp only [Bool.and_eq_true, decide_eq_true_eq]
        exact ⟨Int32.not_lt.mp hn, Int32.not_le.mp hg⟩
      rw [if_pos ⟨w, hin⟩]
/-- what is told of m when the edges before i are through -/
def ttl (m : Mat) (i e : Nat) : Option Nat := match m e with
  | some b => if b < i then some b else none
  | none => none
theorem sp_tell5 {g : GV} {d E gl : Nat} {m : Mat} {T : List Mat} {σ : PS} (hL : Lay σ) (hE : E ≤ 22) (hM : NP E m E) (hT : EC σ E T) (hg : gl < 2000) (hm : T[gl]? = some m) :
    CX5_tell g d [.ref 87, .int (nI gl)] σ (fun s => MA s 92 22 m ∧ Ch (fun a _ => a = 91 ∨ a = 92) noL σ s) := by
  obtain ⟨t1, t2, t3⟩ := hT
  have hbt := bt_lt m E
  have hp22 := p2_22 hE
  have hgl : gl < T.length := by
    rcases Nat.lt_or_ge gl T.length with w | w
    · exact w
    · rw [List.getElem?_eq_none w] at hm; cases hm
  have hml := m_lt hM
  have hbit : ∀ i, i < 22 → jshr (nI (bt m E)) (nI i) &&& 1 = if opn1 m i then 1 else 0 := by
    intro i hi
    rw [zBIT (by omega) (by omega), Nat.testBit_eq_decide_div_mod_eq]
    rcases Nat.lt_or_ge i E with w | w
    · rw [bt_bit m E w]
      split <;> simp
    · rw [bt_bit0 m w]
      have : opn1 m i = false := by
        unfold opn1
        cases h : m i with
        | none => rfl
        | some b => have := (hM.inv i b h).1; omega
      simp [this]
  have loop : ∀ (z i dp : Nat) (st : Nat → Nat) (s : PS), z = 22 - i → i ≤ 22 → Ch (fun a _ => a = 91 ∨ a = 92) noL σ s → (∀ j, j < dp → st j < i ∧ ∃ b, m (st j) = some b ∧ i ≤ b) → (∀ j j', j < j' → j' < dp → st j < st j') → (∀ o b, o < i → m o = some b → i ≤ b → ∃ j, j < dp ∧ st j = o) → (∀ j, j < dp → j ≤ st j) → (∀ j, j < dp → mi s 91 j = nI (st j)) → (∀ e, e < i → mi s 92 e = oI (ttl m i e)) →
      VX5_tell g d (fun s => MA s 92 22 m ∧ Ch (fun a _ => a = 91 ∨ a = 92) noL σ s) 28 [some (.ref 87), none, some (.int (nI dp)), some (.int (nI (bt m E))), some (.int (nI i))] [] s := by
    intro z
    induction z with
    | zero =>
      intro i dp st s hz hi cs h1 h2 h3 h4 h5 h6
      have e : i = 22 := by omega
      subst e
      refine vcX5_tell_28 (cs.lay hL) _ _ _ ⟨fun _ => ⟨fun e he => ?_, cs⟩, fun h => absurd (show (22 : Int32) ≤ nI 22 by decide) h⟩
      rw [h6 e he]
      unfold ttl
      cases hme : m e with
      | none => rfl
      | some b =>
        have := hml e b hme
        simp only
        rw [if_pos (by omega)]
    | succ z ih =>
      intro i dp st s hz hi cs h1 h2 h3 h4 h5 h6
      have hdp : dp ≤ i := by
        rcases Nat.eq_zero_or_pos dp with w | w
        · omega
        · have a := (h1 (dp - 1) (by omega)).1
          have b := h4 (dp - 1) (by omega)
          omega
      refine vcX5_tell_28 (cs.lay hL) _ _ _ ?_
      rw [lit32 22, lit32 0]
      simp (disch := omega) only [zIN, zCL, zLE, hbit i (by omega)]
      refine ⟨fun h => by omega, fun _ => ⟨by omega, fun s5 e5 => ⟨fun hb0 => ⟨fun hd0 x7 e7 => ?_, fun hd0 x9 e9 => ?_⟩, fun hb1 => ⟨by omega, fun s22 e22 x24 e24 x26 e26 => ?_⟩⟩⟩⟩
      · -- nothing is open: behind the edges
        have ho : opn1 m i = false := by
          cases h : opn1 m i with
          | false => rfl
          | true => rw [h] at hb0; exact absurd hb0 (by decide)
        have hmi : m i = none := by
          cases h : m i with
          | none => rfl
          | some b =>
            unfold opn1 at ho
            rw [h] at ho
            simp only [decide_eq_false_iff_not] at ho
            have hv := hM.inv i b h
            obtain ⟨j, hj, -⟩ := h3 b i (by omega) hv.2.2.2 (Nat.le_refl i)
            omega
        rw [inc e7]
        have d0 : dp = 0 := by omega
        subst d0
        refine ih (i + 1) 0 st s5 (by omega) (by omega) (by rw [e5]; exact cs.si (Or.inr rfl)) (fun j hj => by omega) (fun j j' _ hj => by omega) (fun o b ho2 hmo hb => ?_) (fun j hj => by omega) (fun j hj => by omega) (fun e he => ?_)
        · by_cases e : o = i
          · rw [e, hmi] at hmo; cases hmo
          · exact h3 o b (by omega) hmo (by omega)
        · rw [e5, mi_si]
          by_cases e' : e = i
          · rw [if_pos ⟨rfl, e'⟩, e']
            unfold ttl
            rw [hmi]
            rfl
          · rw [if_neg (by omega), h6 e (by omega)]
            unfold ttl
            cases hme : m e with
            | none => rfl
            | some b =>
              simp only
              have : b ≠ i := fun q => by
                have := (hM.inv e b hme).2.2.2
                rw [q, hmi] at this
                cases this
              by_cases w : b < i
              · rw [if_pos w, if_pos (by omega)]
              · rw [if_neg w, if_neg (by omega)]
      · -- the last one that is open is closed
        have ho : opn1 m i = false := by
          cases h : opn1 m i with
          | false => rfl
          | true => rw [h] at hb0; exact absurd hb0 (by decide)
        have x9v : x9 = nI (dp - 1) := by
          rw [e9]
          have : nI dp + (-1) = nI dp - nI 1 := by rw [Int32.sub_eq_add_neg]; rfl
          rw [this, pk_sub (by omega)]
        obtain ⟨g1, b', g2, g3⟩ := h1 (dp - 1) (by omega)
        -- some edge i there is, as one is open
        have hiE : i < E := by
          have := hml _ b' g2
          omega
        obtain ⟨b, hb⟩ : ∃ b, m i = some b := by
          cases h : m i with
          | none => have := hM.all i hiE; rw [h] at this; cases this
          | some b => exact ⟨b, rfl⟩
        have hbi : b < i := by
          unfold opn1 at ho
          rw [hb] at ho
          simp only [decide_eq_false_iff_not] at ho
          have := (hM.inv i b hb).2.2.1
          omega
        have hbb := (hM.inv i b hb).2.2.2
        obtain ⟨j, hj, hj2⟩ := h3 b i hbi hbb (Nat.le_refl i)
        have hjt : j = dp - 1 := by
          rcases Nat.lt_or_ge j (dp - 1) with w | w
          · have a := h2 j (dp - 1) w (by omega)
            have c := hM.non b i (st (dp - 1)) b' hbb g2 (by omega) g1
            omega
          · omega
        subst hjt
        have f1 : mi s5 91 (dp - 1) = nI b := by rw [e5, mi_si, if_neg (by omega), h5 _ hj, hj2]
        rw [x9v]
        simp (disch := omega) only [zIN, zCL, f1]
        refine ⟨by omega, by omega, fun s13 e13 => ?_⟩
        have f2 : mi s13 91 (dp - 1) = nI b := by rw [e13, mi_si, if_neg (by omega)]; exact f1
        rw [f2]
        simp (disch := omega) only [zIN, zCL]
        refine ⟨by omega, by omega, fun s17 e17 x19 e19 => ?_⟩
        rw [inc e19]
        refine ih (i + 1) (dp - 1) st s17 (by omega) (by omega) (by rw [e17, e13, e5]; exact ((cs.si (Or.inr rfl)).si (Or.inr rfl)).si (Or.inr rfl)) (fun k hk => ?_) (fun k k' h hk => h2 k k' h (by omega)) (fun o c ho2 hmo hc => ?_) (fun k hk => h4 k (by omega)) (fun k hk => ?_) (fun e he => ?_)
        · obtain ⟨a1, c, a2, a3⟩ := h1 k (by omega)
          refine ⟨by omega, c, a2, ?_⟩
          have hne : c ≠ i := fun w => by
            rw [w] at a2
            have := (hM.inv (st k) i a2).2.2.2
            rw [hb] at this
            have e : b = st k := Option.some.inj this
            have := h2 k (dp - 1) (by omega) (by omega)
            omega
          omega
        · have ho2' : o < i := by
            have : o ≠ i := fun w => by rw [w, hb] at hmo; have := Option.some.inj hmo; omega
            omega
          obtain ⟨k, hk, hk2⟩ := h3 o c ho2' hmo (by omega)
          refine ⟨k, ?_, hk2⟩
          have : k ≠ dp - 1 := fun w => by
            rw [w, hj2] at hk2
            rw [← hk2, hbb] at hmo
            have := Option.some.inj hmo
            omega
          omega
        · rw [e17, mi_si, if_neg (by omega), e13, mi_si, if_neg (by omega), e5, mi_si, if_neg (by omega)]
          exact h5 k (by omega)
        · rw [e17, mi_si]
          by_cases w1 : e = b
          · rw [if_pos ⟨rfl, w1⟩, w1]
            unfold ttl
            rw [hbb]
            simp only
            rw [if_pos (by omega)]
            rfl
          · rw [if_neg (by omega), e13, mi_si]
            by_cases w2 : e = i
            · rw [if_pos ⟨rfl, w2⟩, w2]
              unfold ttl
              rw [hb]
              simp only
              rw [if_pos (by omega)]
              rfl
            · rw [if_neg (by omega), e5, mi_si, if_neg (by omega), h6 e (by omega)]
              unfold ttl
              cases hme : m e with
              | none => rfl
              | some c =>
                simp only
                have : c ≠ i := fun w => by
                  have := (hM.inv e c hme).2.2.2
                  rw [w, hb] at this
                  exact w1 (Option.some.inj this).symm
                by_cases w : c < i
                · rw [if_pos w, if_pos (by omega)]
                · rw [if_neg w, if_neg (by omega)]
      · -- one more is open
        have ho : opn1 m i = true := by
          cases h : opn1 m i with
          | false => rw [h] at hb1; exact absurd rfl hb1
          | true => rfl
        obtain ⟨b, hb, hib⟩ : ∃ b, m i = some b ∧ i < b := by
          unfold opn1 at ho
          cases h : m i with
          | none => rw [h] at ho; cases ho
          | some b => rw [h] at ho; exact ⟨b, rfl, of_decide_eq_true ho⟩
        rw [inc e24, inc e26]
        refine ih (i + 1) (dp + 1) (fun k => if k = dp then i else st k) s22 (by omega) (by omega) (by rw [e22, e5]; exact (cs.si (Or.inr rfl)).si (Or.inl rfl)) (fun k hk => ?_) (fun k k' h hk => ?_) (fun o c ho2 hmo hc => ?_) (fun k hk => ?_) (fun k hk => ?_) (fun e he => ?_)
        · by_cases w : k = dp
          · rw [if_pos w]; exact ⟨by omega, b, hb, hib⟩
          · rw [if_neg w]
            obtain ⟨a1, c, a2, a3⟩ := h1 k (by omega)
            refine ⟨by omega, c, a2, ?_⟩
            have : c ≠ i := fun w2 => by
              rw [w2] at a2
              have := (hM.inv (st k) i a2).2.2.2
              rw [hb] at this
              have := Option.some.inj this
              omega
            omega
        · rw [if_neg (show ¬ k = dp by omega)]
          by_cases w : k' = dp
          · rw [if_pos w]; exact (h1 k (by omega)).1
          · rw [if_neg w]; exact h2 k k' h (by omega)
        · by_cases w : o = i
          · exact ⟨dp, by omega, by rw [if_pos rfl, w]⟩
          · obtain ⟨k, hk, hk2⟩ := h3 o c (by omega) hmo (by omega)
            exact ⟨k, by omega, by rw [if_neg (by omega)]; exact hk2⟩
        · by_cases w : k = dp
          · rw [if_pos w]; omega
          · rw [if_neg w]; exact h4 k (by omega)
        · rw [e22, mi_si]
          by_cases w : k = dp
          · rw [if_pos ⟨rfl, w⟩, if_pos w]
          · rw [if_neg (by omega), if_neg w, e5, mi_si, if_neg (by omega)]
            exact h5 k (by omega)
        · rw [e22, mi_si, if_neg (by omega), e5, mi_si]
          by_cases w2 : e = i
          · rw [if_pos ⟨rfl, w2⟩, w2]
            unfold ttl
            rw [hb]
            simp only
            rw [if_neg (by omega)]
            rfl
          · rw [if_neg (by omega), h6 e (by omega)]
            unfold ttl
            cases hme : m e with
            | none => rfl
            | some c =>
              simp only
              have : c ≠ i := fun w => by
                have := (hM.inv e c hme).2.2.2
                rw [w, hb] at this
                have := Option.some.inj this
                omega
              by_cases w : c < i
              · rw [if_pos w, if_pos (by omega)]
              · rw [if_neg w, if_neg (by omega)]
  have fin := loop 22 0 0 (fun _ => 0) σ rfl (by omega) Ch.rf (fun j hj => by omega) (fun j j' _ hj => by omega) (fun o b ho => by omega) (fun j hj => by omega) (fun j hj => by omega) (fun e he => by omega)
  have v8 := t3 gl m hg hm
  refine vcX5_tell hL _ ?_
  rw [t1, lit32 0]
  simp (disch := omega) only [zLT, zLE, zIN, zCL]
  refine ⟨fun h => by omega, fun _ => ⟨fun h => by omega, fun _ => ⟨hg, fun x2 e2 => ?_⟩⟩⟩
  rw [e2, v8]
  exact fin
