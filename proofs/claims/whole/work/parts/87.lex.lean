/-! ===== the least telling of a body; the class tells from a side ===== -/
def lexlt (N : Nat) (a b : Nat → Nat) : Prop := ∃ i, i < N ∧ a i < b i ∧ ∀ j, j < i → a j = b j
theorem lex_anti {N : Nat} {a b : Nat → Nat} (h1 : ¬ lexlt N a b) (h2 : ¬ lexlt N b a) : ∀ i, i < N → a i = b i := by
  intro i
  induction i using Nat.strongRecOn with
  | _ i ih =>
    intro hi
    have he : ∀ j, j < i → a j = b j := fun j hj => ih j hj (by omega)
    rcases Nat.lt_trichotomy (a i) (b i) with z | z | z
    · exact absurd ⟨i, hi, z, he⟩ h1
    · exact z
    · exact absurd ⟨i, hi, z, fun j hj => (he j hj).symm⟩ h2
theorem lex_congr {N : Nat} {a a' b b' : Nat → Nat} (ha : ∀ i, i < N → a i = a' i) (hb : ∀ i, i < N → b i = b' i) (h : lexlt N a b) : lexlt N a' b' := by
  obtain ⟨i, hi, h1, h2⟩ := h
  exact ⟨i, hi, by rw [← ha i hi, ← hb i hi]; exact h1, fun j hj => by rw [← ha j (by omega), ← hb j (by omega)]; exact h2 j hj⟩
theorem lex_irr {N : Nat} {a b : Nat → Nat} (h : ∀ i, i < N → a i = b i) : ¬ lexlt N a b := fun ⟨i, hi, h1, _⟩ => by have := h i hi; omega
theorem lex_no {N i : Nat} {a b : Nat → Nat} (h : ∀ j, j < i → b j = a j) (hg : b i < a i) : ¬ lexlt N a b := by
  rintro ⟨k, hk, h1, h2⟩
  rcases Nat.lt_trichotomy k i with z | z | z
  · have := h k z; omega
  · subst z; omega
  · have := h2 i z; omega
theorem lex_trans {N : Nat} {a b c : Nat → Nat} (h : lexlt N a b) (k : lexlt N b c) : lexlt N a c := by
  obtain ⟨i, hi, h1, h2⟩ := h
  obtain ⟨j, hj, k1, k2⟩ := k
  rcases Nat.lt_trichotomy i j with z | z | z
  · exact ⟨i, hi, by rw [← k2 i z]; exact h1, fun l hl => (h2 l hl).trans (k2 l (by omega))⟩
  · subst z; exact ⟨i, hi, by omega, fun l hl => (h2 l hl).trans (k2 l hl)⟩
  · exact ⟨j, hj, by rw [h2 j z]; exact k1, fun l hl => (h2 l (by omega)).trans (k2 l hl)⟩
/-- the least of all tellings, of 40 entries -/
def MinD (n : Nat) (f B : Nat → Nat) : Prop := (∃ c s st, c < n ∧ s < 4 ∧ (st = 1 ∨ st = 3) ∧ ∀ i, i < 4 * n → B i = cod f st c s i) ∧ (∀ c s st, c < n → s < 4 → (st = 1 ∨ st = 3) → ¬ lexlt (4 * n) (cod f st c s) B) ∧ ∀ i, 4 * n ≤ i → i < 40 → B i = 40
def Same (n : Nat) (f g : Nat → Nat) : Prop := ∃ H T ε, (ε = 1 ∨ ε = 3) ∧ Iso n f g H T ε
theorem inj_sur {n : Nat} {H : Nat → Nat} (h1 : ∀ i, i < n → H i < n) (h2 : ∀ i j, i < n → j < n → H i = H j → i = j) : ∀ c, c < n → ∃ i, i < n ∧ H i = c := by
  intro c hc
  refine Classical.byContradiction (fun hno => ?_)
  have a := cnt_inj (N := n) (f := H) n (fun i => true && !(i == c)) (fun i hi => ⟨h1 i hi, by
    have : H i ≠ c := fun e => hno ⟨i, hi, e⟩
    simpa using this⟩) h2
  have b := cnt_erase (p := fun _ => true) (n := n) hc rfl
  have d := cnt_le (fun _ => true) n
  omega
theorem MinD_same {n : Nat} {f g B B' : Nat → Nat} (hf : Bdy n f) (hg : Bdy n g) (h : MinD n f B) (h' : MinD n g B') (hn : n ≤ 10) : (∀ i, i < 40 → B i = B' i) ↔ Same n f g := by
  obtain ⟨⟨c, s, st, hc, hs, hst, e⟩, hm, h0⟩ := h
  obtain ⟨⟨c', s', st', hc', hs', hst', e'⟩, hm', h0'⟩ := h'
  constructor
  · intro heq
    obtain ⟨H, T, hI⟩ := cod_iso hf hg hst hst' hc hs hc' hs' (fun i hi => by rw [← e i hi, ← e' i hi, heq i (by omega)])
    exact ⟨H, T, _, by rcases hst with rfl | rfl <;> rcases hst' with rfl | rfl <;> simp, hI⟩
  · rintro ⟨H, T, ε, hε, hI⟩
    have k1 : ¬ lexlt (4 * n) B B' := by
      intro hl
      have hc2 := (hI.1 c hc).1
      refine hm' (H c) (im H T ε (4 * c + s) % 4) ((st * ε) % 4) hc2 (by omega) (by rcases hst with rfl | rfl <;> rcases hε with rfl | rfl <;> simp) ?_
      exact lex_congr (fun i hi => by rw [hI.cod hf hst hε hc hs i hi]; exact e i hi) (fun _ _ => rfl) hl
    have k2 : ¬ lexlt (4 * n) B' B := by
      intro hl
      obtain ⟨z, hz, rfl⟩ := inj_sur (fun i hi => (hI.1 i hi).1) hI.2.1 c' hc'
      have hT := (hI.1 z hz).2
      obtain ⟨w, hw, es, et⟩ : ∃ w, w < 4 ∧ im H T ε (4 * z + w) % 4 = s' ∧ (st' * ε % 4 * ε) % 4 = st' := by
        refine ⟨((s' + 4 - T z) * ε) % 4, by omega, ?_, by rcases hst' with rfl | rfl <;> rcases hε with rfl | rfl <;> rfl⟩
        have hlt : ((s' + 4 - T z) * ε) % 4 < 4 := by omega
        generalize hw : ((s' + 4 - T z) * ε) % 4 = w at hlt
        rw [(im_d H T ε _).2, show (4 * z + w) / 4 = z by omega, show (4 * z + w) % 4 = w by omega, ← hw]
        rcases hε with rfl | rfl <;> omega
      have q := hI.cod hf (st := st' * ε % 4) (by rcases hst' with rfl | rfl <;> rcases hε with rfl | rfl <;> simp) hε hz hw
      rw [et, es] at q
      refine hm z w (st' * ε % 4) hz hw (by rcases hst' with rfl | rfl <;> rcases hε with rfl | rfl <;> simp) ?_
      exact lex_congr (fun i hi => by rw [e' i hi, q i hi]) (fun _ _ => rfl) hl
    intro i hi
    by_cases z : i < 4 * n
    · exact lex_anti k1 k2 i z
    · rw [h0 i (by omega) hi, h0' i (by omega) hi]
/-! the class tells a body from a side -/
theorem subA4 {a b : Nat} (h : b ≤ a + 4) : nI a - nI b + 4 = nI (a + 4 - b) := by
  rw [← pk_sub h, ← nI_add, lit32 4]
  simp only [Int32.sub_eq_add_neg]
  rw [Int32.add_assoc, Int32.add_comm (-nI b), ← Int32.add_assoc]
def BA (σ : PS) (n : Nat) (b : BS) : Prop := (∀ z, z < n → mi σ 138 z = oI (b.1 z)) ∧ (∀ z, z < n → b.1 z ≠ none → mi σ 139 z = nI (b.2.1 z)) ∧ ∀ k, k < b.2.2.2 → mi σ 140 k = nI (b.2.2.1 k)
theorem BA.ch {σ s : PS} {n : Nat} {b : BS} {Pm Pl : Nat → Nat → Prop} (h : BA σ n b) (c : Ch Pm Pl σ s) (h1 : ∀ i, ¬ Pm 138 i) (h2 : ∀ i, ¬ Pm 139 i) (h3 : ∀ i, ¬ Pm 140 i) : BA s n b :=
  ⟨fun z hz => by rw [c.i (h1 z)]; exact h.1 z hz, fun z hz hn => by rw [c.i (h2 z)]; exact h.2.1 z hz hn, fun k hk => by rw [c.i (h3 k)]; exact h.2.2 k hk⟩
def AR (σ : PS) (B : Nat → Nat) : Prop := ∀ i, i < 40 → mi σ 141 i = nI (B i)
theorem AR.ch {σ s : PS} {B : Nat → Nat} {Pm Pl : Nat → Nat → Prop} (h : AR σ B) (c : Ch Pm Pl σ s) (h1 : ∀ i, ¬ Pm 141 i) : AR s B := fun i hi => by rw [c.i (h1 i)]; exact h i hi
theorem AR.set {σ : PS} {B : Nat → Nat} {i v : Nat} (h : AR σ B) : AR (si σ 141 i (nI v)) (fun j => if j = i then v else B j) := by
  intro j hj
  rw [mi_si]
  by_cases e : j = i
  · simp [e]
  · simp [e]; exact h j hj
abbrev chD : Nat → Nat → Prop := fun a _ => a = 138 ∨ a = 139 ∨ a = 140 ∨ a = 141
/-- what best holds behind one more telling -/
def BT (n : Nat) (C B : Nat → Nat) (s : PS) : Prop := (lexlt (4 * n) C B ∧ AR s (fun i => if i < 4 * n then C i else B i)) ∨ (¬ lexlt (4 * n) C B ∧ AR s B)
theorem oI_inj {o : Option Nat} {n : Nat} (h : ∀ k, o = some k → k < n) (hn : n < 1000) : (oI o = -1) = (o = none) := oI_m1 h hn
theorem dF_tail {g : GV} {d n c s st i : Nat} {l5 : Int32} {f B : Nat → Nat} {P : PS → Prop} {τ : PS} (hL : Lay τ) (hn : n ≤ 10) (hB : Bdy n f) (hst : st = 1 ∨ st = 3) (hc : c < n) (hs : s < 4) (hi : i < 4 * n) (hb : BA τ n (brn f st c s (i + 1))) (hA : AR τ (fun j => if j < i then cod f st c s j else B j)) (h40 : ∀ j, j < 40 → B j ≤ 40) (h5 : (l5 = 0 ∧ ∀ j, j < i → B j = cod f st c s j) ∨ (l5 = 1 ∧ lexlt i (cod f st c s) B)) (k2 k3 : Nat) (hk2 : k2 = f (bpl st (brn f st c s i) i) / 4) (hk3 : k3 = f (bpl st (brn f st c s i) i) % 4)
    (hend : ¬ lexlt (4 * n) (cod f st c s) B → AR τ B → P τ)
    (hgo : ∀ l5' s', ((l5' = 0 ∧ ∀ j, j < i + 1 → B j = cod f st c s j) ∨ (l5' = 1 ∧ lexlt (i + 1) (cod f st c s) B)) → AR s' (fun j => if j < i + 1 then cod f st c s j else B j) → Ch chD noL τ s' → BA s' n (brn f st c s (i + 1)) → VX1_describeFrom g (d + 1) P 38 [some (.ref 133), none, none, some (.int (nI st)), some (.int (nI (brn f st c s (i + 1)).2.2.2)), some (.int l5'), some (.int (nI (i + 1))), none, none, none, none, none] [] s') :
    VX1_describeFrom g (d + 1) P 160 [some (.ref 133), none, none, some (.int (nI st)), some (.int (nI (brn f st c s (i + 1)).2.2.2)), some (.int l5), some (.int (nI i)), none, none, some (.int (nI k2)), some (.int (nI k3)), none] [] τ := by
  obtain ⟨b1, b2, b3⟩ := id hb
  obtain ⟨h1, h2, -⟩ := brn_ok hB hst hc hs i (by omega)
  obtain ⟨h1', -, -⟩ := brn_ok hB hst hc hs (i + 1) (by omega)
  have ht := hB.1 _ (bpl_lt (st := st) h1 (h2 hi))
  have hcl := cod_lt hB hst hc hs hi
  have hce : cod f st c s i = ben (brn f st c s (i + 1)) st (f (bpl st (brn f st c s i) i)) := rfl
  obtain ⟨k, hk⟩ := bad_has (brn f st c s i) (f (bpl st (brn f st c s i) i))
  rw [← brn_s] at hk
  have hfs := h1'.fs hk
  have hkl := (h1'.2.2 _ k hk).1
  have hle := h1'.le
  rw [← hk2] at hk hfs
  have v1 := b1 k2 (by omega)
  have v2 := b2 k2 (by omega) (by rw [hk]; simp)
  rw [hk] at v1
  have ent : (mi τ 138 k2 * 4) + jrem ((nI k3 - mi τ 139 k2 + 4) * nI st) 4 = nI (cod f st c s i) := by
    rw [v1, v2, subA4 (by omega), pk_mul, lit32 4, zREM (by rcases hst with rfl | rfl <;> omega) (by omega) (by omega)]
    show nI k * nI 4 + _ = _
    rw [pk_mul, nI_add, hce]
    unfold ben
    rw [← hk2, ← hk3, hk, Option.getD_some, Nat.mul_comm k 4]
  have hBi := hA i (by omega)
  simp only [Nat.lt_irrefl, if_false] at hBi
  have hB40 := h40 i (by omega)
  have put : ∀ s', s' = si τ 141 i (nI (cod f st c s i)) → AR s' (fun j => if j < i + 1 then cod f st c s j else B j) ∧ Ch chD noL τ s' ∧ BA s' n (brn f st c s (i + 1)) := by
    intro s' e
    have c1 : Ch (fun a k => a = 141) noL τ s' := by rw [e]; exact Ch.rf.si rfl
    refine ⟨fun j hj => ?_, c1.mono (fun a k h => Or.inr (Or.inr (Or.inr h))) (fun _ _ h => h), hb.ch c1 (by omega) (by omega) (by omega)⟩
    rw [e, AR.set hA j hj]
    simp only
    by_cases e1 : j = i
    · rw [if_pos e1, if_pos (by omega), e1]
    · rw [if_neg e1]
      by_cases e2 : j < i
      · rw [if_pos e2, if_pos (by omega)]
      · rw [if_neg e2, if_neg (by omega)]
  refine vcX1_describeFrom_160 hL _ _ _ _ _ _ ?_
  rw [zIN (by omega) (by omega), zCL (by omega), zIN (by omega) (by omega), zCL (by omega), hBi]
  refine ⟨by omega, by omega, fun x37 e37 => ?_⟩
  rw [ent] at e37
  rw [e37, zLE (by omega) (by omega), zLE (by omega) (by omega)]
  rcases h5 with ⟨e5, hq⟩ | ⟨e5, hq⟩
  · refine ⟨fun h => absurd e5 h, fun _ => ⟨by omega, fun hle2 => ⟨fun h => absurd e5 h, fun _ => ⟨by omega, fun hge => ⟨by omega, fun s63 e63 x65 e65 => ?_⟩, fun hlt => ⟨by omega, fun s68 e68 x70 e70 => ?_⟩⟩⟩, fun hgt => ?_⟩⟩
    · obtain ⟨p1, p2, p3⟩ := put s63 e63
      rw [inc e65]
      refine hgo 0 s63 (Or.inl ⟨rfl, fun j hj => ?_⟩) p1 p2 p3
      by_cases e : j = i
      · subst e; omega
      · exact hq j (by omega)
    · obtain ⟨p1, p2, p3⟩ := put s68 e68
      rw [inc e70]
      exact hgo 1 s68 (Or.inr ⟨rfl, i, by omega, by omega, fun j hj => (hq j hj).symm⟩) p1 p2 p3
    · refine hend (lex_no (i := i) (fun j hj => hq j hj) (by omega)) (fun j hj => ?_)
      rw [hA j hj]
      simp only
      by_cases e : j < i
      · rw [if_pos e, hq j e]
      · rw [if_neg e]
  · refine ⟨fun _ => ⟨fun _ => ⟨by omega, fun s40 e40 x42 e42 => ?_⟩, fun h => absurd (e5.symm.trans h) (by decide)⟩, fun h => absurd (e5.symm.trans h) (by decide)⟩
    obtain ⟨p1, p2, p3⟩ := put s40 e40
    rw [inc e42]
    obtain ⟨j, j1, j2, j3⟩ := hq
    exact hgo 1 s40 (Or.inr ⟨rfl, j, by omega, j2, j3⟩) p1 p2 p3
theorem dF_loop {g : GV} {d n c s st : Nat} {f B : Nat → Nat} {P : PS → Prop} {σ : PS} (hL : Lay σ) (hD : BD σ 134 n f) (hB : Bdy n f) (hst : st = 1 ∨ st = 3) (hc : c < n) (hs : s < 4) (h40 : ∀ j, j < 40 → B j ≤ 40) (hP : ∀ s', BT n (cod f st c s) B s' → Ch chD noL σ s' → P s') :
    ∀ (z i : Nat) (l5 : Int32) (τ : PS), z = 4 * n - i → i ≤ 4 * n → Ch chD noL σ τ → BA τ n (brn f st c s i) → AR τ (fun j => if j < i then cod f st c s j else B j) → ((l5 = 0 ∧ ∀ j, j < i → B j = cod f st c s j) ∨ (l5 = 1 ∧ lexlt i (cod f st c s) B)) →
      VX1_describeFrom g (d + 1) P 38 [some (.ref 133), none, none, some (.int (nI st)), some (.int (nI (brn f st c s i).2.2.2)), some (.int l5), some (.int (nI i)), none, none, none, none, none] [] τ := by
  have hn := hD.2.1
  intro z
  induction z with
  | zero =>
    intro i l5 τ hz hi cτ hb hA h5
    have : i = 4 * n := by omega
    subst this
    have h0 : mi τ 134 0 = nI n := by rw [cτ.i (by omega)]; exact hD.1
    refine vcX1_describeFrom_38 (cτ.lay hL) _ _ _ _ ⟨fun _ => hP τ ?_ cτ, fun h => absurd (by rw [h0, lit32 4, pk_mul, zLE (by omega) (by omega)]; omega) h⟩
    rcases h5 with ⟨-, hq⟩ | ⟨-, hq⟩
    · refine Or.inr ⟨lex_irr (fun i hi => (hq i hi).symm), fun i hi => ?_⟩
      rw [hA i hi]
      simp only
      by_cases e : i < 4 * n
      · rw [if_pos e, hq i e]
      · rw [if_neg e]
    · exact Or.inl ⟨hq, hA⟩
  | succ z ih =>
    intro i l5 τ hz hi cτ hb hA h5
    have hLτ := cτ.lay hL
    have h0 : mi τ 134 0 = nI n := by rw [cτ.i (by omega)]; exact hD.1
    obtain ⟨b1, b2, b3⟩ := id hb
    obtain ⟨h1, h2, -⟩ := brn_ok hB hst hc hs i (by omega)
    have h2' := h2 (by omega)
    have hle := h1.le
    have hpl := bpl_lt (st := st) h1 h2'
    have ht := hB.1 _ hpl
    obtain ⟨o1, o2, o3⟩ := h1.2.1 (i / 4) h2'
    have w1 := b3 (i / 4) h2'
    have w2 := b2 _ o1 (by rw [o2]; simp)
    obtain ⟨-, d1, d2⟩ := hD.2.2 (bpl st (brn f st c s i) i) hpl
    have d1' : mi τ 135 (bpl st (brn f st c s i) i) = nI (f (bpl st (brn f st c s i) i) / 4) := by rw [cτ.i (by omega)]; exact d1
    have d2' : mi τ 136 (bpl st (brn f st c s i) i) = nI (f (bpl st (brn f st c s i) i) % 4) := by rw [cτ.i (by omega)]; exact d2
    have hnum := b1 (f (bpl st (brn f st c s i) i) / 4) (by omega)
    refine vcX1_describeFrom_38 hLτ _ _ _ _ ⟨fun h => ?_, fun _ => ⟨fun h => ?_, fun _ => ?_⟩⟩
    · rw [h0, lit32 4, pk_mul, zLE (by omega) (by omega)] at h
      omega
    · rw [lit32 4, zDIV (by omega) (by omega) (by omega), zLE (by omega) (by omega)] at h
      omega
    · rw [lit32 4, zDIV (by omega) (by omega) (by omega), zIN (by omega) (by omega), zCL (by omega), w1]
      refine ⟨by omega, fun x12 e12 => ?_⟩
      rw [e12, zIN (by omega) (by omega), zCL (by omega), w2, zREM (by omega) (by omega) (by omega), pk_mul, pk_mul, nI_add, zREM (by rcases hst with rfl | rfl <;> omega) (by omega) (by omega), nI_add]
      refine ⟨by omega, fun x15 e15 => ?_⟩
      have e15' : x15 = nI (bpl st (brn f st c s i) i) := by
        rw [e15]
        unfold bpl
        rw [Nat.mul_comm 4]
      rw [e15', zIN (by omega) (by omega), zCL (by omega), d1', d2']
      refine ⟨by omega, fun x18 e18 => ⟨by omega, fun x21 e21 => ?_⟩⟩
      rw [e18, e21, zIN (by omega) (by omega), zCL (by omega), hnum, oI_m1 (n := 11) (fun k hk => by have := (h1.2.2 _ k hk).1; omega) (by omega)]
      have go2 : ∀ (s' : PS), Ch chD noL σ s' → BA s' n (brn f st c s (i + 1)) → AR s' (fun j => if j < i then cod f st c s j else B j) → VX1_describeFrom g (d + 1) P 160 [some (.ref 133), none, none, some (.int (nI st)), some (.int (nI (brn f st c s (i + 1)).2.2.2)), some (.int l5), some (.int (nI i)), none, none, some (.int (nI (f (bpl st (brn f st c s i) i) / 4))), some (.int (nI (f (bpl st (brn f st c s i) i) % 4))), none] [] s' := by
        intro s' cs hb' hA'
        refine dF_tail (cs.lay hL) hn hB hst hc hs (by omega) hb' hA' h40 h5 _ _ rfl rfl (fun h hA2 => hP s' (Or.inr ⟨h, hA2⟩) cs) (fun l5' s2 q1 q2 q3 q4 => ?_)
        exact ih (i + 1) l5' s2 (by omega) (by omega) (cs.trans q3) q4 q2 q1
      refine ⟨by omega, fun hno => ?_, fun hno => ⟨by omega, fun s25 e25 => ⟨by omega, fun s28 e28 => ⟨?_, fun s31 e31 x33 e33 => ?_⟩⟩⟩⟩
      · obtain ⟨k, hk⟩ := Option.ne_none_iff_exists'.mp hno
        have es : brn f st c s (i + 1) = brn f st c s i := by rw [brn_s, bad_s hk]
        have := go2 τ cτ (by rw [es]; exact hb) hA
        rw [es] at this
        exact this
      · have hlt : (brn f st c s i).2.2.2 < n := by
          refine Nat.lt_of_not_le (fun hge => ?_)
          obtain ⟨j, hj, e⟩ := inj_sur (n := n) (H := (brn f st c s i).2.2.1) (fun j hj => (h1.2.1 j (by omega)).1) (fun a b ha hb e => by
            have q := (h1.2.1 a (by omega)).2.1
            rw [e, (h1.2.1 b (by omega)).2.1] at q
            exact (Option.some.inj q).symm) (f (bpl st (brn f st c s i) i) / 4) (by omega)
          have q := (h1.2.1 j (by omega)).2.1
          rw [e, hno] at q
          cases q
        rw [zIN (by omega) (by omega)]
        omega
      · have es : brn f st c s (i + 1) = bnw (brn f st c s i) (f (bpl st (brn f st c s i) i)) := by rw [brn_s, bad_n hno]
        rw [zCL (by omega)] at e31
        have c31 : Ch chD noL τ s31 := by rw [e31, e28, e25]; exact ((Ch.rf.si (Or.inl rfl)).si (Or.inr (Or.inl rfl))).si (Or.inr (Or.inr (Or.inl rfl)))
        have := go2 s31 (cτ.trans c31) ?_ ?_
        · rw [inc e33]
          rw [es] at this
          exact this
        · rw [es]
          refine ⟨fun z hz => ?_, fun z hz hne => ?_, fun k hk => ?_⟩
          · show _ = oI (if z = f (bpl st (brn f st c s i) i) / 4 then some (brn f st c s i).2.2.2 else (brn f st c s i).1 z)
            rw [e31, mi_si, if_neg (by omega), e28, mi_si, if_neg (by omega), e25, mi_si]
            by_cases e : z = f (bpl st (brn f st c s i) i) / 4
            · rw [if_pos ⟨rfl, e⟩, if_pos e]; rfl
            · rw [if_neg (fun q => e q.2), if_neg e]; exact b1 z hz
          · show _ = nI (if z = f (bpl st (brn f st c s i) i) / 4 then f (bpl st (brn f st c s i) i) % 4 else (brn f st c s i).2.1 z)
            rw [e31, mi_si, if_neg (by omega), e28, mi_si]
            by_cases e : z = f (bpl st (brn f st c s i) i) / 4
            · rw [if_pos ⟨rfl, e⟩, if_pos e]
            · rw [if_neg (fun q => e q.2), if_neg e, e25, mi_si, if_neg (by omega)]
              refine b2 z hz (fun w => hne ?_)
              exact (if_neg e).trans w
          · show _ = nI (if k = (brn f st c s i).2.2.2 then f (bpl st (brn f st c s i) i) / 4 else (brn f st c s i).2.2.1 k)
            have hk' : k < (brn f st c s i).2.2.2 + 1 := hk
            rw [e31, mi_si]
            by_cases e : k = (brn f st c s i).2.2.2
            · rw [if_pos ⟨rfl, e⟩, if_pos e]
            · rw [if_neg (fun q => e q.2), if_neg e, e28, mi_si, if_neg (by omega), e25, mi_si, if_neg (by omega)]
              exact b3 k (by omega)
        · intro j hj
          rw [e31, mi_si, if_neg (by omega), e28, mi_si, if_neg (by omega), e25, mi_si, if_neg (by omega)]
          exact hA j hj
theorem sp_describeFrom {g : GV} {d n c s st : Nat} {f B : Nat → Nat} {σ : PS} (hL : Lay σ) (hD : BD σ 134 n f) (hB : Bdy n f) (hst : st = 1 ∨ st = 3) (hc : c < n) (hs : s < 4) (h40 : ∀ j, j < 40 → B j ≤ 40) (hA : AR σ B) :
    CX1_describeFrom g (d + 1) [.ref 133, .int (nI c), .int (nI s), .int (nI st)] σ (fun s' => BT n (cod f st c s) B s' ∧ Ch chD noL σ s') := by
  have hn := hD.2.1
  refine vcX1_describeFrom hL _ _ _ (Ct.imp (sp_fill hL (kd_138 hL) (by omega)) (fun r s1 w => ?_))
  obtain ⟨rfl, hf, c1⟩ := w
  have c1' : Ch chD noL σ s1 := c1.mono (fun a k h => Or.inl h.1) (fun _ _ h => h)
  rw [zIN (by omega) (by omega), zCL (by omega)]
  refine ⟨rfl, c1.fr, by omega, fun s4 e4 => ⟨by omega, fun s7 e7 s9 e9 => ?_⟩⟩
  rw [show Int32.toNatClampNeg 0 = 0 from rfl] at e9
  have c9 : Ch chD noL σ s9 := c1'.trans (by rw [e9, e7, e4]; exact ((Ch.rf.si (Or.inl rfl)).si (Or.inr (Or.inl rfl))).si (Or.inr (Or.inr (Or.inl rfl))))
  refine dF_loop (f := f) (B := B) hL hD hB hst hc hs h40 (fun s' q1 q2 => ⟨q1, q2⟩) (4 * n) 0 0 s9 rfl (by omega) c9 ⟨fun z hz => ?_, fun z hz hne => ?_, fun k hk => ?_⟩ (fun j hj => ?_) (Or.inl ⟨rfl, fun j hj => absurd hj (by omega)⟩)
  · show _ = oI (if z = c then some 0 else none)
    rw [e9, mi_si, if_neg (by omega), e7, mi_si, if_neg (by omega), e4, mi_si]
    by_cases e : z = c
    · rw [if_pos ⟨rfl, e⟩, if_pos e]; rfl
    · rw [if_neg (fun q => e q.2), if_neg e]; exact hf z (by omega)
  · show _ = nI s
    have : z = c := by
      refine Classical.byContradiction (fun e => hne ?_)
      show (if z = c then some 0 else none) = none
      rw [if_neg e]
    rw [e9, mi_si, if_neg (by omega), e7, mi_si, if_pos ⟨rfl, this⟩]
  · show _ = nI c
    have : k < 1 := hk
    rw [e9, mi_si, if_pos ⟨rfl, by omega⟩]
  · show _ = nI (if j < 0 then _ else B j)
    rw [if_neg (by omega), e9, mi_si, if_neg (by omega), e7, mi_si, if_neg (by omega), e4, mi_si, if_neg (by omega), c1.i (by omega)]
    exact hA j hj
