/-! ===== SAME is an equivalence; the least GLUING of the SAME body; the class's Bodies ===== -/
theorem Same.rf {n : Nat} {f : Nat → Nat} (hf : ∀ q, q < 4 * n → f q < 4 * n) : Same n f f := by
  refine ⟨fun c => c, fun _ => 0, 1, Or.inl rfl, fun c hc => ⟨hc, Nat.succ_pos 3⟩, fun a b _ _ h => h, fun q hq => ?_⟩
  have e : ∀ p, im (fun c => c) (fun _ => 0) 1 p = p := fun p => by unfold im; dsimp only; omega
  rw [e, e]
theorem Same.trans {n : Nat} {f g h : Nat → Nat} (hf : ∀ q, q < 4 * n → f q < 4 * n) (a : Same n f g) (b : Same n g h) : Same n f h := by
  obtain ⟨H, T, ε, hε, h1, h2, h3⟩ := a
  obtain ⟨K, U, δ, hδ, k1, k2, k3⟩ := b
  have e : ∀ q, im K U δ (im H T ε q) = im (fun c => K (H c)) (fun c => (U (H c) + δ * T c) % 4) ((ε * δ) % 4) q := by
    intro q
    obtain ⟨d1, d2⟩ := im_d H T ε q
    unfold im at d1 d2 ⊢
    rw [d1, d2]
    dsimp only
    rcases hε with rfl | rfl <;> rcases hδ with rfl | rfl <;> omega
  refine ⟨fun c => K (H c), fun c => (U (H c) + δ * T c) % 4, (ε * δ) % 4, by rcases hε with rfl | rfl <;> rcases hδ with rfl | rfl <;> simp, fun c hc => ⟨(k1 _ (h1 c hc).1).1, Nat.mod_lt _ (by decide)⟩, fun x y hx hy e2 => h2 x y hx hy (k2 _ _ (h1 x hx).1 (h1 y hy).1 e2), fun q hq => ?_⟩
  rw [← e, ← e, h3 q hq, k3 _ (im_lt h1 hq)]
theorem Same.symm {n : Nat} {f g : Nat → Nat} (hf : ∀ q, q < 4 * n → f q < 4 * n) (hg : ∀ q, q < 4 * n → g q < 4 * n) (a : Same n f g) : Same n g f := by
  obtain ⟨H, T, ε, hε, h1, h2, h3⟩ := a
  have hK : ∀ c, c < n → ∃ i, fnd (fun i => H i == c) n = some i ∧ i < n ∧ H i = c := by
    intro c hc
    obtain ⟨i, hi, e⟩ := inj_sur (fun i hi => (h1 i hi).1) h2 c hc
    obtain ⟨j, a1, a2, a3⟩ := fnd_ex (p := fun i => H i == c) hi (by simpa using e)
    exact ⟨j, a1, a2, by simpa using a3⟩
  have fwd : ∀ p, p < 4 * n → im (fun c => (fnd (fun i => H i == c) n).getD 0) (fun c => (ε * (4 - T ((fnd (fun i => H i == c) n).getD 0))) % 4) ε p < 4 * n ∧ im H T ε (im (fun c => (fnd (fun i => H i == c) n).getD 0) (fun c => (ε * (4 - T ((fnd (fun i => H i == c) n).getD 0))) % 4) ε p) = p := by
    intro p hp
    obtain ⟨i, a1, a2, a3⟩ := hK (p / 4) (by omega)
    have hT := (h1 i a2).2
    unfold im
    simp only [a1, Option.getD_some]
    refine ⟨by omega, ?_⟩
    have d1 : (4 * i + ((ε * (4 - T i)) % 4 + ε * (p % 4)) % 4) / 4 = i := by omega
    have d2 : (4 * i + ((ε * (4 - T i)) % 4 + ε * (p % 4)) % 4) % 4 = ((ε * (4 - T i)) % 4 + ε * (p % 4)) % 4 := by omega
    rw [d1, d2, a3]
    rcases hε with rfl | rfl <;> omega
  have imj : ∀ a b, a < 4 * n → b < 4 * n → im H T ε a = im H T ε b → a = b := by
    intro a b ha hb e
    obtain ⟨d1, d2⟩ := im_d H T ε a
    obtain ⟨e1, e2⟩ := im_d H T ε b
    rw [e] at d1 d2
    have := h2 (a / 4) (b / 4) (by omega) (by omega) (d1.symm.trans e1)
    rw [this] at d2
    rcases hε with rfl | rfl <;> omega
  refine ⟨fun c => (fnd (fun i => H i == c) n).getD 0, fun c => (ε * (4 - T ((fnd (fun i => H i == c) n).getD 0))) % 4, ε, hε, fun c hc => ?_, fun c d hc hd e => ?_, fun p hp => ?_⟩
  · obtain ⟨i, a1, a2, a3⟩ := hK c hc
    exact ⟨by simp only [a1, Option.getD_some]; exact a2, by show (ε * (4 - T ((fnd (fun i => H i == c) n).getD 0))) % 4 < 4; omega⟩
  · obtain ⟨i, a1, -, a3⟩ := hK c hc
    obtain ⟨j, b1, -, b3⟩ := hK d hd
    simp only [a1, b1, Option.getD_some] at e
    subst e
    exact a3.symm.trans b3
  · obtain ⟨u1, u2⟩ := fwd p hp
    obtain ⟨v1, v2⟩ := fwd (g p) (hg p hp)
    refine imj _ _ v1 (hf _ u1) ?_
    rw [v2, h3 _ u1, u2]
/-- the body of the k-th GLUING -/
def fT (n : Nat) (x y : Nat → Nat) (E : Nat) (T : List Mat) (k : Nat) : Nat → Nat := bdy n x y E (mt ((T[k]?).getD (fun _ => none)))
theorem fT_is {n : Nat} {x y : Nat → Nat} {E k : Nat} {T : List Mat} {m : Mat} (h : T[k]? = some m) : fT n x y E T k = bdy n x y E (mt m) := by unfold fT; rw [h]; rfl
/-- j is the least GLUING whose body is the SAME as the k-th's -/
def LSm (n : Nat) (x y : Nat → Nat) (E : Nat) (T : List Mat) (k j : Nat) : Prop := j ≤ k ∧ Same n (fT n x y E T j) (fT n x y E T k) ∧ ∀ i, i < j → ¬ Same n (fT n x y E T i) (fT n x y E T k)
theorem LSm.uniq {n : Nat} {x y : Nat → Nat} {E k i j : Nat} {T : List Mat} (h : LSm n x y E T k i) (h' : LSm n x y E T k j) : i = j := by
  rcases Nat.lt_trichotomy i j with z | z | z
  · exact absurd h.2.1 (h'.2.2 i z)
  · exact z
  · exact absurd h'.2.1 (h.2.2 j z)
theorem get_ex {T : List Mat} {k : Nat} (h : k < T.length) : ∃ m, T[k]? = some m := ⟨T[k], List.getElem?_eq_getElem h⟩
theorem gls_at {E k : Nat} {q : Nat → Nat} {m : Mat} (h : (gls E q)[k]? = some m) : FM E q m := gls_FM (List.mem_of_getElem? h)
theorem fT_bd {n : Nat} {x y : Nat → Nat} {E k : Nat} {q : Nat → Nat} (hV : VF n x y E) (hH : itr n x y n = 2 ^ n - 1) (hk : k < (gls E q).length) : Bdy n (fT n x y E (gls E q) k) := by
  obtain ⟨m, hm⟩ := get_ex hk
  have hM := gls_at hm
  rw [fT_is hm]
  exact bdy_con hV (hM.inv.mt hM.full) hH
/-- what the class holds of the k-th description -/
def DK (σ : PS) (n : Nat) (f : Nat → Nat) (row : Nat) : Prop := ∃ B, MinD n f B ∧ (∀ j, j < 40 → B j < 64) ∧ DR σ row B
theorem sp_equalK {g : GV} {d n r1 r2 : Nat} {f h : Nat → Nat} {σ : PS} (hL : Lay σ) (hn : n ≤ 10) (h1 : r1 < 302) (h2 : r2 < 302) (hf : Bdy n f) (hh : Bdy n h) (hD : DK σ n f r1) (hD' : DK σ n h r2) :
    CX1_equal g d [.ref 133, .int (nI r1), .int (nI r2)] σ (fun v s => SmR n f h v ∧ s = σ) := by
  obtain ⟨B, b1, b2, b3⟩ := hD
  obtain ⟨B', c1, c2, c3⟩ := hD'
  refine Ct.imp (sp_equal1 hL h1 h2 b2 c2 b3 c3) (fun r s w => ?_)
  obtain ⟨v, rfl, hv, rfl⟩ := w
  refine ⟨_, rfl, ?_, rfl⟩
  have key := MinD_same hf hh b1 c1 hn
  by_cases e : eqB B B' = true
  · rw [if_pos e] at hv
    exact Or.inl ⟨hv, key.mp (eqB_is.mp e)⟩
  · rw [if_neg e] at hv
    exact Or.inr ⟨hv, fun hs => e (eqB_is.mpr (key.mpr hs))⟩
theorem sp_areAlike {g : GV} {d n E k1 k2 : Nat} {x y : Nat → Nat} {q : Nat → Nat} {σ : PS} (hL : Lay σ) (hF : FF σ 20 n x y E) (hV : VF n x y E) (hH : itr n x y n = 2 ^ n - 1) (hT : EC σ E (gls E q)) (hlen : (gls E q).length ≤ 2000) (h1 : k1 < (gls E q).length) (h2 : k2 < (gls E q).length) :
    CX1_areAlike g (d + 3) [.ref 133, .int (nI k1), .int (nI k2)] σ (fun v s => SmR n (fT n x y E (gls E q) k1) (fT n x y E (gls E q) k2) v ∧ Ch chDs (fun a k => a = 142 ∧ 1200 ≤ k) σ s) := by
  obtain ⟨m1, e1⟩ := get_ex h1
  obtain ⟨m2, e2⟩ := get_ex h2
  refine vcX1_areAlike hL _ _ (Ct.imp (sp_describe (d := d) (row := 300) hL hF hV hH hT (by omega) e1 (gls_at e1) (by omega)) (fun r s1 w => ?_))
  obtain ⟨rfl, B1, b1, b2, b3, c1⟩ := w
  have hL1 := c1.lay hL
  have hF1 := hF.ch c1 (fun a i h1 h2 => by unfold chDs; omega)
  have hT1 := hT.ch c1 (by unfold chDs; omega) (by unfold chDs; omega) (fun i => by unfold chDs; omega)
  refine ⟨rfl, c1.fr, Ct.imp (sp_describe (d := d) (row := 301) hL1 hF1 hV hH hT1 (by omega) e2 (gls_at e2) (by omega)) (fun r s3 w => ?_)⟩
  obtain ⟨rfl, B2, d1, d2, d3, c3⟩ := w
  have hL3 := c3.lay hL1
  have b3' := b3.ch c3 (fun i hi => by unfold rowL; omega)
  rw [← fT_is (n := n) (x := x) (y := y) (E := E) e1] at b1
  rw [← fT_is (n := n) (x := x) (y := y) (E := E) e2] at d1
  refine ⟨rfl, c3.fr, Ct.imp (sp_equalK (d := d + 2) (r1 := 300) (r2 := 301) hL3 hV.2.1 (by decide) (by decide) (fT_bd hV hH h1) (fT_bd hV hH h2) ⟨B1, b1, b2, b3'⟩ ⟨B2, d1, d2, d3⟩) (fun r s5 w => ?_)⟩
  obtain ⟨v, rfl, hv, rfl⟩ := w
  refine ⟨_, rfl, Fr.rf, ?_, hv, (c1.mono (fun _ _ h => h) (fun a k h => by unfold rowL at h; omega)).trans (c3.mono (fun _ _ h => h) (fun a k h => by unfold rowL at h; omega))⟩
  rcases hv with ⟨rfl, -⟩ | ⟨rfl, -⟩
  · exact Or.inr rfl
  · exact Or.inl rfl
theorem sp_firstEqual {g : GV} {d n E k : Nat} {x y : Nat → Nat} {q : Nat → Nat} {σ : PS} (hL : Lay σ) (hV : VF n x y E) (hH : itr n x y n = 2 ^ n - 1) (hk : k < (gls E q).length) (hk3 : k < 300) (hD : ∀ i, i ≤ k → DK σ n (fT n x y E (gls E q) i) i) :
    CX1_firstEqual g (d + 1) [.ref 133, .int (nI k)] σ (fun v s => ∃ j, v = nI j ∧ LSm n x y E (gls E q) k j ∧ s = σ) := by
  have loop : ∀ (z i : Nat), z = k - i → i ≤ k → (∀ j, j < i → ¬ Same n (fT n x y E (gls E q) j) (fT n x y E (gls E q) k)) → VX1_firstEqual g (d + 1) (fun v s => ∃ j, v = nI j ∧ LSm n x y E (gls E q) k j ∧ s = σ) 2 [some (.ref 133), some (.int (nI k)), some (.int (nI i))] [] σ := by
    intro z
    induction z with
    | zero =>
      intro i hz hi hq
      have : i = k := by omega
      subst this
      exact vcX1_firstEqual_2 hL _ _ ⟨fun _ => ⟨i, rfl, ⟨Nat.le_refl _, Same.rf (fT_bd hV hH hk).1, hq⟩, rfl⟩, fun h => absurd (by rw [zLE (by omega) (by omega)]; omega) h⟩
    | succ z ih =>
      intro i hz hi hq
      refine vcX1_firstEqual_2 hL _ _ ⟨fun h => ?_, fun _ => ?_⟩
      · rw [zLE (by omega) (by omega)] at h
        omega
      · refine Ct.imp (sp_equalK hL hV.2.1 (show i < 302 by omega) (show k < 302 by omega) (fT_bd hV hH (by omega)) (fT_bd hV hH hk) (hD i (by omega)) (hD k (Nat.le_refl _))) (fun r s w => ?_)
        obtain ⟨v, rfl, hv, rfl⟩ := w
        refine ⟨_, rfl, Fr.rf, fun hne => ?_, fun he x3 e3 => ?_⟩
        · rcases hv with ⟨-, hs⟩ | ⟨rfl, -⟩
          · exact ⟨i, rfl, ⟨by omega, hs, hq⟩, rfl⟩
          · exact absurd rfl hne
        · rw [inc e3]
          refine ih (i + 1) (by omega) (by omega) (fun j hj => ?_)
          by_cases e : j = i
          · rw [e]
            rcases hv with ⟨rfl, -⟩ | ⟨-, hs⟩
            · exact absurd he (by decide)
            · exact hs
          · exact hq j (by omega)
  exact vcX1_firstEqual hL _ (loop k 0 rfl (Nat.zero_le _) (fun j hj => by omega))
/-- what the class knows of bodies when it has worked them out -/
def KB (σ : PS) (n : Nat) (x y : Nat → Nat) (E : Nat) (T : List Mat) : Prop := mi σ 133 10 = (if T.length ≤ 300 then 1 else 0) ∧ (T.length ≤ 300 → ∃ ℓ : Nat → Nat, (∀ k, k < T.length → LSm n x y E T k (ℓ k) ∧ mi σ 143 k = nI (ℓ k)) ∧ mi σ 133 11 = nI (cnt (fun k => ℓ k == k) T.length))
abbrev chKB : Nat → Nat → Prop := fun a i => chW5 a i ∨ chDs a i ∨ a = 143 ∨ a = 133 ∧ 9 ≤ i ∧ i ≤ 11
theorem sp_work1 {g : GV} {d n E : Nat} {x y : Nat → Nat} {q : Nat → Nat} {σ : PS} (hL : Lay σ) (hF : FF σ 20 n x y E) (hV : VF n x y E) (hH : itr n x y n = 2 ^ n - 1) (hq : ∀ i, i < E → q i ≤ 4) (h8 : ∀ i, i < E → mi σ 28 i = nI (q i)) (hk : ¬ mi σ 87 1 = 0 → EC σ E (gls E q)) (hkb : ¬ mi σ 133 9 = 0 → ¬ mi σ 87 1 = 0 ∧ KB σ n x y E (gls E q)) :
    CX1_work g (d + 26) [.ref 133] σ (fun v s => v = (if (gls E q).length ≤ 300 then 1 else 0) ∧ ¬ mi s 133 9 = 0 ∧ KB s n x y E (gls E q) ∧ EC s E (gls E q) ∧ ¬ mi s 87 1 = 0 ∧ Ch chKB (fun a _ => a = 142) σ s) := by
  have hE := hV.2.2.2.2.2.2
  generalize hT : gls E q = T at *
  generalize hP : (fun (v : Int32) (s : PS) => v = (if T.length ≤ 300 then 1 else 0) ∧ ¬ mi s 133 9 = 0 ∧ KB s n x y E T ∧ EC s E T ∧ ¬ mi s 87 1 = 0 ∧ Ch chKB (fun a _ => a = 142) σ s) = P
  refine vcX1_work hL ⟨fun h => ?_, fun h0 s2 e2 => ?_⟩
  · obtain ⟨k1, k2⟩ := hkb h
    have hh := k2.1
    rw [hh]
    refine ⟨by by_cases e : T.length ≤ 300 <;> simp [e], ?_⟩
    rw [← hP]
    exact ⟨rfl, h, k2, hk k1, k1, Ch.rf⟩
  · have c2 : Ch chKB (fun a _ => a = 142) σ s2 := by rw [e2]; exact Ch.rf.si (Or.inr (Or.inr (Or.inr ⟨rfl, by omega, by omega⟩)))
    have hL2 := c2.lay hL
    have u2 : ∀ a k, a ≠ 133 → mi s2 a k = mi σ a k := fun a k ha => by rw [e2, mi_si, if_neg (by omega)]
    have c2' : Ch (fun a i => a = 133 ∧ i = 9) noL σ s2 := by rw [e2]; exact Ch.rf.si ⟨rfl, rfl⟩
    have hF2 := hF.ch c2' (fun a i h1 h2 => by omega)
    refine Ct.imp (sp_work5 (d := d) hL2 hE hq (by rw [u2 _ _ (by omega)]; exact hF.2.1) (fun i hi => by rw [u2 _ _ (by omega)]; exact h8 i hi) (fun h => by rw [hT]; exact (hk (by rw [← u2 _ _ (by omega)]; exact h)).ch c2' (by omega) (by omega) (fun i => by omega))) (fun r s4 w => ?_)
    obtain ⟨rfl, hT4, h871, c4⟩ := w
    rw [hT] at hT4
    have c4' : Ch chKB (fun a _ => a = 142) σ s4 := c2.trans (c4.mono (fun a k h => Or.inl h) (fun _ _ h => h.elim))
    have hL4 := c4.lay hL2
    have hF4 := hF2.ch c4 (fun a i h1 h2 => by unfold chW5; omega)
    have h9 : mi s4 133 9 = 1 := by rw [c4.i (by unfold chW5; omega), e2, mi_si, if_pos ⟨rfl, rfl⟩]
    obtain ⟨t1, t2, t3⟩ := id hT4
    have no : 300 < T.length → ∀ s6, s6 = si s4 133 10 0 → ∀ s8, s8 = si s6 133 11 0 → VX1_work g (d + 26) P 58 [some (.ref 133), some (.int 0)] [] s8 := by
      intro hl s6 e6 s8 e8
      have c8 : Ch (fun a i => a = 133 ∧ (i = 10 ∨ i = 11)) noL s4 s8 := by rw [e8, e6]; exact (Ch.rf.si ⟨rfl, Or.inl rfl⟩).si ⟨rfl, Or.inr rfl⟩
      have v10 : mi s8 133 10 = 0 := by rw [e8, mi_si, if_neg (by omega), e6, mi_si, if_pos ⟨rfl, rfl⟩]
      refine vcX1_work_58 (c8.lay hL4) _ ⟨fun _ => ?_, fun h => absurd v10 h⟩
      rw [v10, ← hP]
      refine ⟨Or.inl rfl, by rw [if_neg (by omega)], by rw [c8.i (by omega), h9]; decide, ⟨by rw [v10, if_neg (by omega)], fun h => by omega⟩, hT4.ch c8 (by omega) (by omega) (fun i => by omega), by rw [c8.i (by omega)]; exact h871, c4'.trans (c8.mono (fun a k h => Or.inr (Or.inr (Or.inr ⟨h.1, by omega, by omega⟩))) (fun _ _ h => h.elim))⟩
    refine ⟨rfl, c4.fr, fun hm s6 e6 s8 e8 => ?_, fun hm => ⟨fun hgt s10 e10 s12 e12 => ?_, fun hle s14 e14 s16 e16 => ?_⟩⟩
    · rw [t2] at hm
      by_cases e : 2000 < T.length
      · exact no (by omega) s6 e6 s8 e8
      · rw [if_neg e] at hm; exact absurd rfl hm
    · rw [t1, lit32 300, zLT (by omega) (by omega)] at hgt
      exact no (by omega) s10 e10 s12 e12
    · rw [t2] at hm
      have hlen2 : T.length ≤ 2000 := by
        refine Nat.le_of_not_lt (fun e => ?_)
        rw [if_pos e] at hm
        exact absurd hm (by decide)
      rw [t1, lit32 300, zLT (by omega) (by omega)] at hle
      have hlen : T.length ≤ 300 := by omega
      have c16 : Ch (fun a i => a = 133 ∧ (i = 10 ∨ i = 11)) noL s4 s16 := by rw [e16, e14]; exact (Ch.rf.si ⟨rfl, Or.inl rfl⟩).si ⟨rfl, Or.inr rfl⟩
      have loop : ∀ (z i : Nat) (τ : PS) (ℓ : Nat → Nat), z = T.length - i → i ≤ T.length → Ch (fun a k => chDs a k ∨ a = 143 ∨ a = 133 ∧ k = 11) (fun a _ => a = 142) s16 τ → mi τ 133 10 = 1 → (∀ k, k < i → DK τ n (fT n x y E T k) k ∧ LSm n x y E T k (ℓ k) ∧ mi τ 143 k = nI (ℓ k)) → mi τ 133 11 = nI (cnt (fun k => ℓ k == k) i) → VX1_work g (d + 26) P 58 [some (.ref 133), some (.int (nI i))] [] τ := by
        intro z
        induction z with
        | zero =>
          intro i τ ℓ hz hi c h10 hK h11
          have : i = T.length := by omega
          subst this
          have hf : mi τ 87 3 = nI T.length := by rw [c.i (by unfold chDs; omega), c16.i (by omega), t1, Nat.min_eq_left (by omega)]
          refine vcX1_work_58 (c.lay (c16.lay hL4)) _ ⟨fun h => absurd (h10.symm.trans h) (by decide), fun _ => ⟨fun _ => ?_, fun h => absurd (by rw [hf, zLE (by omega) (by omega)]; omega) h⟩⟩
          rw [h10, ← hP]
          refine ⟨Or.inr rfl, by rw [if_pos hlen], by rw [c.i (by unfold chDs; omega), c16.i (by omega), h9]; decide, ⟨by rw [h10, if_pos hlen], fun _ => ⟨ℓ, fun k hk => (hK k hk).2, h11⟩⟩, (hT4.ch c16 (by omega) (by omega) (fun i => by omega)).ch c (by unfold chDs; omega) (by unfold chDs; omega) (fun i => by unfold chDs; omega), by rw [c.i (by unfold chDs; omega), c16.i (by omega)]; exact h871, ?_⟩
          exact (c4'.trans (c16.mono (fun a k h => Or.inr (Or.inr (Or.inr ⟨h.1, by omega, by omega⟩))) (fun _ _ h => h.elim))).trans (c.mono (fun a k h => by
            rcases h with h | h | h
            · exact Or.inr (Or.inl h)
            · exact Or.inr (Or.inr (Or.inl h))
            · exact Or.inr (Or.inr (Or.inr ⟨h.1, by omega, by omega⟩))) (fun _ _ h => h))
        | succ z ih =>
          intro i τ ℓ hz hi c h10 hK h11
          have hf : mi τ 87 3 = nI T.length := by rw [c.i (by unfold chDs; omega), c16.i (by omega), t1, Nat.min_eq_left (by omega)]
          have hLτ := c.lay (c16.lay hL4)
          obtain ⟨m, hm⟩ := get_ex (T := T) (show i < T.length by omega)
          have hFτ := (hF4.ch c16 (fun a i h1 h2 => by omega)).ch c (fun a i h1 h2 => by unfold chDs; omega)
          have hTτ := (hT4.ch c16 (by omega) (by omega) (fun i => by omega)).ch c (by unfold chDs; omega) (by unfold chDs; omega) (fun i => by unfold chDs; omega)
          have hMm : FM E q m := gls_at (by rw [hT]; exact hm)
          refine vcX1_work_58 hLτ _ ⟨fun h => absurd (h10.symm.trans h) (by decide), fun _ => ⟨fun h => ?_, fun _ => ?_⟩⟩
          · rw [hf, zLE (by omega) (by omega)] at h
            omega
          · refine Ct.imp (sp_describe (d := d + 23) hLτ hFτ hV hH hTτ (show i < 2000 by omega) hm hMm (show i < 302 by omega)) (fun r s20 w => ?_)
            obtain ⟨rfl, B, b1, b2, b3, c20⟩ := w
            rw [← fT_is (n := n) (x := x) (y := y) (E := E) hm] at b1
            have hL20 := c20.lay hLτ
            have hD20 : ∀ k, k ≤ i → DK s20 n (fT n x y E T k) k := by
              intro k hk'
              by_cases e : k = i
              · rw [e]; exact ⟨B, b1, b2, b3⟩
              · obtain ⟨B', d1, d2, d3⟩ := (hK k (by omega)).1
                exact ⟨B', d1, d2, d3.ch c20 (fun j hj => by unfold rowL; omega)⟩
            have hfe := sp_firstEqual (g := g) (d := d + 24) (q := q) hL20 hV hH (k := i) (by rw [hT]; omega) (by omega) (by rw [hT]; exact hD20)
            rw [hT] at hfe
            refine ⟨rfl, c20.fr, Ct.imp hfe (fun r s22 w => ?_)⟩
            obtain ⟨v, rfl, j, rfl, hj, rfl⟩ := w
            have hji := hj.1
            rw [zIN (by omega) (by omega), zCL (by omega)]
            refine ⟨_, rfl, Fr.rf, by omega, fun s25 e25 => ?_⟩
            have v25 : mi s25 143 i = nI j := by rw [e25, mi_si, if_pos ⟨rfl, rfl⟩]
            have c25 : Ch (fun a k => a = 143) noL s22 s25 := by rw [e25]; exact Ch.rf.si rfl
            have h11' : mi s25 133 11 = nI (cnt (fun k => ℓ k == k) i) := by rw [c25.i (by omega), c20.i (by unfold chDs; omega)]; exact h11
            have hci := cnt_le (fun k => ℓ k == k) i
            rw [v25, zEQ (by omega) (by omega), h11']
            have fin : ∀ s28 : PS, s28 = si s25 133 11 (nI (cnt (fun k => (if k = i then j else ℓ k) == k) (i + 1))) → ∀ x30 : Int32, x30 = nI i + 1 → VX1_work g (d + 26) P 58 [some (.ref 133), some (.int x30)] [] s28 := by
              intro s28 e28 x30 e30
              have c28 : Ch (fun a k => a = 133 ∧ k = 11) noL s25 s28 := by rw [e28]; exact Ch.rf.si ⟨rfl, rfl⟩
              rw [inc e30]
              refine ih (i + 1) s28 (fun k => if k = i then j else ℓ k) (by omega) (by omega) (((c.trans (c20.mono (fun a k h => Or.inl h) (fun a k h => by unfold rowL at h; omega))).trans (c25.mono (fun a k h => Or.inr (Or.inl h)) (fun _ _ h => h.elim))).trans (c28.mono (fun a k h => Or.inr (Or.inr h)) (fun _ _ h => h.elim))) ?_ (fun k hk' => ?_) ?_
              · rw [c28.i (by omega), c25.i (by omega), c20.i (by unfold chDs; omega)]; exact h10
              · have hd : DK s28 n (fT n x y E T k) k := by
                  obtain ⟨B', d1, d2, d3⟩ := hD20 k (by omega)
                  exact ⟨B', d1, d2, (d3.ch c25 (fun _ _ => id)).ch c28 (fun _ _ => id)⟩
                refine ⟨hd, ?_⟩
                by_cases e : k = i
                · subst e
                  rw [if_pos rfl]
                  exact ⟨hj, by rw [c28.i (by omega)]; exact v25⟩
                · rw [if_neg e]
                  refine ⟨(hK k (by omega)).2.1, ?_⟩
                  rw [c28.i (by omega), e25, mi_si, if_neg (by omega), c20.i (by unfold chDs; omega)]
                  exact (hK k (by omega)).2.2
              · rw [e28, mi_si, if_pos ⟨rfl, rfl⟩]
            have hcc : cnt (fun k => (if k = i then j else ℓ k) == k) i = cnt (fun k => ℓ k == k) i := cnt_congr (fun k hk' => by rw [if_neg (by omega)])
            rw [cnt_s, hcc, if_pos rfl] at fin
            refine ⟨by omega, fun hne s28 e28 x30 e30 => fin s28 ?_ x30 e30, fun heq s32 e32 x34 e34 => fin s32 ?_ x34 e34⟩
            · rw [e28, if_neg (by simpa using hne), inc0 rfl, Nat.add_zero]
            · rw [e32, if_pos (by simpa using heq), inc rfl]
      exact loop T.length 0 s16 (fun _ => 0) rfl (Nat.zero_le _) Ch.rf (by rw [e16, mi_si, if_neg (by omega), e14, mi_si, if_pos ⟨rfl, rfl⟩]) (fun k hk' => by omega) (by rw [e16, mi_si, if_pos ⟨rfl, rfl⟩]; rfl)
theorem sp_leastAlike {g : GV} {d n E k : Nat} {x y : Nat → Nat} {T : List Mat} {σ : PS} (hL : Lay σ) (hK : KB σ n x y E T) (hl : T.length ≤ 300) (hk : k < T.length) :
    CX1_leastAlike g d [.ref 133, .int (nI k)] σ (fun v s => ∃ j, v = nI j ∧ LSm n x y E T k j ∧ s = σ) := by
  obtain ⟨ℓ, h1, -⟩ := hK.2 hl
  refine vcX1_leastAlike hL _ ⟨fun h => ?_, fun _ => ⟨fun h => ?_, fun _ => ?_⟩⟩
  · rw [lit32 0, zLT (by omega) (by omega)] at h
    omega
  · rw [lit32 300, zLE (by omega) (by omega)] at h
    omega
  · rw [zIN (by omega) (by omega), zCL (by omega)]
    exact ⟨by omega, ℓ k, (h1 k hk).2, (h1 k hk).1, rfl⟩
