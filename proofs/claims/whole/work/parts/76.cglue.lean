/-! ===== the class's glue and choose ===== -/
theorem shS_good {E at' last : Nat} {q : Nat → Nat} {S : Nat → Mat} {m : Mat} (hG : GoodS E q S last) (hal : at' ≤ last) (hl : last ≤ 40) (hI : Inv E m) (h4 : A4 E (cl E m E) q) : GoodS E q (newS S at' m) (shD at') := by
  intro i hi
  unfold newS
  by_cases w : i = shD at'
  · rw [if_pos w]; exact ⟨hI, h4⟩
  · rw [if_neg w]
    unfold shS
    unfold shD at hi w
    by_cases w2 : at' = 40
    · rw [if_pos w2] at hi w ⊢
      exact hG (i + 1) (by omega)
    · rw [if_neg w2] at hi w ⊢
      exact hG i (by omega)
abbrev chGc : Nat → Nat → Prop := fun a i => chSt a i ∨ a = 38 ∧ (i = 1 ∨ i = 2) ∨ 40 ≤ a ∧ a ≤ 80 ∨ 84 ≤ a ∧ a ≤ 86 ∨ chW5 a i ∨ a = 91 ∨ a = 92
/-- like Ch, but for the rows' places -/
def ChG (σ s : PS) : Prop := FrL σ s ∧ (∀ a, a ≠ 39 → mr s a = mr σ a) ∧ (∀ a k, ¬ chGc a k → mi s a k = mi σ a k) ∧ ml s = ml σ
theorem ChG.of {σ s : PS} (hL : Lay σ) (h : Ch chGc noL σ s) : ChG σ s := ⟨h.1.l hL, fun a _ => by rw [h.1.2], h.2.1, by funext a k; exact h.2.2 a k (fun q => q)⟩
theorem ChG.trans {a b c : PS} (h : ChG a b) (k : ChG b c) : ChG a c := ⟨⟨k.1.1.trans h.1.1, k.1.2⟩, fun x w => (k.2.1 x w).trans (h.2.1 x w), fun x i w => (k.2.2.1 x i w).trans (h.2.2.1 x i w), k.2.2.2.trans h.2.2.2⟩
theorem ChA.g {σ s : PS} (h : ChA σ s) : ChG σ s := ⟨h.1, h.2.1, fun a k w => h.2.2.1 a k (fun z => w (by simp only [chGc]; omega)), h.2.2.2⟩
/-- settled behind a new act -/
theorem sp_newact {g : GV} {d n E at' last : Nat} {x y : Nat → Nat} {ρ : Nat → Nat} {S : Nat → Mat} {m : Mat} {τ : PS} (hL : Lay τ) (hV : VF n x y E) (hF : FF τ 20 n x y E) (hR : RowsA τ ρ) (h1 : mi τ 38 1 = nI (shD at')) (h2 : mi τ 38 2 = nI (shD at')) (hS : ∀ i, i < shD at' → MA τ (ρ i) 22 (shS S at' i)) (hM : MA τ (ρ (shD at')) 22 m) (hal : at' ≤ last) (hl : last ≤ 40) (hG : GoodS E (qt n x y E) S last) (hI : Inv E m) (h4 : A4 E (cl E m E) (qt n x y E)) :
    CX11_settle g (d + 2) [.ref 10] τ (fun s => CA s n x y E ρ (newS S at' m) (shD at') (shD at') ∧ mi s 144 3 = -1 ∧ mi s 149 1 = 0 ∧ Ch chSt noL τ s) := by
  refine sp_settleA (d := d) hL hV hF hR h1 h2 (fun i hi => ?_) (Nat.le_refl _) (shD_le (by omega)).2 (shS_good hG hal hl hI h4)
  by_cases w : i = shD at'
  · rw [w, show newS S at' m (shD at') = m from if_pos rfl]; exact hM
  · rw [show newS S at' m i = shS S at' i from if_neg w]
    exact hS i (by omega)
theorem FF.g {σ s : PS} {n E : Nat} {x y : Nat → Nat} (h : FF σ 20 n x y E) (c : ChG σ s) : FF s 20 n x y E := by
  have k : ∀ a i, 20 ≤ a → a ≤ 28 → mi s a i = mi σ a i := fun a i h1 h2 => c.2.2.1 a i (by simp only [chGc, chSt, chW5]; omega)
  refine ⟨⟨⟨by rw [k _ _ (by omega) (by omega)]; exact h.1.1.1, h.1.1.2.1, h.1.1.2.2.1, fun i hi => by rw [k _ _ (by omega) (by omega)]; exact h.1.1.2.2.2.1 i hi, fun i hi => by rw [k _ _ (by omega) (by omega)]; exact h.1.1.2.2.2.2 i hi⟩, fun q hq => by rw [k _ _ (by omega) (by omega)]; exact h.1.2 q hq⟩, by rw [k _ _ (by omega) (by omega)]; exact h.2.1, fun j hj => ?_, fun q hq => by rw [k _ _ (by omega) (by omega)]; exact h.2.2.2 q hq⟩
  rw [k (20 + 6) j (by omega) (by omega), k (20 + 7) j (by omega) (by omega), k (20 + 8) j (by omega) (by omega)]
  exact h.2.2.1 j hj
theorem sp_choose11 {g : GV} {d n E at' last : Nat} {x y : Nat → Nat} {ρ : Nat → Nat} {S : Nat → Mat} {a : Int32} {σ : PS} (hL : Lay σ) (hV : VF n x y E) (hC : CA σ n x y E ρ S at' last) (hal : at' ≤ last) (hl : last ≤ 40) (hG : GoodS E (qt n x y E) S last) (hk : ¬ mi σ 87 1 = 0 → EC σ E (gls E (qt n x y E))) :
    CX11_choose g (d + 27) [.ref 10, .int a] σ (fun v s => ChG σ s ∧ EC s E (gls E (qt n x y E)) ∧ ¬ mi s 87 1 = 0 ∧ ((gls E (qt n x y E)).length ≤ 2000 ∧ inN a (gls E (qt n x y E)).length = true → v = 1 ∧ mi s 144 3 = -1 ∧ mi s 149 1 = 0 ∧ ∃ k m ρ', a = nI k ∧ (gls E (qt n x y E))[k]? = some m ∧ CA s n x y E ρ' (newS S at' m) (shD at') (shD at')) ∧ (¬ ((gls E (qt n x y E)).length ≤ 2000 ∧ inN a (gls E (qt n x y E)).length = true) → v = 0 ∧ CA s n x y E ρ S at' last ∧ Ch chW5 noL σ s)) := by
  have hE : E ≤ 22 := hV.2.2.2.2.2.2
  obtain ⟨c1, c2, c3, c4, c5, c6, c7, c8⟩ := id hC
  refine vcX11_choose hL _ (Ct.imp (sp_has5 (d := d) (a := a) hL hE (fun i _ => qt_le n x y E i) c1.2.1 (fun i hi => (c1.2.2.1 i hi).2.2) hk) (fun r s1 w => ?_))
  obtain ⟨v, rfl, hv, hT, h87, k1⟩ := w
  have hL1 := k1.lay hL
  have g1 : ChG σ s1 := ChG.of hL (k1.mono (fun a i h => by simp only [chGc]; exact Or.inr (Or.inr (Or.inr (Or.inr (Or.inl h))))) (fun _ _ h => h))
  refine ⟨_, rfl, k1.fr, fun hv1 => ?_, fun hv0 => ?_⟩
  · rw [i01 hv, Classical.not_not] at hv1
    obtain ⟨k, hkl, rfl⟩ := (inN_is (by omega)).mp hv1.2
    obtain ⟨m, hm⟩ : ∃ m, (gls E (qt n x y E))[k]? = some m := ⟨_, List.getElem?_eq_getElem hkl⟩
    have hF : FM E (qt n x y E) m := gls_FM (List.mem_of_getElem? hm)
    refine Ct.imp (sp_tell5 hL1 hE hF.1 hT (by omega) hm) (fun r s3 w => ?_)
    obtain ⟨rfl, hM, k3⟩ := w
    have hL3 := k3.lay hL1
    have g3 : ChG s1 s3 := ChG.of hL1 (k3.mono (fun a i h => by simp only [chGc]; omega) (fun _ _ h => h))
    refine ⟨rfl, k3.fr, ?_⟩
    have hR3 : RowsA s3 ρ := ⟨fun i hi => by rw [k3.1.2, k1.1.2]; exact c2.1 i hi, c2.2⟩
    have hS3 : ∀ i, i ≤ last → MA s3 (ρ i) 22 (S i) := fun i hi => ((c5 i hi).ch k1 (fun e _ => by have := (c2.1 i (by omega)).2; simp only [chW5]; omega)).ch k3 (fun e _ => by have := (c2.1 i (by omega)).2; omega)
    refine Ct.imp (sp_begin hL3 hR3 (by rw [k3.i (by omega), k1.i (by simp [chW5])]; exact c3) (by omega) (fun i hi => hS3 i (by omega))) (fun r s5 w => ?_)
    obtain ⟨v5, rfl, ρ', hR5, rfl, b1, b2, b3, b4, kA⟩ := w
    have hD := shD_le (show at' ≤ 40 by omega)
    obtain ⟨r1, r2, r3⟩ := hR5.1 (shD at') hD.2
    have hL5 := kA.1.2
    refine ⟨_, rfl, kA.1, 22, kdRow hL5 r2 r3, by decide, fun s10 e10 => ?_⟩
    rw [cl0, cl22] at e10
    have hL10 : Lay s10 := by rw [e10]; exact hL5.sa
    have g10 : ChG s5 s10 := by
      refine ChG.of hL5 ?_
      rw [e10]
      exact Ch.rf.sa (fun k => Or.inl (by simp only [chGc]; omega))
    have gall := ((g1.trans g3).trans kA.g).trans g10
    have hM5 : MA s5 92 22 m := fun e he => by rw [kA.2.2.1 92 e (by omega)]; exact hM e he
    have hT10 : EC s10 E (gls E (qt n x y E)) ∧ ¬ mi s10 87 1 = 0 := by
      have hT3 := hT.ch k3 (by omega) (by omega) (fun i => by omega)
      have e87 : ∀ a i, 87 ≤ a → a ≤ 88 → mi s10 a i = mi s3 a i := fun a i h1 h2 => by
        rw [e10, mi_sa, if_neg (by omega), kA.2.2.1 a i (by omega)]
      refine ⟨⟨by rw [e87 _ _ (by omega) (by omega)]; exact hT3.1, by rw [e87 _ _ (by omega) (by omega)]; exact hT3.2.1, fun i m' h1 h2 => by rw [e87 _ _ (by omega) (by omega)]; exact hT3.2.2 i m' h1 h2⟩, ?_⟩
      rw [e87 _ _ (by omega) (by omega), k3.i (by omega)]
      exact h87
    refine Ct.imp (sp_newact (d := d + 24) (m := m) (S := S) (last := last) hL10 hV (c1.g gall) (by rw [e10]; exact hR5) (by rw [e10, mi_sa, if_neg (by omega)]; exact b1) (by rw [e10, mi_sa, if_neg (by omega)]; exact b2) (fun i hi => ?_) (fun e he => ?_) hal hl hG hF.inv hF.2) (fun r s12 w => ?_)
    · intro e he
      rw [e10, mi_sa, if_neg (fun z => by have := hR5.2 _ _ (by omega) hD.2 z; omega)]
      exact b3 i hi e he
    · rw [e10, mi_sa, if_pos rfl, cpy0 he]
      exact hM5 e he
    · obtain ⟨rfl, hCA, w1, w2, k12⟩ := w
      refine ⟨rfl, k12.fr, gall.trans (ChG.of hL10 (k12.mono (fun a i h => by simp only [chGc]; exact Or.inl h) (fun _ _ h => h))), hT10.1.ch k12 (by simp [chSt]) (by simp [chSt]) (fun i => by simp [chSt]), by rw [k12.i (by simp [chSt])]; exact hT10.2, fun _ => ⟨rfl, w1, w2, k, m, ρ', rfl, hm, hCA⟩, fun h => absurd hv1 h⟩
  · rw [i01 hv] at hv0
    refine ⟨g1, hT, h87, fun h => absurd h hv0, fun _ => ⟨rfl, ⟨c1.g g1, ⟨fun i hi => by rw [k1.1.2]; exact c2.1 i hi, c2.2⟩, by rw [k1.i (by simp [chW5])]; exact c3, by rw [k1.i (by simp [chW5])]; exact c4, fun i hi => (c5 i hi).ch k1 (fun e _ => by have := (c2.1 i (by omega)).2; simp only [chW5]; omega), c6.ch k1 (by simp [chW5]) (fun i _ => by simp [chW5]) (fun i _ => by simp [chW5]), by rw [k1.i (by simp [chW5])]; exact c7, fun h => ?_⟩, k1⟩⟩
    obtain ⟨b1, b2⟩ := c8 h
    exact ⟨b1.ch k1 (by simp [chW5]) (fun i => by simp [chW5]) (fun i => by simp [chW5]), fun q hq => by rw [k1.i (by simp [chW5])]; exact b2 q hq⟩
