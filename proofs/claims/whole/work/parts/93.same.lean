/-! ===== same, bodyOf, bodies of both ===== -/
def smA (n : Nat) (x y : Nat → Nat) (E : Nat) (T : List Mat) (a b v : Int32) : Prop := (T.length ≤ 2000 ∧ ∃ i j, i < T.length ∧ j < T.length ∧ a = nI i ∧ b = nI j ∧ SmR n (fT n x y E T i) (fT n x y E T j) v) ∨ (¬ (T.length ≤ 2000 ∧ inN a T.length = true ∧ inN b T.length = true) ∧ v = -1)
def boA (n : Nat) (x y : Nat → Nat) (E : Nat) (T : List Mat) (a v : Int32) : Prop := (T.length ≤ 300 ∧ ∃ k j, k < T.length ∧ a = nI k ∧ LSm n x y E T k j ∧ v = nI j) ∨ (¬ (T.length ≤ 300 ∧ inN a T.length = true) ∧ v = -1)
def bsA (n : Nat) (x y : Nat → Nat) (E : Nat) (T : List Mat) (v : Int32) : Prop := (T.length ≤ 300 ∧ ∃ ℓ : Nat → Nat, (∀ k, k < T.length → LSm n x y E T k (ℓ k)) ∧ v = nI (cnt (fun k => ℓ k == k) T.length)) ∨ (¬ T.length ≤ 300 ∧ v = -1)
theorem sp_same11 {g : GV} {d n E : Nat} {x y : Nat → Nat} {a b : Int32} {σ : PS} (hL : Lay σ) (hF : FF σ 20 n x y E) (hV : VF n x y E) (hH : itr n x y n = 2 ^ n - 1) (hk : ¬ mi σ 87 1 = 0 → EC σ E (gls E (qt n x y E))) :
    CX11_same g (d + 27) [.ref 10, .int a, .int b] σ (fun v s => smA n x y E (gls E (qt n x y E)) a b v ∧ EC s E (gls E (qt n x y E)) ∧ ¬ mi s 87 1 = 0 ∧ Ch (fun a i => chW5 a i ∨ chDs a i) (fun a k => a = 142) σ s) := by
  have hE := hV.2.2.2.2.2.2
  have hq : ∀ i, i < E → qt n x y E i ≤ 4 := fun i _ => qt_le n x y E i
  have h8 : ∀ i, i < E → mi σ 28 i = nI (qt n x y E i) := fun i hi => (hF.2.2.1 i hi).2.2
  refine vcX11_same hL _ _ (Ct.imp (sp_has5 (d := d) (a := a) hL hE hq hF.2.1 h8 hk) (fun r s1 w => ?_))
  obtain ⟨v, rfl, hv, hT1, h1, c1⟩ := w
  have hL1 := c1.lay hL
  have c1' : Ch (fun a i => chW5 a i ∨ chDs a i) (fun a k => a = 142) σ s1 := c1.mono (fun a k h => Or.inl h) (fun _ _ h => h.elim)
  refine ⟨_, rfl, c1.fr, fun h => ?_, fun h => ?_⟩
  · rw [i01 hv] at h
    exact ⟨Or.inr ⟨fun w => h ⟨w.1, w.2.1⟩, rfl⟩, hT1, h1, c1'⟩
  rw [i01 hv, Classical.not_not] at h
  obtain ⟨hl, ha⟩ := h
  rw [inN_is (by omega)] at ha
  obtain ⟨i, hi, rfl⟩ := ha
  have hF1 := hF.ch c1 (fun a i h1 h2 => by unfold chW5; omega)
  refine Ct.imp (sp_has5 (d := d) (a := b) hL1 hE hq hF1.2.1 (fun i hi => (hF1.2.2.1 i hi).2.2) (fun _ => hT1)) (fun r s3 w => ?_)
  obtain ⟨v3, rfl, hv3, hT3, h3, c3⟩ := w
  have hL3 := c3.lay hL1
  have c3' : Ch (fun a i => chW5 a i ∨ chDs a i) (fun a k => a = 142) σ s3 := c1'.trans (c3.mono (fun a k h => Or.inl h) (fun _ _ h => h.elim))
  refine ⟨_, rfl, c3.fr, fun h => ?_, fun h => ?_⟩
  · rw [i01 hv3, Classical.not_not] at h
    have hb := h.2
    rw [inN_is (by omega)] at hb
    obtain ⟨j, hj, rfl⟩ := hb
    have hF3 := hF1.ch c3 (fun a i h1 h2 => by unfold chW5; omega)
    refine Ct.imp (sp_areAlike (d := d + 23) hL3 hF3 hV hH hT3 hl hi hj) (fun r s5 w => ?_)
    obtain ⟨v5, rfl, hv5, c5⟩ := w
    have hT5 := hT3.ch c5 (by unfold chDs; omega) (by unfold chDs; omega) (fun i => by unfold chDs; omega)
    have h5 : ¬ mi s5 87 1 = 0 := by rw [c5.i (by unfold chDs; omega)]; exact h3
    have c5' : Ch (fun a i => chW5 a i ∨ chDs a i) (fun a k => a = 142) σ s5 := c3'.trans (c5.mono (fun a k h => Or.inr h) (fun _ _ h => h.1))
    refine ⟨_, rfl, c5.fr, fun h => ⟨Or.inl ⟨hl, i, j, hi, hj, rfl, rfl, ?_⟩, hT5, h5, c5'⟩, fun h => ⟨Or.inl ⟨hl, i, j, hi, hj, rfl, rfl, ?_⟩, hT5, h5, c5'⟩⟩
    · rcases hv5 with ⟨rfl, -⟩ | ⟨-, hs⟩
      · exact absurd h (by decide)
      · exact Or.inr ⟨rfl, hs⟩
    · rcases hv5 with ⟨-, hs⟩ | ⟨rfl, -⟩
      · exact Or.inl ⟨rfl, hs⟩
      · exact absurd rfl h
  · rw [i01 hv3] at h
    exact ⟨Or.inr ⟨fun w => h ⟨w.1, w.2.2⟩, rfl⟩, hT3, h3, c3'⟩
theorem sp_bodyOf11 {g : GV} {d n E : Nat} {x y : Nat → Nat} {a : Int32} {σ : PS} (hL : Lay σ) (hF : FF σ 20 n x y E) (hV : VF n x y E) (hH : itr n x y n = 2 ^ n - 1) (hk : ¬ mi σ 87 1 = 0 → EC σ E (gls E (qt n x y E))) (hkb : ¬ mi σ 133 9 = 0 → ¬ mi σ 87 1 = 0 ∧ KB σ n x y E (gls E (qt n x y E))) :
    CX11_bodyOf g (d + 27) [.ref 10, .int a] σ (fun v s => boA n x y E (gls E (qt n x y E)) a v ∧ EC s E (gls E (qt n x y E)) ∧ ¬ mi s 87 1 = 0 ∧ (¬ mi s 133 9 = 0 → KB s n x y E (gls E (qt n x y E))) ∧ Ch chKB (fun a k => a = 142) σ s) := by
  have hE := hV.2.2.2.2.2.2
  have hq : ∀ i, i < E → qt n x y E i ≤ 4 := fun i _ => qt_le n x y E i
  have h8 : ∀ i, i < E → mi σ 28 i = nI (qt n x y E i) := fun i hi => (hF.2.2.1 i hi).2.2
  refine vcX11_bodyOf hL _ (Ct.imp (sp_has5 (d := d) (a := a) hL hE hq hF.2.1 h8 hk) (fun r s1 w => ?_))
  obtain ⟨v, rfl, hv, hT1, h1, c1⟩ := w
  have hL1 := c1.lay hL
  have c1' : Ch chKB (fun a k => a = 142) σ s1 := c1.mono (fun a k h => Or.inl h) (fun _ _ h => h.elim)
  have hkb1 : ¬ mi s1 133 9 = 0 → KB s1 n x y E (gls E (qt n x y E)) := by
    intro h
    rw [c1.i (by unfold chW5; omega)] at h
    obtain ⟨-, a1, a2⟩ := hkb h
    refine ⟨by rw [c1.i (by unfold chW5; omega)]; exact a1, fun hl => ?_⟩
    obtain ⟨ℓ, b1, b2⟩ := a2 hl
    exact ⟨ℓ, fun k hk => ⟨(b1 k hk).1, by rw [c1.i (by unfold chW5; omega)]; exact (b1 k hk).2⟩, by rw [c1.i (by unfold chW5; omega)]; exact b2⟩
  refine ⟨_, rfl, c1.fr, fun h => ?_, fun h => ?_⟩
  · rw [i01 hv] at h
    exact ⟨Or.inr ⟨fun w => h ⟨by omega, w.2⟩, rfl⟩, hT1, h1, hkb1, c1'⟩
  rw [i01 hv, Classical.not_not] at h
  obtain ⟨hl, ha⟩ := h
  rw [inN_is (by omega)] at ha
  obtain ⟨i, hi, rfl⟩ := ha
  have hF1 := hF.ch c1 (fun a i h1 h2 => by unfold chW5; omega)
  refine Ct.imp (sp_work1 (d := d) hL1 hF1 hV hH hq (fun i hi => (hF1.2.2.1 i hi).2.2) (fun _ => hT1) (fun h => ⟨h1, hkb1 h⟩)) (fun r s3 w => ?_)
  obtain ⟨v3, rfl, hv3, h9, hK3, hT3, h3, c3⟩ := w
  have hL3 := c3.lay hL1
  refine ⟨_, rfl, c3.fr, fun h => ?_, fun h => ?_⟩
  · rw [i01 hv3, Classical.not_not] at h
    refine Ct.imp (sp_leastAlike hL3 hK3 h hi) (fun r s5 w => ?_)
    obtain ⟨v5, rfl, j, rfl, hj, rfl⟩ := w
    exact ⟨_, rfl, Fr.rf, Or.inl ⟨h, i, j, hi, rfl, hj, rfl⟩, hT3, h3, fun _ => hK3, c1'.trans c3⟩
  · rw [i01 hv3] at h
    exact ⟨Or.inr ⟨fun w => h w.1, rfl⟩, hT3, h3, fun _ => hK3, c1'.trans c3⟩
theorem sp_bodies11 {g : GV} {d n E : Nat} {x y : Nat → Nat} {σ : PS} (hL : Lay σ) (hF : FF σ 20 n x y E) (hV : VF n x y E) (hH : itr n x y n = 2 ^ n - 1) (hk : ¬ mi σ 87 1 = 0 → EC σ E (gls E (qt n x y E))) (hkb : ¬ mi σ 133 9 = 0 → ¬ mi σ 87 1 = 0 ∧ KB σ n x y E (gls E (qt n x y E))) :
    CX11_bodies g (d + 27) [.ref 10] σ (fun v s => bsA n x y E (gls E (qt n x y E)) v ∧ EC s E (gls E (qt n x y E)) ∧ ¬ mi s 87 1 = 0 ∧ KB s n x y E (gls E (qt n x y E)) ∧ Ch chKB (fun a k => a = 142) σ s) := by
  have hq : ∀ i, i < E → qt n x y E i ≤ 4 := fun i _ => qt_le n x y E i
  have h8 : ∀ i, i < E → mi σ 28 i = nI (qt n x y E i) := fun i hi => (hF.2.2.1 i hi).2.2
  refine vcX11_bodies hL (Ct.imp (sp_work1 (d := d) hL hF hV hH hq h8 hk hkb) (fun r s3 w => ?_))
  obtain ⟨v3, rfl, hv3, h9, hK3, hT3, h3, c3⟩ := w
  refine ⟨_, rfl, c3.fr, fun h => ?_, fun h => ?_⟩
  · rw [i01 hv3] at h
    exact ⟨Or.inr ⟨h, rfl⟩, hT3, h3, hK3, c3⟩
  · rw [i01 hv3, Classical.not_not] at h
    obtain ⟨ℓ, b1, b2⟩ := hK3.2 h
    exact ⟨Or.inl ⟨h, ℓ, fun k hk => (b1 k hk).1, b2⟩, hT3, h3, hK3, c3⟩
abbrev chBo : Nat → Nat → Prop := fun a i => a = 179 ∧ (i = 0 ∨ i = 47 ∨ i = 48 ∨ i = 59) ∨ 210 ≤ a ∧ a ≤ 212 ∨ 215 ≤ a ∧ a ≤ 219
/-- what the reference holds of GLUINGS and bodies behind a call that has asked for them -/
def LB (s : PS) (n : Nat) (x y : Nat → Nat) (E : Nat) : Prop := EM s E (gls E (qt n x y E)) ∧ ¬ mi s 179 47 = 0 ∧ (¬ mi s 179 59 = 0 → RBd s n x y E (gls E (qt n x y E)))
theorem LB.ch {σ s : PS} {n E : Nat} {x y : Nat → Nat} {Pm Pl : Nat → Nat → Prop} (h : LB σ n x y E) (c : Ch Pm Pl σ s) (h1 : ∀ i, 47 ≤ i → i ≤ 59 → ¬ Pm 179 i) (h2 : ∀ i, ¬ Pm 211 i) (h3 : ∀ i, ¬ Pm 219 i) : LB s n x y E :=
  ⟨h.1.ch c (h1 48 (by omega) (by omega)) h2, by rw [c.i (h1 47 (by omega) (by omega))]; exact h.2.1, fun h9 => (h.2.2 (by rw [← c.i (h1 59 (by omega) (by omega))]; exact h9)).ch c h3⟩
theorem sp_isGl {g : GV} {d n E : Nat} {x y : Nat → Nat} {a : Int32} {σ : PS} (hL : Lay σ) (hF : MF σ n x y E) (hV : VF n x y E) (hk : ¬ mi σ 179 47 = 0 → EM σ E (gls E (qt n x y E))) (hkb : ¬ mi σ 179 47 = 0 → ¬ mi σ 179 59 = 0 → RBd σ n x y E (gls E (qt n x y E))) :
    CX12_isGluing g (d + 26) [.ref 179, .int a] σ (fun v s => v = (if (gls E (qt n x y E)).length ≤ 2000 ∧ inN a (gls E (qt n x y E)).length = true then 1 else 0) ∧ LB s n x y E ∧ MF s n x y E ∧ mi s 179 0 = mi σ 179 0 ∧ Ch chBo noL σ s) := by
  have hE := hV.2.2.2.2.2.2
  have hq : ∀ i, i < E → mi σ 205 i = nI (qt n x y E i) ∧ qt n x y E i ≤ 4 := fun i hi => ⟨(hF.2.2.1 i hi).2.2, qt_le n x y E i⟩
  refine Ct.imp (sp_isGluing (d := d) (a := a) hL hE hF.2.1 hq hk) (fun r s w => ?_)
  obtain ⟨v, rfl, hv, hT, h47, c, k1, k2⟩ := w
  refine ⟨_, rfl, hv, ⟨hT, h47, fun h => ?_⟩, hF.ch c (by unfold chI; omega) (by unfold chI; omega) (fun a i h1 h2 => by unfold chI; omega), c.i (by unfold chI; omega), c.mono (fun a k h => by unfold chI at h; unfold chBo; omega) (fun _ _ h => h)⟩
  by_cases e47 : mi σ 179 47 = 0
  · exact absurd (k2 e47) h
  · have es := k1 e47
    rw [es] at h ⊢
    exact hkb e47 h
theorem sp_same12 {g : GV} {d n E : Nat} {x y : Nat → Nat} {a b : Int32} {σ : PS} (hL : Lay σ) (hF : MF σ n x y E) (hV : VF n x y E) (hH : itr n x y n = 2 ^ n - 1) (hk : ¬ mi σ 179 47 = 0 → EM σ E (gls E (qt n x y E))) (hkb : ¬ mi σ 179 47 = 0 → ¬ mi σ 179 59 = 0 → RBd σ n x y E (gls E (qt n x y E))) :
    CX12_same g (d + 27) [.ref 179, .int a, .int b] σ (fun v s => smA n x y E (gls E (qt n x y E)) a b v ∧ mi s 179 0 = 0 ∧ LB s n x y E ∧ Ch chBo noL σ s) := by
  refine vcX12_same hL _ _ (fun s1 e1 => ?_)
  have c1 : Ch (fun a k => a = 179 ∧ k = 0) noL σ s1 := by rw [e1]; exact Ch.rf.si ⟨rfl, rfl⟩
  have hL1 := c1.lay hL
  have z1 : mi s1 179 0 = 0 := by rw [e1, mi_si, if_pos ⟨rfl, rfl⟩]
  have hF1 := hF.ch c1 (by omega) (by omega) (fun a i h1 h2 => by omega)
  have c1' : Ch chBo noL σ s1 := c1.mono (fun a k h => Or.inl ⟨h.1, Or.inl h.2⟩) (fun _ _ h => h)
  refine Ct.imp (sp_isGl (d := d) (a := a) hL1 hF1 hV (fun h => (hk (by rw [← c1.i (by omega)]; exact h)).ch c1 (by omega) (fun i => by omega)) (fun h h' => (hkb (by rw [← c1.i (by omega)]; exact h) (by rw [← c1.i (by omega)]; exact h')).ch c1 (fun i => by omega))) (fun r s3 w => ?_)
  obtain ⟨v, rfl, hv, hB3, hF3, z3, c3⟩ := w
  have hL3 := c3.lay hL1
  rw [z1] at z3
  refine ⟨_, rfl, c3.fr, fun h => ?_, fun h => ?_⟩
  · rw [i01 hv] at h
    exact ⟨Or.inr ⟨fun w => h ⟨w.1, w.2.1⟩, rfl⟩, z3, hB3, c1'.trans c3⟩
  rw [i01 hv, Classical.not_not] at h
  obtain ⟨hl, ha⟩ := h
  rw [inN_is (by omega)] at ha
  obtain ⟨i, hi, rfl⟩ := ha
  refine Ct.imp (sp_isGl (d := d) (a := b) hL3 hF3 hV (fun _ => hB3.1) (fun _ => hB3.2.2)) (fun r s5 w => ?_)
  obtain ⟨v5, rfl, hv5, hB5, hF5, z5, c5⟩ := w
  have hL5 := c5.lay hL3
  rw [z3] at z5
  refine ⟨_, rfl, c5.fr, fun h => ?_, fun h => ?_⟩
  · rw [i01 hv5] at h
    exact ⟨Or.inr ⟨fun w => h ⟨w.1, w.2.2⟩, rfl⟩, z5, hB5, (c1'.trans c3).trans c5⟩
  rw [i01 hv5, Classical.not_not] at h
  have hb := h.2
  rw [inN_is (by omega)] at hb
  obtain ⟨j, hj, rfl⟩ := hb
  obtain ⟨m1, g1⟩ := get_ex hi
  obtain ⟨m2, g2⟩ := get_ex hj
  refine Ct.imp (sp_areSame (d := d + 23) hL5 hF5 hV hH (gls_at g1) (gls_at g2) (by omega) (by omega) (hB5.1.2 i m1 (by omega) g1) (hB5.1.2 j m2 (by omega) g2)) (fun r s7 w => ?_)
  obtain ⟨v7, rfl, hv7, c7⟩ := w
  rw [← fT_is (n := n) (x := x) (y := y) (E := E) g1, ← fT_is (n := n) (x := x) (y := y) (E := E) g2] at hv7
  have hB7 := hB5.ch c7 (fun i _ _ => by unfold chAS; omega) (fun i => by unfold chAS; omega) (fun i => by unfold chAS; omega)
  have z7 : mi s7 179 0 = 0 := by rw [c7.i (by unfold chAS; omega)]; exact z5
  have c7' : Ch chBo noL σ s7 := ((c1'.trans c3).trans c5).trans (c7.mono (fun a k h => by unfold chAS at h; unfold chBo; omega) (fun _ _ h => h))
  refine ⟨_, rfl, c7.fr, fun h => ⟨Or.inl ⟨hl, i, j, hi, hj, rfl, rfl, ?_⟩, z7, hB7, c7'⟩, fun h => ⟨Or.inl ⟨hl, i, j, hi, hj, rfl, rfl, ?_⟩, z7, hB7, c7'⟩⟩
  · rcases hv7 with ⟨rfl, -⟩ | ⟨-, hs⟩
    · exact absurd h (by decide)
    · exact Or.inr ⟨rfl, hs⟩
  · rcases hv7 with ⟨-, hs⟩ | ⟨rfl, -⟩
    · exact Or.inl ⟨rfl, hs⟩
    · exact absurd rfl h
theorem sp_hasB {g : GV} {d n E : Nat} {x y : Nat → Nat} {σ : PS} (hL : Lay σ) (hF : MF σ n x y E) (hV : VF n x y E) (hH : itr n x y n = 2 ^ n - 1) (hk : ¬ mi σ 179 47 = 0 → EM σ E (gls E (qt n x y E))) (hkb : ¬ mi σ 179 47 = 0 → ¬ mi σ 179 59 = 0 → RBd σ n x y E (gls E (qt n x y E))) :
    CX12_hasBodies g (d + 26) [.ref 179] σ (fun v s => v = (if (gls E (qt n x y E)).length ≤ 300 then 1 else 0) ∧ LB s n x y E ∧ ((gls E (qt n x y E)).length ≤ 300 → RBd s n x y E (gls E (qt n x y E))) ∧ mi s 179 0 = mi σ 179 0 ∧ Ch chBo noL σ s) := by
  refine Ct.imp (sp_hasBodies (d := d) hL hF hV hH hk hkb) (fun r s w => ?_)
  obtain ⟨v, rfl, hv, h47, hT, hR, c⟩ := w
  refine ⟨_, rfl, hv, ⟨hT, h47, fun _ hl => hR hl hl⟩, hR, c.i (by unfold chHB chI; omega), c.mono (fun a k h => by unfold chHB chI at h; unfold chBo; omega) (fun _ _ h => h)⟩
theorem sp_bodyOf12 {g : GV} {d n E : Nat} {x y : Nat → Nat} {a : Int32} {σ : PS} (hL : Lay σ) (hF : MF σ n x y E) (hV : VF n x y E) (hH : itr n x y n = 2 ^ n - 1) (hk : ¬ mi σ 179 47 = 0 → EM σ E (gls E (qt n x y E))) (hkb : ¬ mi σ 179 47 = 0 → ¬ mi σ 179 59 = 0 → RBd σ n x y E (gls E (qt n x y E))) :
    CX12_bodyOf g (d + 27) [.ref 179, .int a] σ (fun v s => boA n x y E (gls E (qt n x y E)) a v ∧ mi s 179 0 = 0 ∧ LB s n x y E ∧ Ch chBo noL σ s) := by
  refine vcX12_bodyOf hL _ (fun s1 e1 => ?_)
  have c1 : Ch (fun a k => a = 179 ∧ k = 0) noL σ s1 := by rw [e1]; exact Ch.rf.si ⟨rfl, rfl⟩
  have hL1 := c1.lay hL
  have z1 : mi s1 179 0 = 0 := by rw [e1, mi_si, if_pos ⟨rfl, rfl⟩]
  have hF1 := hF.ch c1 (by omega) (by omega) (fun a i h1 h2 => by omega)
  have c1' : Ch chBo noL σ s1 := c1.mono (fun a k h => Or.inl ⟨h.1, Or.inl h.2⟩) (fun _ _ h => h)
  refine Ct.imp (sp_isGl (d := d) (a := a) hL1 hF1 hV (fun h => (hk (by rw [← c1.i (by omega)]; exact h)).ch c1 (by omega) (fun i => by omega)) (fun h h' => (hkb (by rw [← c1.i (by omega)]; exact h) (by rw [← c1.i (by omega)]; exact h')).ch c1 (fun i => by omega))) (fun r s3 w => ?_)
  obtain ⟨v, rfl, hv, hB3, hF3, z3, c3⟩ := w
  have hL3 := c3.lay hL1
  rw [z1] at z3
  refine ⟨_, rfl, c3.fr, fun h => ?_, fun h => ?_⟩
  · rw [i01 hv] at h
    exact ⟨Or.inr ⟨fun w => h ⟨by omega, w.2⟩, rfl⟩, z3, hB3, c1'.trans c3⟩
  rw [i01 hv, Classical.not_not] at h
  obtain ⟨hl, ha⟩ := h
  rw [inN_is (by omega)] at ha
  obtain ⟨i, hi, rfl⟩ := ha
  refine Ct.imp (sp_hasB (d := d) hL3 hF3 hV hH (fun _ => hB3.1) (fun _ => hB3.2.2)) (fun r s5 w => ?_)
  obtain ⟨v5, rfl, hv5, hB5, hR5, z5, c5⟩ := w
  rw [z3] at z5
  refine ⟨_, rfl, c5.fr, fun h => ?_, fun h => ?_⟩
  · rw [i01 hv5] at h
    exact ⟨Or.inr ⟨fun w => h w.1, rfl⟩, z5, hB5, (c1'.trans c3).trans c5⟩
  · rw [i01 hv5, Classical.not_not] at h
    obtain ⟨ℓ, b1⟩ := hR5 h h
    rw [zIN (by omega) (by omega), zCL (by omega)]
    exact ⟨by omega, Or.inl ⟨h, i, ℓ i, hi, rfl, (b1 i hi).1, (b1 i hi).2⟩, z5, hB5, (c1'.trans c3).trans c5⟩
theorem sp_bodies12 {g : GV} {d n E : Nat} {x y : Nat → Nat} {σ : PS} (hL : Lay σ) (hF : MF σ n x y E) (hV : VF n x y E) (hH : itr n x y n = 2 ^ n - 1) (hk : ¬ mi σ 179 47 = 0 → EM σ E (gls E (qt n x y E))) (hkb : ¬ mi σ 179 47 = 0 → ¬ mi σ 179 59 = 0 → RBd σ n x y E (gls E (qt n x y E))) :
    CX12_bodies g (d + 27) [.ref 179] σ (fun v s => bsA n x y E (gls E (qt n x y E)) v ∧ mi s 179 0 = 0 ∧ LB s n x y E ∧ Ch chBo noL σ s) := by
  refine vcX12_bodies hL (fun s1 e1 => ?_)
  have c1 : Ch (fun a k => a = 179 ∧ k = 0) noL σ s1 := by rw [e1]; exact Ch.rf.si ⟨rfl, rfl⟩
  have hL1 := c1.lay hL
  have z1 : mi s1 179 0 = 0 := by rw [e1, mi_si, if_pos ⟨rfl, rfl⟩]
  have hF1 := hF.ch c1 (by omega) (by omega) (fun a i h1 h2 => by omega)
  have c1' : Ch chBo noL σ s1 := c1.mono (fun a k h => Or.inl ⟨h.1, Or.inl h.2⟩) (fun _ _ h => h)
  refine Ct.imp (sp_hasB (d := d) hL1 hF1 hV hH (fun h => (hk (by rw [← c1.i (by omega)]; exact h)).ch c1 (by omega) (fun i => by omega)) (fun h h' => (hkb (by rw [← c1.i (by omega)]; exact h) (by rw [← c1.i (by omega)]; exact h')).ch c1 (fun i => by omega))) (fun r s3 w => ?_)
  obtain ⟨v, rfl, hv, hB3, hR3, z3, c3⟩ := w
  have hL3 := c3.lay hL1
  rw [z1] at z3
  refine ⟨_, rfl, c3.fr, fun h => ?_, fun h => ?_⟩
  · rw [i01 hv, Classical.not_not] at h
    obtain ⟨ℓ, b1⟩ := hR3 h h
    have e48 : mi s3 179 48 = nI (gls E (qt n x y E)).length := by rw [hB3.1.1, Nat.min_eq_left (by omega)]
    have loop : ∀ (z i : Nat), z = (gls E (qt n x y E)).length - i → i ≤ (gls E (qt n x y E)).length → VX12_bodies g (d + 27) (fun v s => bsA n x y E (gls E (qt n x y E)) v ∧ mi s 179 0 = 0 ∧ LB s n x y E ∧ Ch chBo noL σ s) 18 [some (.ref 179), some (.int (nI (cnt (fun k => ℓ k == k) i))), some (.int (nI i))] [] s3 := by
      intro z
      induction z with
      | zero =>
        intro i hz hi
        have : i = (gls E (qt n x y E)).length := by omega
        subst this
        exact vcX12_bodies_18 hL3 _ _ ⟨fun _ => ⟨Or.inl ⟨h, ℓ, fun k hk => (b1 k hk).1, rfl⟩, z3, hB3, c1'.trans c3⟩, fun hc => absurd (by rw [e48, zLE (by omega) (by omega)]; omega) hc⟩
      | succ z ih =>
        intro i hz hi
        have hc9 := cnt_le (fun k => ℓ k == k) i
        have hb := b1 i (by omega)
        have hbl := hb.1.1
        have hh := ih (i + 1) (by omega) (by omega)
        refine vcX12_bodies_18 hL3 _ _ ⟨fun hc => ?_, fun _ => ?_⟩
        · rw [e48, zLE (by omega) (by omega)] at hc
          omega
        · rw [zIN (by omega) (by omega), zCL (by omega), hb.2, zEQ (by omega) (by omega)]
          rw [cnt_s] at hh
          refine ⟨by omega, fun hne x6 e6 x8 e8 => ?_, fun heq x10 e10 x12 e12 => ?_⟩
          · rw [if_neg (by simpa using hne)] at hh
            rw [inc0 e6, inc e8]
            exact hh
          · rw [if_pos (by simpa using heq)] at hh
            rw [inc e10, inc e12]
            exact hh
    exact loop _ 0 rfl (Nat.zero_le _)
  · rw [i01 hv] at h
    exact ⟨Or.inr ⟨h, rfl⟩, z3, hB3, c1'.trans c3⟩
