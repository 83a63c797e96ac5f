/-! ===== the reference's corners ===== -/
def MO (σ : PS) (E : Nat) (lf : Nat → Nat) : Prop := ∀ i, i < E → mi σ 210 i = nI (lf i)
abbrev ch210 : Nat → Nat → Prop := fun a _ => a = 210
theorem MO.ch {σ s : PS} {E : Nat} {lf : Nat → Nat} {Pm Pl : Nat → Nat → Prop} (h : MO σ E lf) (c : Ch Pm Pl σ s) (hn : ∀ i, ¬ Pm 210 i) : MO s E lf := fun e he => by rw [c.i (hn e)]; exact h e he
theorem sp_joins {g : GV} {d E a b : Nat} {lf : Nat → Nat} {σ : PS} (hL : Lay σ) (hE : E ≤ 22) (h0 : mi σ 179 38 = nI E) (hO : MO σ E lf) (hP : Prt E lf) (ha : a < E) (hb : b < E) :
    CX12_joins g d [.ref 179, .int (nI a), .int (nI b)] σ (fun s => MO s E (uL lf a b) ∧ Ch ch210 noL σ s) := by
  have la := (hP a ha).1
  have lb := (hP b hb).1
  have loop : ∀ (z k : Nat) (s : PS), z = E - k → k ≤ E → Ch ch210 noL σ s → (∀ i, i < E → mi s 210 i = nI (if i < k then uL lf a b i else lf i)) →
      VX12_joins g d (fun s => MO s E (uL lf a b) ∧ Ch ch210 noL σ s) 34 [some (.ref 179), none, none, none, none, some (.int (nI (min (lf a) (lf b)))), some (.int (nI (max (lf a) (lf b)))), some (.int (nI k))] [] s := by
    intro z
    induction z with
    | zero =>
      intro k s hz hk cs h
      have e : k = E := by omega
      subst e
      refine vcX12_joins_34 (cs.lay hL) _ _ _ ?_
      rw [cs.i (by simp [ch210]), h0]
      refine ⟨fun _ => ⟨fun i hi => ?_, cs⟩, fun h => absurd (by rw [zLE (by omega) (by omega)]; omega) h⟩
      rw [h i hi, if_pos hi]
    | succ z ih =>
      intro k s hz hk cs h
      have hk1 := h k (by omega)
      rw [if_neg (by omega)] at hk1
      have lk := (hP k (by omega)).1
      have nxt : ∀ (s2 : PS) (x : Int32), s2 = si s 210 k (nI (uL lf a b k)) → x = nI k + 1 → VX12_joins g d (fun s => MO s E (uL lf a b) ∧ Ch ch210 noL σ s) 34 [some (.ref 179), none, none, none, none, some (.int (nI (min (lf a) (lf b)))), some (.int (nI (max (lf a) (lf b)))), some (.int x)] [] s2 := by
        intro s2 x e2 ex
        rw [inc ex]
        refine ih (k + 1) s2 (by omega) (by omega) (by rw [e2]; exact cs.si rfl) (fun i hi => ?_)
        rw [e2, mi_si]
        by_cases e : i = k
        · rw [if_pos ⟨rfl, e⟩, if_pos (by omega), e]
        · rw [if_neg (by omega), h i hi]
          by_cases w : i < k
          · rw [if_pos w, if_pos (by omega)]
          · rw [if_neg w, if_neg (by omega)]
      refine vcX12_joins_34 (cs.lay hL) _ _ _ ?_
      rw [cs.i (by simp [ch210]), h0]
      simp (disch := omega) only [zIN, zCL, zLE, hk1, zEQ]
      refine ⟨fun h => by omega, fun _ => ⟨by omega, fun hne => ⟨by omega, by omega, fun s14 e14 x16 e16 => nxt s14 x16 (by rw [e14]; unfold uL; rw [if_neg hne]) e16⟩, fun heq => ⟨by omega, fun s19 e19 x21 e21 => nxt s19 x21 (by rw [e19]; unfold uL; rw [if_pos heq]) e21⟩⟩⟩
  refine vcX12_joins hL _ _ ?_
  simp (disch := omega) only [zIN, zCL, hO a ha, hO b hb]
  refine ⟨by omega, fun x2 e2 => ⟨by omega, fun x5 e5 x7 e7 x9 e9 => ?_⟩⟩
  rw [e2, e5, zMIN (by omega) (by omega)] at e7
  rw [e2, e5, zMAX (by omega) (by omega)] at e9
  rw [e7, e9]
  exact loop E 0 σ rfl (by omega) Ch.rf (fun i hi => by rw [hO i hi, if_neg (by omega)])
theorem sumN_le {f : Nat → Nat} {n M : Nat} (h : ∀ i, i < n → f i ≤ M) : sumN f n ≤ n * M := by
  induction n with
  | zero => exact Nat.zero_le _
  | succ n ih =>
    rw [sumN_s, Nat.succ_mul]
    exact Nat.add_le_add (ih (fun i hi => h i (by omega))) (h n (by omega))
theorem sp_together {g : GV} {d E k : Nat} {lf q : Nat → Nat} {σ : PS} (hL : Lay σ) (hE : E ≤ 22) (h0 : mi σ 179 38 = nI E) (hO : MO σ E lf) (hP : Prt E lf) (hq : ∀ i, i < E → mi σ 205 i = nI (q i) ∧ q i ≤ 4) (hk : k < E) :
    CX12_together g d [.ref 179, .int (nI k)] σ (fun v s => v = nI (tg E lf q k) ∧ s = σ) := by
  have lk := (hP k hk).1
  have loop : ∀ (z i : Nat), z = E - i → i ≤ E → VX12_together g d (fun v s => v = nI (tg E lf q k) ∧ s = σ) 4 [some (.ref 179), some (.int (nI k)), some (.int (nI (sumN (fun j => if lf j = lf k then q j else 0) i))), some (.int (nI i))] [] σ := by
    intro z
    induction z with
    | zero =>
      intro i hz hi
      have e : i = E := by omega
      subst e
      refine vcX12_together_4 hL _ _ _ ?_
      rw [h0]
      exact ⟨fun _ => ⟨rfl, rfl⟩, fun h => absurd (by rw [zLE (by omega) (by omega)]; omega) h⟩
    | succ z ih =>
      intro i hz hi
      have li := (hP i (by omega)).1
      have nxt := ih (i + 1) (by omega) (by omega)
      rw [sumN_s] at nxt
      refine vcX12_together_4 hL _ _ _ ?_
      rw [h0]
      simp (disch := omega) only [zIN, zCL, zLE, hO i (by omega), hO k hk, zEQ, (hq i (by omega)).1]
      refine ⟨fun h => by omega, fun _ => ⟨by omega, by omega, fun hne x3 e3 x5 e5 => ?_, fun heq => ⟨by omega, fun x8 e8 x10 e10 => ?_⟩⟩⟩
      · rw [if_neg hne, Nat.add_zero] at nxt
        rw [inc e5, e3, lit32 0, nI_add, Nat.add_zero]
        exact nxt
      · rw [if_pos heq] at nxt
        rw [inc e10, e8, nI_add]
        exact nxt
  exact vcX12_together hL _ (loop E 0 rfl (by omega))
theorem nx_mod {E b : Nat} (h : b < E) : (b + 1) % E = nxE E b := by
  unfold nxE
  split
  · rw [Nat.mod_eq_of_lt (by assumption)]
  · rw [show b + 1 = E by omega, Nat.mod_self]
theorem sp_corners {g : GV} {d E o no : Nat} {q : Nat → Nat} {m : Mat} {σ : PS} (hL : Lay σ) (hE : E ≤ 22) (h0 : mi σ 179 38 = nI E) (ko : kd σ o = some (.inr (0, no))) (hno : 22 ≤ no) (hno2 : no < 1000000) (ho : o ≠ 210) (hM : MA σ o E m) (hm : ∀ e b, m e = some b → b < E ∧ b ≠ e) (hq : ∀ i, i < E → mi σ 205 i = nI (q i) ∧ q i ≤ 4) :
    CX12_corners g (d + 1) [.ref 179, .ref o] σ (fun v s => v = (if A4b E (cl E m E) q = true then 1 else 0) ∧ MO s E (cl E m E) ∧ Ch ch210 noL σ s) := by
  have hml : ∀ e b, m e = some b → b < E := fun e b h => (hm e b h).1
  have hPc : ∀ k, k ≤ E → Prt E (cl E m k) := Prt.cl hml
  generalize hPP : (fun (v : Int32) (s : PS) => v = (if A4b E (cl E m E) q = true then 1 else 0) ∧ MO s E (cl E m E) ∧ Ch ch210 noL σ s) = P
  have l79 : ∀ (z k : Nat) (s : PS), z = E - k → k ≤ E → Ch ch210 noL σ s → MO s E (cl E m E) → (∀ j, j < k → tg E (cl E m E) q j ≤ 4) → VX12_corners g (d + 1) P 79 [some (.ref 179), none, some (.int (nI k)), none] [] s := by
    intro z
    induction z with
    | zero =>
      intro k s hz hk cs hO h
      have e : k = E := by omega
      subst e
      refine vcX12_corners_79 (cs.lay hL) _ ?_
      rw [cs.i (by simp [ch210]), h0]
      refine ⟨fun _ => ?_, fun h => absurd (by rw [zLE (by omega) (by omega)]; omega) h⟩
      rw [← hPP]
      exact ⟨by rw [if_pos (A4b_is.mpr h)], hO, cs⟩
    | succ z ih =>
      intro k s hz hk cs hO h
      have htl : tg E (cl E m E) q k ≤ 22 * 4 := Nat.le_trans (sumN_le (M := 4) (fun i hi => by split <;> have := (hq i hi).2 <;> omega)) (Nat.mul_le_mul hE (Nat.le_refl 4))
      refine vcX12_corners_79 (cs.lay hL) _ ?_
      rw [cs.i (by simp [ch210]), h0]
      simp (disch := omega) only [zLE]
      refine ⟨fun h => by omega, fun _ => Ct.imp (sp_together (cs.lay hL) hE (by rw [cs.i (by simp [ch210])]; exact h0) hO (hPc E (Nat.le_refl _)) (fun i hi => by rw [cs.i (by simp [ch210])]; exact hq i hi) (by omega)) (fun r s2 w => ?_)⟩
      obtain ⟨v, rfl, rfl, rfl⟩ := w
      refine ⟨_, rfl, Fr.rf, ?_⟩
      rw [lit32 4, zLE (by omega) (by omega)]
      refine ⟨fun h5 x e => ?_, fun h5 => ?_⟩
      · rw [inc e]
        refine ih (k + 1) s2 (by omega) (by omega) cs hO (fun j hj => ?_)
        by_cases e : j = k
        · rw [e]; exact h5
        · exact h j (by omega)
      · rw [← hPP]
        exact ⟨by rw [if_neg (fun h6 => h5 (A4b_is.mp h6 k (by omega)))], hO, cs⟩
  have l25 : ∀ (z k : Nat) (s : PS), z = E - k → k ≤ E → Ch ch210 noL σ s → MO s E (cl E m k) → VX12_corners g (d + 1) P 25 [some (.ref 179), some (.ref o), some (.int (nI k)), none] [] s := by
    intro z
    induction z with
    | zero =>
      intro k s hz hk cs hO
      have e : k = E := by omega
      subst e
      refine vcX12_corners_25 (cs.lay hL) _ _ (cs.1.1 ▸ ko) _ ?_
      rw [cs.i (by simp [ch210]), h0]
      exact ⟨fun _ => l79 k 0 s rfl (by omega) cs hO (fun j hj => by omega), fun h => absurd (by rw [zLE (by omega) (by omega)]; omega) h⟩
    | succ z ih =>
      intro k s hz hk cs hO
      have hL2 := cs.lay hL
      have h02 : mi s 179 38 = nI E := by rw [cs.i (by simp [ch210])]; exact h0
      have hmk : mi s o k = oI (m k) := by rw [cs.i (fun h => ho h)]; exact hM k (by omega)
      have hcs : cl E m (k + 1) = clS E (cl E m k) k (m k) := rfl
      have hP := hPc k (by omega)
      refine vcX12_corners_25 hL2 _ _ (cs.1.1 ▸ ko) _ ?_
      rw [h02]
      simp (disch := omega) only [zLE, zIN, zCL, hmk]
      refine ⟨fun h => by omega, fun _ => ⟨by omega, fun x7 e7 => ?_⟩⟩
      cases hmm : m k with
      | none =>
        rw [hmm] at e7 hcs
        have hneg : ¬ nI k ≤ x7 := by
          rw [e7]
          intro h
          have := Int32.le_iff_toInt_le.mp h
          rw [nI_toInt (by omega)] at this
          have e : (oI none).toInt = -1 := by decide
          omega
        refine ⟨fun h => absurd h hneg, fun _ x17 e17 => ?_⟩
        rw [inc e17]
        refine ih (k + 1) s (by omega) (by omega) cs ?_
        rw [hcs]
        exact hO
      | some b =>
        rw [hmm] at e7 hcs
        simp only [oI] at e7
        obtain ⟨b1, b2⟩ := hm k b hmm
        subst e7
        rw [zLE (by omega) (by omega)]
        have eE : ¬ nI E = 0 := by rw [lit32 0, zEQ (by omega) (by omega)]; omega
        have r1 : jrem (nI b + 1) (nI E) = nI (nxE E b) := by rw [inc (show nI b + 1 = nI b + 1 from rfl), zREM (by omega) (by omega) (by omega), nx_mod b1]
        have r2 : jrem (nI k + 1) (nI E) = nI (nxE E k) := by rw [inc (show nI k + 1 = nI k + 1 from rfl), zREM (by omega) (by omega) (by omega), nx_mod (by omega)]
        refine ⟨fun hkb => ⟨eE, ?_⟩, fun hkb x17 e17 => ?_⟩
        · rw [r1]
          refine Ct.imp (sp_joins hL2 hE h02 hO hP (show k < E by omega) (nxE_lt (by omega))) (fun r s10 w10 => ?_)
          obtain ⟨rfl, hO2, c2⟩ := w10
          have h03 : mi s10 179 38 = nI E := by rw [c2.i (by simp [ch210])]; exact h02
          refine ⟨rfl, c2.fr, by rw [h03]; exact eE, ?_⟩
          rw [h03, r2]
          refine Ct.imp (sp_joins (c2.lay hL2) hE h03 hO2 (hP.uL (show k < E by omega) (nxE_lt (by omega))) (nxE_lt (by omega)) b1) (fun r s13 w13 => ?_)
          obtain ⟨rfl, hO3, c3⟩ := w13
          refine ⟨rfl, c3.fr, fun x15 e15 => ?_⟩
          rw [inc e15]
          refine ih (k + 1) s13 (by omega) (by omega) ((cs.trans c2).trans c3) ?_
          rw [hcs]
          show MO s13 E (if k < b then _ else _)
          rw [if_pos (by omega)]
          exact hO3
        · rw [inc e17]
          refine ih (k + 1) s (by omega) (by omega) cs ?_
          rw [hcs]
          show MO s E (if k < b then _ else _)
          rw [if_neg (by omega)]
          exact hO
  have l2 : ∀ (z k : Nat) (s : PS), z = E - k → k ≤ E → Ch ch210 noL σ s → (∀ i, i < k → mi s 210 i = nI i) → VX12_corners g (d + 1) P 2 [some (.ref 179), some (.ref o), some (.int (nI k)), none] [] s := by
    intro z
    induction z with
    | zero =>
      intro k s hz hk cs h
      have e : k = E := by omega
      subst e
      refine vcX12_corners_2 (cs.lay hL) _ _ (cs.1.1 ▸ ko) _ ?_
      rw [cs.i (by simp [ch210]), h0]
      exact ⟨fun _ => l25 k 0 s rfl (by omega) cs (fun i hi => h i hi), fun h => absurd (by rw [zLE (by omega) (by omega)]; omega) h⟩
    | succ z ih =>
      intro k s hz hk cs h
      refine vcX12_corners_2 (cs.lay hL) _ _ (cs.1.1 ▸ ko) _ ?_
      rw [cs.i (by simp [ch210]), h0]
      simp (disch := omega) only [zLE, zIN, zCL]
      refine ⟨fun h => by omega, fun _ => ⟨by omega, fun s2 e2 x4 e4 => ?_⟩⟩
      rw [inc e4]
      refine ih (k + 1) s2 (by omega) (by omega) (by rw [e2]; exact cs.si rfl) (fun i hi => ?_)
      rw [e2, mi_si]
      by_cases e : i = k
      · rw [if_pos ⟨rfl, e⟩, e]
      · rw [if_neg (by omega)]; exact h i (by omega)
  exact vcX12_corners hL _ _ ko (l2 E 0 σ rfl (by omega) Ch.rf (fun i hi => by omega))
