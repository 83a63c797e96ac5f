/-! ===== bodies: what is beyond a side, turning about a corner (numbers alone) ===== -/
def VF (n : Nat) (x y : Nat → Nat) (E : Nat) : Prop := 0 < n ∧ n ≤ 10 ∧ Dst n x y ∧ Opn n x y (0, 0) ∧ Per n x y E ∧ E = opc n x y ∧ E ≤ 22
def trq (n : Nat) (x y : Nat → Nat) (j : Nat) : Nat := 4 * (tr n x y j).1 + (tr n x y j).2
theorem eAt_some {n : Nat} {x y : Nat → Nat} {E q j : Nat} (h : eAt n x y E q = some j) : j < E ∧ trq n x y j = q := by
  obtain ⟨a, b, -⟩ := fnd_some h
  exact ⟨a, by simpa [trq] using b⟩
theorem eAt_is {n : Nat} {x y : Nat → Nat} {E j : Nat} (hF : VF n x y E) (hj : j < E) : eAt n x y E (trq n x y j) = some j := by
  refine fnd_is hj (by simp [trq]) (fun i hi => ?_)
  cases hb : (4 * (tr n x y i).1 + (tr n x y i).2 == trq n x y j) with
  | false => rfl
  | true =>
    have a := (tr_open hF.2.2.1 hF.2.2.2.1 i).2.1
    have b := (tr_open hF.2.2.1 hF.2.2.2.1 j).2.1
    simp only [beq_iff_eq, trq] at hb
    have := hF.2.2.2.2.1.2.2.2 i j (by omega) hj (Prod.ext (by omega) (by omega))
    omega
theorem trq_lt {n : Nat} {x y : Nat → Nat} {E j : Nat} (hF : VF n x y E) : trq n x y j < 4 * n := by
  obtain ⟨a, b, -⟩ := tr_open hF.2.2.1 hF.2.2.2.1 j
  unfold trq
  omega
/-- every open side is on the rim -/
theorem eAt_none {n : Nat} {x y : Nat → Nat} {E q : Nat} (hF : VF n x y E) (hq : q < 4 * n) (h : eAt n x y E q = none) : ∃ b, bhd n x y (q / 4) (q % 4) = some b := by
  cases hb : bhd n x y (q / 4) (q % 4) with
  | some b => exact ⟨b, rfl⟩
  | none =>
    exfalso
    have hD := hF.2.2.1
    have ho := hF.2.2.2.1
    have hno := fnd_none h
    have := cnt_inj (N := 4 * n) (f := fun i => if i = E then q else trq n x y i) (E + 1) (fun q => (bhd n x y (q / 4) (q % 4)).isNone) (fun i hi => ?_) (fun i j hi hj e => ?_)
    · have := hF.2.2.2.2.2.1
      unfold opc at this
      omega
    · by_cases e : i = E
      · simp only [e, if_true]
        exact ⟨hq, by rw [hb]; rfl⟩
      · simp only [e, if_false]
        refine ⟨trq_lt hF, ?_⟩
        obtain ⟨a, b, c⟩ := tr_open hD ho i
        unfold trq
        rw [show (4 * (tr n x y i).1 + (tr n x y i).2) / 4 = (tr n x y i).1 by omega, show (4 * (tr n x y i).1 + (tr n x y i).2) % 4 = (tr n x y i).2 by omega, c]
        rfl
    · by_cases e1 : i = E <;> by_cases e2 : j = E
      · omega
      · exfalso
        simp only [e1, e2, if_true, if_false] at e
        have := hno j (by omega)
        rw [e] at this
        simp [trq] at this
      · exfalso
        simp only [e1, e2, if_true, if_false] at e
        have := hno i (by omega)
        rw [← e] at this
        simp [trq] at this
      · simp only [e1, e2, if_false] at e
        have a := (tr_open hD ho i).2.1
        have b := (tr_open hD ho j).2.1
        unfold trq at e
        exact hF.2.2.2.2.1.2.2.2 i j (by omega) (by omega) (Prod.ext (by omega) (by omega))
theorem open_none {n : Nat} {x y : Nat → Nat} {j : Nat} (hD : Dst n x y) (ho : Opn n x y (0, 0)) : bhd n x y (trq n x y j / 4) (trq n x y j % 4) = none := by
  obtain ⟨a, b, c⟩ := tr_open hD ho j
  unfold trq
  rw [show (4 * (tr n x y j).1 + (tr n x y j).2) / 4 = (tr n x y j).1 by omega, show (4 * (tr n x y j).1 + (tr n x y j).2) % 4 = (tr n x y j).2 by omega, c]
def Mt (E : Nat) (m : Nat → Nat) : Prop := ∀ e, e < E → m e < E ∧ m (m e) = e ∧ m e ≠ e
def bdy (n : Nat) (x y : Nat → Nat) (E : Nat) (m : Nat → Nat) (q : Nat) : Nat := match eAt n x y E q with
  | some e => trq n x y (m e)
  | none => match bhd n x y (q / 4) (q % 4) with
    | some b => 4 * b + (q + 2) % 4
    | none => 0
theorem bdy_e {n : Nat} {x y : Nat → Nat} {E : Nat} {m : Nat → Nat} {q e : Nat} (h : eAt n x y E q = some e) : bdy n x y E m q = trq n x y (m e) := by
  unfold bdy
  rw [h]
theorem bdy_b {n : Nat} {x y : Nat → Nat} {E : Nat} {m : Nat → Nat} {q b : Nat} (h : eAt n x y E q = none) (hb : bhd n x y (q / 4) (q % 4) = some b) : bdy n x y E m q = 4 * b + (q + 2) % 4 := by
  unfold bdy
  rw [h, hb]
theorem bdy_lt {n : Nat} {x y : Nat → Nat} {E : Nat} {m : Nat → Nat} {q : Nat} (hF : VF n x y E) (hq : q < 4 * n) : bdy n x y E m q < 4 * n := by
  cases h : eAt n x y E q with
  | some e => rw [bdy_e h]; exact trq_lt hF
  | none =>
    obtain ⟨b, hb⟩ := eAt_none hF hq h
    rw [bdy_b h hb]
    have := bhd_lt b hb
    omega
theorem bdy_inv {n : Nat} {x y : Nat → Nat} {E : Nat} {m : Nat → Nat} {q : Nat} (hF : VF n x y E) (hm : Mt E m) (hq : q < 4 * n) : bdy n x y E m (bdy n x y E m q) = q := by
  cases h : eAt n x y E q with
  | some e =>
    obtain ⟨he, e2⟩ := eAt_some h
    rw [bdy_e h, bdy_e (eAt_is hF (hm e he).1), (hm e he).2.1, e2]
  | none =>
    obtain ⟨b, hb⟩ := eAt_none hF hq h
    rw [bdy_b h hb]
    have hbn := bhd_lt b hb
    have hback := bhd_back hF.2.2.1 (by omega) (by omega) hb
    have e1 : (4 * b + (q + 2) % 4) / 4 = b := by omega
    have e2 : (4 * b + (q + 2) % 4) % 4 = (q % 4 + 2) % 4 := by omega
    have h2 : eAt n x y E (4 * b + (q + 2) % 4) = none := by
      cases h3 : eAt n x y E (4 * b + (q + 2) % 4) with
      | none => rfl
      | some j =>
        obtain ⟨hj, e3⟩ := eAt_some h3
        have := open_none (j := j) hF.2.2.1 hF.2.2.2.1
        rw [e3, e1, e2, hback] at this
        cases this
    rw [bdy_b h2 (by rw [e1, e2]; exact hback)]
    omega
theorem bdy_ne {n : Nat} {x y : Nat → Nat} {E : Nat} {m : Nat → Nat} {q : Nat} (hF : VF n x y E) (hm : Mt E m) (hq : q < 4 * n) : bdy n x y E m q ≠ q := by
  cases h : eAt n x y E q with
  | some e =>
    obtain ⟨he, e2⟩ := eAt_some h
    rw [bdy_e h, ← e2]
    intro e3
    have a := eAt_is hF (hm e he).1
    rw [e3, eAt_is hF he] at a
    exact (hm e he).2.2 (Option.some.inj a).symm
  | none =>
    obtain ⟨b, hb⟩ := eAt_none hF hq h
    rw [bdy_b h hb]
    omega
/-! turning -/
def nxs (q : Nat) : Nat := 4 * (q / 4) + (q + 1) % 4
def itf (f : Nat → Nat) : Nat → Nat → Nat
  | 0, q => q
  | k + 1, q => f (itf f k q)
theorem itf_lt {f : Nat → Nat} {N q : Nat} (hf : ∀ q, q < N → f q < N) (hq : q < N) : ∀ k, itf f k q < N := by
  intro k
  induction k with
  | zero => exact hq
  | succ k ih => exact hf _ ih
theorem itf_ret {f : Nat → Nat} {N q i j : Nat} (hf : ∀ q, q < N → f q < N) (hi : ∀ a b, a < N → b < N → f a = f b → a = b) (hq : q < N) (hij : i < j) (h : itf f i q = itf f j q) : itf f (j - i) q = q := by
  induction i generalizing j with
  | zero => exact h.symm
  | succ i ih =>
    obtain ⟨j, rfl⟩ : ∃ z, j = z + 1 := ⟨j - 1, by omega⟩
    have := ih (by omega) (hi _ _ (itf_lt hf hq i) (itf_lt hf hq j) h)
    rw [show j + 1 - (i + 1) = j - i by omega]
    exact this
/-- the length of the round of q under f, N at most -/
def orb (f : Nat → Nat) (N q : Nat) : Nat := match fnd (fun k => itf f (k + 1) q == q) N with
  | some k => k + 1
  | none => 0
theorem orb_is {f : Nat → Nat} {N q : Nat} (hf : ∀ q, q < N → f q < N) (hi : ∀ a b, a < N → b < N → f a = f b → a = b) (hq : q < N) : 0 < orb f N q ∧ orb f N q ≤ N ∧ itf f (orb f N q) q = q ∧ ∀ j, 0 < j → j < orb f N q → itf f j q ≠ q := by
  cases h : fnd (fun k => itf f (k + 1) q == q) N with
  | some k =>
    obtain ⟨a, b, c⟩ := fnd_some h
    have e : orb f N q = k + 1 := by unfold orb; rw [h]
    rw [e]
    refine ⟨by omega, by omega, by simpa using b, fun j hj hjk e2 => ?_⟩
    have := c (j - 1) (by omega)
    rw [show j - 1 + 1 = j by omega, e2] at this
    simp at this
  | none =>
    exfalso
    have hno := fnd_none h
    have := cnt_inj (N := N) (f := fun i => itf f i q) (N + 1) (fun _ => true) (fun i _ => ⟨itf_lt hf hq i, rfl⟩) (fun i j hi2 hj2 e => ?_)
    · have := cnt_le (fun _ => true) N
      omega
    · rcases Nat.lt_trichotomy i j with z | z | z
      · have r := itf_ret hf hi hq z e
        have := hno (j - i - 1) (by omega)
        rw [show j - i - 1 + 1 = j - i by omega, r] at this
        simp at this
      · exact z
      · have r := itf_ret hf hi hq z e.symm
        have := hno (i - j - 1) (by omega)
        rw [show i - j - 1 + 1 = i - j by omega, r] at this
        simp at this
def rot (n : Nat) (x y : Nat → Nat) (E : Nat) (m : Nat → Nat) (q : Nat) : Nat := bdy n x y E m (nxs q)
def tn (n : Nat) (x y : Nat → Nat) (E : Nat) (m : Nat → Nat) (q : Nat) : Nat := orb (rot n x y E m) (4 * n) q
theorem nxs_lt {n q : Nat} (h : q < 4 * n) : nxs q < 4 * n := by unfold nxs; omega
theorem rot_lt {n : Nat} {x y : Nat → Nat} {E : Nat} {m : Nat → Nat} (hF : VF n x y E) : ∀ q, q < 4 * n → rot n x y E m q < 4 * n := fun q h => bdy_lt hF (nxs_lt h)
theorem rot_inj {n : Nat} {x y : Nat → Nat} {E : Nat} {m : Nat → Nat} (hF : VF n x y E) (hm : Mt E m) : ∀ a b, a < 4 * n → b < 4 * n → rot n x y E m a = rot n x y E m b → a = b := by
  intro a b ha hb h
  have := congrArg (bdy n x y E m) h
  unfold rot at this
  rw [bdy_inv hF hm (nxs_lt ha), bdy_inv hF hm (nxs_lt hb)] at this
  unfold nxs at this
  omega
theorem tn_is {n : Nat} {x y : Nat → Nat} {E : Nat} {m : Nat → Nat} {q : Nat} (hF : VF n x y E) (hm : Mt E m) (hq : q < 4 * n) : 0 < tn n x y E m q ∧ tn n x y E m q ≤ 4 * n ∧ itf (rot n x y E m) (tn n x y E m q) q = q ∧ ∀ j, 0 < j → j < tn n x y E m q → itf (rot n x y E m) j q ≠ q := orb_is (rot_lt hF) (rot_inj hF hm) hq
