/-! ===== what is one does not hang on the order of the pairs ===== -/
/-- f is the same where the pairs of m make corners one -/
def Fx (E : Nat) (m : Mat) (f : Nat → Nat) : Prop := ∀ k b, k < E → m k = some b → k < b → f k = f (nxE E b) ∧ f (nxE E k) = f b
def Snd (E : Nat) (m : Mat) (l : Nat → Nat) : Prop := ∀ f : Nat → Nat, Fx E m f → ∀ i, i < E → f (l i) = f i
theorem snd_uL {E : Nat} {lf f : Nat → Nat} {a b : Nat} (h : ∀ i, i < E → f (lf i) = f i) (ha : a < E) (hb : b < E) (hab : f a = f b) : ∀ i, i < E → f (uL lf a b i) = f i := by
  intro i hi
  have h1 := h a ha
  have h2 := h b hb
  have h3 := h i hi
  have ca : min (lf a) (lf b) = lf a ∧ max (lf a) (lf b) = lf b ∨ min (lf a) (lf b) = lf b ∧ max (lf a) (lf b) = lf a := by omega
  unfold uL
  split
  · rename_i e
    rcases ca with ⟨c1, c2⟩ | ⟨c1, c2⟩
    · rw [c1]; rw [c2] at e; rw [← h3, e, h1, h2, hab]
    · rw [c1]; rw [c2] at e; rw [← h3, e, h1, h2, hab]
  · exact h3
theorem uL_ab (lf : Nat → Nat) (a b : Nat) : uL lf a b a = uL lf a b b := by
  unfold uL
  have ca : min (lf a) (lf b) = lf a ∧ max (lf a) (lf b) = lf b ∨ min (lf a) (lf b) = lf b ∧ max (lf a) (lf b) = lf a := by omega
  split <;> split <;> omega
theorem snd_pL {E : Nat} {lf f : Nat → Nat} {a b : Nat} (h : ∀ i, i < E → f (lf i) = f i) (ha : a < E) (hb : b < E) (h1 : f a = f (nxE E b)) (h2 : f (nxE E a) = f b) : ∀ i, i < E → f (pL E lf a b i) = f i :=
  snd_uL (snd_uL h ha (nxE_lt (by omega)) h1) (nxE_lt (by omega)) hb h2
theorem pL_con {E : Nat} {lf : Nat → Nat} {a b i j : Nat} (h : lf i = lf j) : pL E lf a b i = pL E lf a b j := uL_con (uL_con h)
theorem pL_ab (E : Nat) (lf : Nat → Nat) (a b : Nat) : pL E lf a b a = pL E lf a b (nxE E b) ∧ pL E lf a b (nxE E a) = pL E lf a b b := ⟨uL_con (uL_ab lf a (nxE E b)), uL_ab _ _ _⟩
theorem clS_con {E k i j : Nat} {lf : Nat → Nat} {o : Option Nat} (h : lf i = lf j) : clS E lf k o i = clS E lf k o j := by
  unfold clS
  cases o with
  | none => exact h
  | some b =>
    simp only
    split
    · exact pL_con h
    · exact h
theorem cl_con {E : Nat} {m : Mat} {i j k : Nat} : ∀ z, cl E m k i = cl E m k j → cl E m (k + z) i = cl E m (k + z) j := by
  intro z h
  induction z with
  | zero => exact h
  | succ z ih => exact clS_con ih
theorem cl_snd {E : Nat} {m : Mat} {f : Nat → Nat} (hm : ∀ e b, m e = some b → b < E) (hf : Fx E m f) : ∀ k, k ≤ E → ∀ i, i < E → f (cl E m k i) = f i := by
  intro k
  induction k with
  | zero => intro _ i _; rfl
  | succ k ih =>
    intro hk i hi
    rw [cl_s]
    unfold clS
    cases h : m k with
    | none => exact ih (by omega) i hi
    | some b =>
      simp only
      split
      · rename_i hkb
        obtain ⟨f1, f2⟩ := hf k b (by omega) h hkb
        exact snd_pL (ih (by omega)) (by omega) (hm k b h) f1 f2 i hi
      · exact ih (by omega) i hi
theorem cl_fx {E : Nat} {m : Mat} : Fx E m (cl E m E) := by
  intro k b hk h hkb
  have e : cl E m (k + 1) = pL E (cl E m k) k b := by
    rw [cl_s, h]
    show (if k < b then _ else _) = _
    rw [if_pos hkb]
  have h1 : cl E m (k + 1) k = cl E m (k + 1) (nxE E b) := by rw [e]; exact (pL_ab E _ k b).1
  have h2 : cl E m (k + 1) (nxE E k) = cl E m (k + 1) b := by rw [e]; exact (pL_ab E _ k b).2
  have g1 := cl_con (E - (k + 1)) h1
  have g2 := cl_con (E - (k + 1)) h2
  rw [show k + 1 + (E - (k + 1)) = E by omega] at g1 g2
  exact ⟨g1, g2⟩
theorem prt_eq {E : Nat} {m : Mat} {l1 l2 : Nat → Nat} (p1 : Prt E l1) (p2 : Prt E l2) (f1 : Fx E m l1) (f2 : Fx E m l2) (s1 : Snd E m l1) (s2 : Snd E m l2) : ∀ i, i < E → l1 i = l2 i := by
  intro i hi
  have a := (p1 i hi).1
  have b := (p2 i hi).1
  have c := s2 l1 f1 i hi
  have d := s1 l2 f2 i hi
  have c2 := (p1 (l2 i) (by omega)).1
  have d2 := (p2 (l1 i) (by omega)).1
  omega
theorem setp_swap {m : Mat} {a b : Nat} (h : a ≠ b) : setp m a b = setp m b a := by
  funext e
  unfold setp
  by_cases h1 : e = a
  · rw [if_pos h1, if_neg (by omega), if_pos h1]
  · by_cases h2 : e = b
    · rw [if_neg h1, if_pos h2, if_pos h2]
    · rw [if_neg h1, if_neg h2, if_neg h2, if_neg h1]
theorem setp_cases {m : Mat} {a b e x : Nat} (h : setp m a b e = some x) : e = a ∧ x = b ∨ e = b ∧ x = a ∨ e ≠ a ∧ e ≠ b ∧ m e = some x := by
  unfold setp at h
  by_cases h1 : e = a
  · rw [if_pos h1] at h; exact Or.inl ⟨h1, (Option.some.inj h).symm⟩
  · rw [if_neg h1] at h
    by_cases h2 : e = b
    · rw [if_pos h2] at h; exact Or.inr (Or.inl ⟨h2, (Option.some.inj h).symm⟩)
    · rw [if_neg h2] at h; exact Or.inr (Or.inr ⟨h1, h2, h⟩)
/-- one more pair, laid last or in its place -/
theorem cl_set {E a b : Nat} {m : Mat} (hm : ∀ e x, m e = some x → x < E) (ha : a < E) (hb : b < E) (hab : a ≠ b) (ma : m a = none) (mb : m b = none) : ∀ i, i < E → pL E (cl E m E) a b i = cl E (setp m a b) E i := by
  have hm2 : ∀ e x, setp m a b e = some x → x < E := fun e x h => by
    rcases setp_cases h with ⟨-, rfl⟩ | ⟨-, rfl⟩ | ⟨-, -, h⟩
    · exact hb
    · exact ha
    · exact hm e x h
  have old : ∀ e x, m e = some x → setp m a b e = some x := fun e x h => by
    unfold setp
    rw [if_neg (fun w => by rw [w, ma] at h; cases h), if_neg (fun w => by rw [w, mb] at h; cases h)]
    exact h
  have sa : setp m a b a = some b := by unfold setp; rw [if_pos rfl]
  have sb : setp m a b b = some a := by unfold setp; rw [if_neg (Ne.symm hab), if_pos rfl]
  refine prt_eq (m := setp m a b) ((Prt.cl hm E (Nat.le_refl _)).pL ha hb) (Prt.cl hm2 E (Nat.le_refl _)) (fun k x hk h hkx => ?_) cl_fx (fun f hf => ?_) (fun f hf => cl_snd hm2 hf E (Nat.le_refl _))
  · rcases setp_cases h with ⟨rfl, rfl⟩ | ⟨rfl, rfl⟩ | ⟨-, -, h⟩
    · exact pL_ab E _ k x
    · have := pL_ab E (cl E m E) x k
      exact ⟨this.2.symm, this.1.symm⟩
    · obtain ⟨h1, h2⟩ := cl_fx (E := E) (m := m) k x hk h hkx
      exact ⟨pL_con h1, pL_con h2⟩
  · have hfm : Fx E m f := fun k x hk h hkx => hf k x hk (old k x h) hkx
    have base := cl_snd hm hfm E (Nat.le_refl _)
    rcases Nat.lt_or_ge a b with w | w
    · obtain ⟨h1, h2⟩ := hf a b ha sa w
      exact snd_pL base ha hb h1 h2
    · obtain ⟨h1, h2⟩ := hf b a hb sb (by omega)
      exact snd_pL base ha hb h2.symm h1.symm
theorem tg_congr {E k : Nat} {l1 l2 q : Nat → Nat} (h : ∀ i, i < E → l1 i = l2 i) (hk : k < E) : tg E l1 q k = tg E l2 q k := by
  unfold tg tgr
  refine sumN_congr (fun j hj => ?_)
  rw [h j hj, h k hk]
theorem A4_congr {E : Nat} {l1 l2 q : Nat → Nat} (h : ∀ i, i < E → l1 i = l2 i) : A4 E l1 q ↔ A4 E l2 q := by
  constructor
  · intro a k hk; rw [← tg_congr h hk]; exact a k hk
  · intro a k hk; rw [tg_congr h hk]; exact a k hk
/-- the sums of the roots as the class keeps them, after the pairs of m in order -/
def cqS (E : Nat) (lf qf : Nat → Nat) (k : Nat) (o : Option Nat) : Nat → Nat := match o with
  | some b => if k < b then pQ E lf qf k b else qf
  | none => qf
def cq (E : Nat) (m : Mat) (q : Nat → Nat) : Nat → Nat → Nat
  | 0 => q
  | k + 1 => cqS E (cl E m k) (cq E m q k) k (m k)
theorem cq_s (E : Nat) (m : Mat) (q : Nat → Nat) (k : Nat) : cq E m q (k + 1) = cqS E (cl E m k) (cq E m q k) k (m k) := rfl
theorem cq_RQ {E : Nat} {m : Mat} {q : Nat → Nat} (hm : ∀ e b, m e = some b → b < E) : ∀ k, k ≤ E → RQ E (cl E m k) (cq E m q k) q := by
  intro k
  induction k with
  | zero => intro _; exact RQ.id
  | succ k ih =>
    intro hk
    rw [cl_s, cq_s]
    unfold clS cqS
    cases h : m k with
    | none => exact ih (by omega)
    | some b =>
      simp only
      split
      · exact (ih (by omega)).p (Prt.cl hm k (by omega)) (by omega) (hm k b h)
      · exact ih (by omega)
/-- the pair laid at k succeeds, and the sums stay small -/
theorem cq_ok {E : Nat} {m : Mat} {q : Nat → Nat} (hm : ∀ e b, m e = some b → b < E) (hq : ∀ i, i < E → q i ≤ 4) (h4 : A4 E (cl E m E) q) : ∀ k, k ≤ E → ∀ i, i < E → cq E m q k i ≤ 4 := by
  intro k
  induction k with
  | zero => intro _; exact hq
  | succ k ih =>
    intro hk
    have h4k : A4 E (cl E m (k + 1)) q := h4.down hk
    rw [cq_s]
    rw [cl_s] at h4k
    unfold clS at h4k
    unfold cqS
    cases h : m k with
    | none => exact ih (by omega)
    | some b =>
      rw [h] at h4k
      simp only at h4k ⊢
      by_cases w : k < b
      · rw [if_pos w] at h4k ⊢
        have hp := (A4_p (cq_RQ (q := q) hm k (by omega)) (Prt.cl hm k (by omega)) (by omega) (hm k b h) (h4.down (by omega))).mp h4k
        exact pQ_le4 (ih (by omega)) hp.1 hp.2
      · rw [if_neg w]; exact ih (by omega)
