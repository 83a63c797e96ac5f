/-! ===== the GLUINGS of a rim, in their order (numbers alone) ===== -/
abbrev Mat := Nat → Option Nat
def nfm (m : Mat) : Nat → Nat → Nat
  | 0, a => a
  | k + 1, a => if (m a).isSome then nfm m k (a + 1) else a
def ff (E : Nat) (m : Mat) (a : Nat) : Nat := nfm m (E - a) a
theorem nfm_spec (m : Mat) : ∀ k a, a ≤ nfm m k a ∧ nfm m k a ≤ a + k ∧ (∀ e, a ≤ e → e < nfm m k a → (m e).isSome = true) ∧ (nfm m k a < a + k → m (nfm m k a) = none) := by
  intro k
  induction k with
  | zero => intro a; exact ⟨Nat.le_refl _, Nat.le_refl _, fun e h1 h2 => by have : e < a := h2; omega, fun h => absurd h (Nat.lt_irrefl a)⟩
  | succ k ih =>
    intro a
    unfold nfm
    by_cases h : (m a).isSome = true
    · rw [if_pos h]
      obtain ⟨h1, h2, h3, h4⟩ := ih (a + 1)
      refine ⟨by omega, by omega, fun e e1 e2 => ?_, fun h5 => h4 (by omega)⟩
      by_cases e3 : e = a
      · rw [e3]; exact h
      · exact h3 e (by omega) e2
    · rw [if_neg h]
      refine ⟨Nat.le_refl _, by omega, fun e e1 e2 => by omega, fun _ => ?_⟩
      cases hm : m a with
      | none => rfl
      | some b => rw [hm] at h; exact absurd rfl h
theorem ff_spec (E : Nat) (m : Mat) (a : Nat) (h : a ≤ E) : a ≤ ff E m a ∧ ff E m a ≤ E ∧ (∀ e, a ≤ e → e < ff E m a → (m e).isSome = true) ∧ (ff E m a < E → m (ff E m a) = none) := by
  obtain ⟨h1, h2, h3, h4⟩ := nfm_spec m (E - a) a
  exact ⟨h1, by unfold ff; omega, h3, fun q => h4 (by unfold ff at q; omega)⟩
theorem ff_at {E : Nat} {m : Mat} {a : Nat} (h : m a = none) : ff E m a = a := by
  unfold ff
  cases E - a with
  | zero => rfl
  | succ k => unfold nfm; rw [h]; rfl
theorem ff_step {E : Nat} {m : Mat} {a b : Nat} (ha : a < E) (h : m a = some b) : ff E m a = ff E m (a + 1) := by
  unfold ff
  rw [show E - a = (E - (a + 1)) + 1 by omega]
  conv => lhs; unfold nfm
  rw [h]
  rfl
theorem ff_end {E : Nat} {m : Mat} {a : Nat} (ha : E ≤ a) : ff E m a = a := by
  unfold ff
  rw [show E - a = 0 by omega]
  rfl
def setp (m : Mat) (f b : Nat) : Mat := fun e => if e = f then some b else if e = b then some f else m e
def bsl (m : Mat) (f : Nat) : Nat → Nat → List Nat
  | 0, _ => []
  | z + 1, b => if (m b).isSome then [] else if (b - f) % 2 = 0 then bsl m f z (b + 1) else b :: bsl m f z (b + 1)
def A4b (E : Nat) (lf q : Nat → Nat) : Bool := (List.range E).all (fun k => decide (tg E lf q k ≤ 4))
theorem A4b_is {E : Nat} {lf q : Nat → Nat} : A4b E lf q = true ↔ A4 E lf q := by
  unfold A4b A4
  simp
def en (E : Nat) (q : Nat → Nat) : Nat → Mat → Nat → List Mat
  | 0, _, _ => []
  | k + 1, m, a => if E ≤ ff E m a then (if A4b E (cl E m E) q then [m] else []) else
      (bsl m (ff E m a) (E - (ff E m a + 1)) (ff E m a + 1)).flatMap (fun b => en E q k (setp m (ff E m a) b) (ff E m a + 1))
theorem en_leaf {E : Nat} {q : Nat → Nat} {k a : Nat} {m : Mat} (h : E ≤ ff E m a) : en E q (k + 1) m a = if A4b E (cl E m E) q then [m] else [] := by
  conv => lhs; unfold en
  rw [if_pos h]
theorem en_node {E : Nat} {q : Nat → Nat} {k a f : Nat} {m : Mat} (hf : ff E m a = f) (h : f < E) : en E q (k + 1) m a = (bsl m f (E - (f + 1)) (f + 1)).flatMap (fun b => en E q k (setp m f b) (f + 1)) := by
  conv => lhs; unfold en
  rw [hf, if_neg (by omega)]
/-- pairs that do not cross, made from the first edge on; all before a are glued -/
def NP (E : Nat) (m : Mat) (a : Nat) : Prop := a ≤ E ∧ (∀ e, e < a → (m e).isSome = true) ∧ (∀ e b, m e = some b → e < E ∧ b < E ∧ b ≠ e ∧ m b = some e) ∧ (∀ e b, a ≤ e → m e = some b → b < a) ∧ (∀ e b c x, m e = some b → m c = some x → e < c → c < b → e < x ∧ x < b) ∧ ∀ e b, m e = some b → (e + b) % 2 = 1
theorem NP.le {E a : Nat} {m : Mat} (h : NP E m a) : a ≤ E := h.1
theorem NP.all {E a : Nat} {m : Mat} (h : NP E m a) : ∀ e, e < a → (m e).isSome = true := h.2.1
theorem NP.inv {E a : Nat} {m : Mat} (h : NP E m a) : ∀ e b, m e = some b → e < E ∧ b < E ∧ b ≠ e ∧ m b = some e := h.2.2.1
theorem NP.low {E a : Nat} {m : Mat} (h : NP E m a) : ∀ e b, a ≤ e → m e = some b → b < a := h.2.2.2.1
theorem NP.non {E a : Nat} {m : Mat} (h : NP E m a) : ∀ e b c x, m e = some b → m c = some x → e < c → c < b → e < x ∧ x < b := h.2.2.2.2.1
theorem NP.odd {E a : Nat} {m : Mat} (h : NP E m a) : ∀ e b, m e = some b → (e + b) % 2 = 1 := h.2.2.2.2.2
theorem NP.start (E : Nat) : NP E (fun _ => none) 0 := ⟨Nat.zero_le _, fun e h => absurd h (Nat.not_lt_zero e), fun _ _ h => (nomatch h), fun _ _ _ h => (nomatch h), fun _ _ _ _ h => (nomatch h), fun _ _ h => (nomatch h)⟩
theorem NP.set {E a f b : Nat} {m : Mat} (h : NP E m a) (hf : ff E m a = f) (hfE : f < E) (hfb : f < b) (hb : b < E) (hfree : ∀ c, f < c → c ≤ b → m c = none) (hodd : ¬ (b - f) % 2 = 0) : NP E (setp m f b) (f + 1) := by
  obtain ⟨f1, f2, f3, f4⟩ := ff_spec E m a h.le
  rw [hf] at f1 f2 f3 f4
  have mf := f4 hfE
  have mb := hfree b hfb (Nat.le_refl _)
  have sf : setp m f b f = some b := by unfold setp; rw [if_pos rfl]
  have sb : setp m f b b = some f := by unfold setp; rw [if_neg (by omega), if_pos rfl]
  have so : ∀ e, e ≠ f → e ≠ b → setp m f b e = m e := fun e h1 h2 => by unfold setp; rw [if_neg h1, if_neg h2]
  have ol : ∀ e x, m e = some x → e ≠ f ∧ e ≠ b ∧ x ≠ f ∧ x ≠ b := fun e x hx => by
    have h2 := (h.inv e x hx).2.2.2
    refine ⟨fun z => ?_, fun z => ?_, fun z => ?_, fun z => ?_⟩
    · rw [z, mf] at hx; cases hx
    · rw [z, mb] at hx; cases hx
    · rw [z, mf] at h2; cases h2
    · rw [z, mb] at h2; cases h2
  have cs : ∀ e x, setp m f b e = some x → e = f ∧ x = b ∨ e = b ∧ x = f ∨ m e = some x := fun e x hx => by
    unfold setp at hx
    split at hx
    · exact Or.inl ⟨by assumption, (Option.some.inj hx).symm⟩
    · split at hx
      · exact Or.inr (Or.inl ⟨by assumption, (Option.some.inj hx).symm⟩)
      · exact Or.inr (Or.inr hx)
  refine ⟨by omega, fun e he => ?_, fun e x hx => ?_, fun e x he hx => ?_, fun e x c y hx hy h1 h2 => ?_, fun e x hx => ?_⟩
  · by_cases e1 : e = f
    · rw [e1, sf]; rfl
    · rw [so e e1 (by omega)]
      by_cases e2 : e < a
      · exact h.all e e2
      · exact f3 e (by omega) (by omega)
  · rcases cs e x hx with ⟨rfl, rfl⟩ | ⟨rfl, rfl⟩ | ho
    · exact ⟨hfE, hb, by omega, sb⟩
    · exact ⟨hb, hfE, by omega, sf⟩
    · obtain ⟨a1, a2, a3, a4⟩ := h.inv e x ho
      obtain ⟨b1, b2, b3, b4⟩ := ol e x ho
      exact ⟨a1, a2, a3, by rw [so x b3 b4]; exact a4⟩
  · rcases cs e x hx with ⟨rfl, rfl⟩ | ⟨rfl, rfl⟩ | ho
    · omega
    · omega
    · have := h.low e x (by omega) ho
      omega
  · rcases cs e x hx with ⟨rfl, rfl⟩ | ⟨rfl, rfl⟩ | ho
    · rcases cs c y hy with ⟨rfl, rfl⟩ | ⟨rfl, rfl⟩ | hp
      · omega
      · omega
      · have := hfree c h1 (by omega)
        rw [this] at hp
        cases hp
    · omega
    · rcases cs c y hy with ⟨rfl, rfl⟩ | ⟨rfl, rfl⟩ | hp
      · have hxb := (ol e x ho).2.2.2
        refine ⟨by omega, ?_⟩
        rcases Nat.lt_or_ge y x with z | z
        · exact z
        · have := hfree x h2 z
          rw [(h.inv e x ho).2.2.2] at this
          cases this
      · have := h.low x e (by omega) (h.inv e x ho).2.2.2
        omega
      · exact h.non e x c y ho hp h1 h2
  · rcases cs e x hx with ⟨rfl, rfl⟩ | ⟨rfl, rfl⟩ | ho
    · omega
    · omega
    · exact h.odd e x ho
/-- a GLUING -/
def FM (E : Nat) (q : Nat → Nat) (m : Mat) : Prop := NP E m E ∧ A4 E (cl E m E) q
theorem bsl_mem {m : Mat} {f b : Nat} : ∀ z c, b ∈ bsl m f z c → c ≤ b ∧ b < c + z ∧ (∀ e, c ≤ e → e ≤ b → m e = none) ∧ ¬ (b - f) % 2 = 0 := by
  intro z
  induction z with
  | zero => intro c h; cases h
  | succ z ih =>
    intro c h
    unfold bsl at h
    split at h
    · cases h
    · rename_i hc
      have hc' : m c = none := by
        cases hm : m c with
        | none => rfl
        | some b => rw [hm] at hc; exact absurd rfl hc
      have rek : b ∈ bsl m f z (c + 1) → c ≤ b ∧ b < c + (z + 1) ∧ (∀ e, c ≤ e → e ≤ b → m e = none) ∧ ¬ (b - f) % 2 = 0 := by
        intro h
        obtain ⟨h1, h2, h3, h4⟩ := ih (c + 1) h
        refine ⟨by omega, by omega, fun e e1 e2 => ?_, h4⟩
        by_cases e3 : e = c
        · rw [e3]; exact hc'
        · exact h3 e (by omega) e2
      split at h
      · exact rek h
      · rename_i hp
        rcases List.mem_cons.mp h with h | h
        · subst h
          exact ⟨Nat.le_refl _, by omega, fun e e1 e2 => by rw [show e = b by omega]; exact hc', hp⟩
        · exact rek h
theorem en_FM {E : Nat} {q : Nat → Nat} : ∀ k m a, NP E m a → ∀ m', m' ∈ en E q k m a → FM E q m' := by
  intro k
  induction k with
  | zero => intro m a _ m' h; cases h
  | succ k ih =>
    intro m a h m' hm
    obtain ⟨f1, f2, f3, f4⟩ := ff_spec E m a h.le
    by_cases hf : E ≤ ff E m a
    · rw [en_leaf hf] at hm
      split at hm
      · rename_i h4
        replace h4 := A4b_is.mp h4
        have e := List.mem_singleton.mp hm
        subst e
        have fE : ff E m' a = E := by omega
        refine ⟨⟨Nat.le_refl _, fun e he => ?_, h.inv, fun e b h1 h2 => by have := (h.inv e b h2).1; omega, h.non, h.odd⟩, h4⟩
        by_cases e2 : e < a
        · exact h.all e e2
        · exact f3 e (by omega) (by omega)
      · cases hm
    · rw [en_node rfl (by omega)] at hm
      obtain ⟨b, hb, hb2⟩ := List.mem_flatMap.mp hm
      obtain ⟨b1, b2, b3, b4⟩ := bsl_mem _ _ hb
      exact ih _ _ (h.set rfl (by omega) (by omega) (by omega) (fun c c1 c2 => b3 c (by omega) c2) b4) m' hb2
theorem en_nil {E : Nat} {q : Nat → Nat} : ∀ k m a, a ≤ E → ¬ A4 E (cl E m a) q → en E q k m a = [] := by
  intro k
  induction k with
  | zero => intro m a _ _; rfl
  | succ k ih =>
    intro m a ha h
    obtain ⟨f1, f2, f3, f4⟩ := ff_spec E m a ha
    by_cases hf : E ≤ ff E m a
    · rw [en_leaf hf, if_neg (fun h4 => h ((A4b_is.mp h4).down ha))]
    · rw [en_node rfl (by omega), List.flatMap_eq_nil_iff]
      intro b hb
      obtain ⟨b1, b2, b3, b4⟩ := bsl_mem _ _ hb
      refine ih _ _ (by omega) (fun h4 => h ?_)
      have e : cl E m a = cl E (setp m (ff E m a) b) a := cl_congr a (fun e he => by unfold setp; rw [if_neg (by omega), if_neg (by omega)])
      rw [e]
      exact h4.down (by omega)
/-- all GLUINGS -/
def gls (E : Nat) (q : Nat → Nat) : List Mat := en E q 23 (fun _ => none) 0
theorem gls_FM {E : Nat} {q : Nat → Nat} {m : Mat} (h : m ∈ gls E q) : FM E q m := en_FM _ _ _ (NP.start E) m h
/-- how many are glued -/
def gcn (E : Nat) (m : Mat) : Nat := cnt (fun e => (m e).isSome) E
theorem gcn_set {E f b : Nat} {m : Mat} (hf : f < E) (hb : b < E) (hfb : f ≠ b) (mf : m f = none) (mb : m b = none) : gcn E (setp m f b) = gcn E m + 2 := by
  have sf : setp m f b f = some b := by unfold setp; rw [if_pos rfl]
  have sb : setp m f b b = some f := by unfold setp; rw [if_neg (by omega), if_pos rfl]
  unfold gcn
  rw [cnt_erase (k := f) hf (by rw [sf]; rfl), cnt_erase (k := b) hb (by rw [sb]; simp [Ne.symm hfb])]
  refine congrArg (fun z => z + 1 + 1) (cnt_congr (fun i _ => ?_))
  by_cases h1 : i = f
  · subst h1; simp [mf]
  · by_cases h2 : i = b
    · subst h2; simp [mb]
    · have e : setp m f b i = m i := by unfold setp; rw [if_neg h1, if_neg h2]
      show ((setp m f b i).isSome && !(i == f) && !(i == b)) = (m i).isSome
      rw [e, beq_false_of_ne h1, beq_false_of_ne h2, Bool.not_false, Bool.and_true, Bool.and_true]
theorem gcn_lt {E f : Nat} {m : Mat} (hf : f < E) (mf : m f = none) : gcn E m < E := by
  have a := cnt_lt (p := fun e => (m e).isSome) (q := fun _ => true) (n := E) (k := f) (fun _ _ _ => rfl) hf (by rw [mf]; rfl) rfl
  have b := cnt_le (fun _ => true) E
  unfold gcn
  omega
/-- the bits of the openers -/
def opn1 (m : Mat) (i : Nat) : Bool := match m i with
  | some b => decide (i < b)
  | none => false
def bt (m : Mat) : Nat → Nat
  | 0 => 0
  | i + 1 => bt m i + if opn1 m i then 2 ^ i else 0
theorem bt_lt (m : Mat) : ∀ i, bt m i < 2 ^ i := by
  intro i
  induction i with
  | zero => exact Nat.one_pos
  | succ i ih =>
    unfold bt
    rw [Nat.pow_succ]
    split <;> omega
theorem bt_bit (m : Mat) {i : Nat} : ∀ n, i < n → bt m n / 2 ^ i % 2 = if opn1 m i then 1 else 0 := by
  intro n
  induction n with
  | zero => intro h; omega
  | succ n ih =>
    intro h
    unfold bt
    by_cases e : i = n
    · subst e
      have := bt_lt m i
      split
      · rw [Nat.add_div_right _ (Nat.two_pow_pos i), Nat.div_eq_of_lt this]
      · rw [Nat.add_zero, Nat.div_eq_of_lt this]
    · have h2 := ih (by omega)
      split
      · rename_i hn
        rw [show 2 ^ n = 2 ^ i * (2 * 2 ^ (n - i - 1)) by
          rw [← Nat.mul_assoc, ← Nat.pow_succ, ← Nat.pow_add]; congr 1; omega]
        rw [Nat.add_mul_div_left _ _ (Nat.two_pow_pos i), Nat.add_mul_mod_self_left]
        exact h2
      · rw [Nat.add_zero]; exact h2
theorem bt_bit0 (m : Mat) {i n : Nat} (h : n ≤ i) : bt m n / 2 ^ i % 2 = 0 := by
  have := bt_lt m n
  rw [Nat.div_eq_of_lt (Nat.lt_of_lt_of_le this (Nat.pow_le_pow_right (by omega) h))]
