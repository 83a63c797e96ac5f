/-! ===== a body told cell by cell from a side of one of them, one way round (numbers alone) ===== -/
/-- number of a cell, its first side, the cell of a number, how many -/
abbrev BS := (Nat → Option Nat) × (Nat → Nat) × (Nat → Nat) × Nat
def bs0 (c s : Nat) : BS := (fun z => if z = c then some 0 else none, fun _ => s, fun _ => c, 1)
def bpl (st : Nat) (b : BS) (i : Nat) : Nat := 4 * b.2.2.1 (i / 4) + (b.2.1 (b.2.2.1 (i / 4)) + st * (i % 4)) % 4
def bnw (b : BS) (t : Nat) : BS := (fun z => if z = t / 4 then some b.2.2.2 else b.1 z, fun z => if z = t / 4 then t % 4 else b.2.1 z, fun k => if k = b.2.2.2 then t / 4 else b.2.2.1 k, b.2.2.2 + 1)
def bad (b : BS) (t : Nat) : BS := if b.1 (t / 4) = none then bnw b t else b
def brn (f : Nat → Nat) (st c s : Nat) : Nat → BS
  | 0 => bs0 c s
  | i + 1 => bad (brn f st c s i) (f (bpl st (brn f st c s i) i))
theorem brn_s (f : Nat → Nat) (st c s i : Nat) : brn f st c s (i + 1) = bad (brn f st c s i) (f (bpl st (brn f st c s i) i)) := rfl
def ben (b : BS) (st t : Nat) : Nat := 4 * (b.1 (t / 4)).getD 0 + ((t % 4 + 4 - b.2.1 (t / 4)) * st) % 4
def cod (f : Nat → Nat) (st c s i : Nat) : Nat := ben (brn f st c s (i + 1)) st (f (bpl st (brn f st c s i) i))
/-- all cells hang together -/
def Con (n : Nat) (f : Nat → Nat) : Prop := ∀ P : Nat → Prop, (∃ c, c < n ∧ P c) → (∀ q, q < 4 * n → P (q / 4) → P (f q / 4)) → ∀ c, c < n → P c
/-- a body: places to places -/
def Bdy (n : Nat) (f : Nat → Nat) : Prop := (∀ q, q < 4 * n → f q < 4 * n) ∧ Con n f
def BI (n : Nat) (b : BS) : Prop := 0 < b.2.2.2 ∧ (∀ k, k < b.2.2.2 → b.2.2.1 k < n ∧ b.1 (b.2.2.1 k) = some k ∧ b.2.1 (b.2.2.1 k) < 4) ∧ ∀ z k, b.1 z = some k → k < b.2.2.2 ∧ b.2.2.1 k = z
theorem bi0 {n c s : Nat} (hc : c < n) (hs : s < 4) : BI n (bs0 c s) := by
  refine ⟨Nat.one_pos, fun k hk => ?_, fun z k h => ?_⟩
  · have : k = 0 := by have : k < 1 := hk; omega
    subst this
    exact ⟨hc, if_pos rfl, hs⟩
  · by_cases e : z = c
    · have h' : (if z = c then some 0 else none) = some k := h
      rw [if_pos e] at h'
      cases h'
      exact ⟨Nat.one_pos, e.symm⟩
    · have h' : (if z = c then some 0 else none) = some k := h
      rw [if_neg e] at h'
      cases h'
theorem BI.fs {n : Nat} {b : BS} (h : BI n b) {z k : Nat} (hz : b.1 z = some k) : b.2.1 z < 4 := by
  obtain ⟨a, e⟩ := h.2.2 z k hz
  have := (h.2.1 k a).2.2
  rwa [e] at this
theorem bad_s {b : BS} {t k : Nat} (h : b.1 (t / 4) = some k) : bad b t = b := by unfold bad; rw [h, if_neg (by simp)]
theorem bad_n {b : BS} {t : Nat} (h : b.1 (t / 4) = none) : bad b t = bnw b t := by unfold bad; rw [if_pos h]
theorem BI.ad {n t : Nat} {b : BS} (h : BI n b) (ht : t < 4 * n) : BI n (bad b t) := by
  cases hz : b.1 (t / 4) with
  | some k => rw [bad_s hz]; exact h
  | none =>
    rw [bad_n hz]
    refine ⟨Nat.succ_pos _, fun k hk => ?_, fun z k hk => ?_⟩
    · have hk' : k < b.2.2.2 + 1 := hk
      by_cases e : k = b.2.2.2
      · show (if k = b.2.2.2 then t / 4 else b.2.2.1 k) < n ∧ (if (if k = b.2.2.2 then t / 4 else b.2.2.1 k) = t / 4 then some b.2.2.2 else b.1 (if k = b.2.2.2 then t / 4 else b.2.2.1 k)) = some k ∧ (if (if k = b.2.2.2 then t / 4 else b.2.2.1 k) = t / 4 then t % 4 else b.2.1 (if k = b.2.2.2 then t / 4 else b.2.2.1 k)) < 4
        rw [if_pos e, if_pos rfl, if_pos rfl]
        exact ⟨by omega, by rw [e], by omega⟩
      · obtain ⟨a1, a2, a3⟩ := h.2.1 k (by omega)
        have ne : b.2.2.1 k ≠ t / 4 := fun e2 => by rw [e2, hz] at a2; cases a2
        show (if k = b.2.2.2 then t / 4 else b.2.2.1 k) < n ∧ (if (if k = b.2.2.2 then t / 4 else b.2.2.1 k) = t / 4 then some b.2.2.2 else b.1 (if k = b.2.2.2 then t / 4 else b.2.2.1 k)) = some k ∧ (if (if k = b.2.2.2 then t / 4 else b.2.2.1 k) = t / 4 then t % 4 else b.2.1 (if k = b.2.2.2 then t / 4 else b.2.2.1 k)) < 4
        rw [if_neg e, if_neg ne, if_neg ne]
        exact ⟨a1, a2, a3⟩
    · have hk' : (if z = t / 4 then some b.2.2.2 else b.1 z) = some k := hk
      show k < b.2.2.2 + 1 ∧ (if k = b.2.2.2 then t / 4 else b.2.2.1 k) = z
      by_cases e : z = t / 4
      · rw [if_pos e] at hk'
        cases hk'
        exact ⟨by omega, by rw [if_pos rfl, e]⟩
      · rw [if_neg e] at hk'
        obtain ⟨a1, a2⟩ := h.2.2 z k hk'
        exact ⟨by omega, by rw [if_neg (by omega)]; exact a2⟩
/-- what is told stays so -/
def BLe (a b : BS) : Prop := a.2.2.2 ≤ b.2.2.2 ∧ (∀ z k, a.1 z = some k → b.1 z = some k ∧ b.2.1 z = a.2.1 z) ∧ ∀ k, k < a.2.2.2 → b.2.2.1 k = a.2.2.1 k
theorem BLe.rf {a : BS} : BLe a a := ⟨Nat.le_refl _, fun _ _ h => ⟨h, rfl⟩, fun _ _ => rfl⟩
theorem BLe.trans {a b c : BS} (h : BLe a b) (k : BLe b c) : BLe a c := ⟨Nat.le_trans h.1 k.1, fun z i e => by
  obtain ⟨e1, e2⟩ := h.2.1 z i e
  obtain ⟨e3, e4⟩ := k.2.1 z i e1
  exact ⟨e3, e4.trans e2⟩, fun i hi => (k.2.2 i (Nat.lt_of_lt_of_le hi h.1)).trans (h.2.2 i hi)⟩
theorem BLe.ad (b : BS) (t : Nat) : BLe b (bad b t) := by
  cases hz : b.1 (t / 4) with
  | some k => rw [bad_s hz]; exact BLe.rf
  | none =>
    rw [bad_n hz]
    refine ⟨Nat.le_succ _, fun z k h => ?_, fun k hk => if_neg (by omega)⟩
    have ne : z ≠ t / 4 := fun e => by rw [e, hz] at h; cases h
    exact ⟨(if_neg ne).trans h, if_neg ne⟩
theorem brn_le (f : Nat → Nat) (st c s i : Nat) : ∀ j, BLe (brn f st c s i) (brn f st c s (i + j)) := by
  intro j
  induction j with
  | zero => exact BLe.rf
  | succ j ih => rw [← Nat.add_assoc, brn_s]; exact ih.trans (BLe.ad _ _)
theorem bpl_le {n st i : Nat} {a b : BS} (ha : BI n a) (h : BLe a b) (hi : i / 4 < a.2.2.2) : bpl st b i = bpl st a i := by
  unfold bpl
  rw [h.2.2 _ hi, (h.2.1 _ _ (ha.2.1 _ hi).2.1).2]
theorem bpl_lt {n st i : Nat} {a : BS} (ha : BI n a) (hi : i / 4 < a.2.2.2) : bpl st a i < 4 * n := by
  have := (ha.2.1 _ hi).1
  unfold bpl
  omega
/-- what stands behind a step: the cell come upon is told -/
theorem bad_has (b : BS) (t : Nat) : ∃ k, (bad b t).1 (t / 4) = some k := by
  cases hz : b.1 (t / 4) with
  | some k => rw [bad_s hz]; exact ⟨k, hz⟩
  | none => rw [bad_n hz]; exact ⟨_, if_pos rfl⟩
theorem inj_le {n m : Nat} {f : Nat → Nat} (h1 : ∀ i, i < m → f i < n) (h2 : ∀ i j, i < m → j < m → f i = f j → i = j) : m ≤ n :=
  Nat.le_trans (cnt_inj m (fun _ => true) (fun i hi => ⟨h1 i hi, rfl⟩) h2) (cnt_le _ _)
theorem BI.le {n : Nat} {b : BS} (h : BI n b) : b.2.2.2 ≤ n := inj_le (f := b.2.2.1) (fun i hi => (h.2.1 i hi).1) (fun i j hi hj e => by
  have a := (h.2.1 i hi).2.1
  rw [e, (h.2.1 j hj).2.1] at a
  exact (Option.some.inj a).symm)
theorem st_inv {st : Nat} (hs : st = 1 ∨ st = 3) (q b : Nat) (hb : b < 4) : ∃ j, j < 4 ∧ (b + st * j) % 4 = q % 4 ∧ j = ((q % 4 + 4 - b) * st) % 4 := by
  refine ⟨((q % 4 + 4 - b) * st) % 4, by omega, ?_, rfl⟩
  rcases hs with rfl | rfl <;> omega
/-- a set of told cells whose sides are all gone through is all -/
theorem b_all {n st : Nat} {f : Nat → Nat} {b : BS} (hB : Bdy n f) (hs : st = 1 ∨ st = 3) (h : BI n b) (hp : ∀ i, i < 4 * b.2.2.2 → ∃ k, b.1 (f (bpl st b i) / 4) = some k) : ∀ z, z < n → ∃ k, b.1 z = some k := by
  refine hB.2 (fun z => ∃ k, b.1 z = some k) ⟨b.2.2.1 0, (h.2.1 0 h.1).1, 0, (h.2.1 0 h.1).2.1⟩ (fun q hq hz => ?_)
  obtain ⟨k, hk⟩ := hz
  obtain ⟨a1, a2⟩ := h.2.2 _ k hk
  obtain ⟨j, j1, j2, -⟩ := st_inv hs q (b.2.1 (q / 4)) (h.fs hk)
  have := hp (4 * k + j) (by omega)
  have e : bpl st b (4 * k + j) = q := by
    unfold bpl
    rw [show (4 * k + j) / 4 = k by omega, show (4 * k + j) % 4 = j by omega, a2, j2]
    omega
  rw [e] at this
  exact this
theorem brn_ok {n st c s : Nat} {f : Nat → Nat} (hB : Bdy n f) (hst : st = 1 ∨ st = 3) (hc : c < n) (hs : s < 4) : ∀ i, i ≤ 4 * n → BI n (brn f st c s i) ∧ (i < 4 * n → i / 4 < (brn f st c s i).2.2.2) ∧ ∀ j, j < i → j / 4 < (brn f st c s i).2.2.2 ∧ ∃ k, (brn f st c s i).1 (f (bpl st (brn f st c s i) j) / 4) = some k := by
  intro i
  induction i with
  | zero => intro _; exact ⟨bi0 hc hs, fun _ => Nat.one_pos, fun j hj => absurd hj (by omega)⟩
  | succ i ih =>
    intro hi
    obtain ⟨h1, h2, h3⟩ := ih (by omega)
    have h2' := h2 (by omega)
    have ht : f (bpl st (brn f st c s i) i) < 4 * n := hB.1 _ (bpl_lt h1 h2')
    have hle := BLe.ad (brn f st c s i) (f (bpl st (brn f st c s i) i))
    rw [brn_s]
    have hb := h1.ad ht
    have hpr : ∀ j, j < i + 1 → j / 4 < (bad (brn f st c s i) (f (bpl st (brn f st c s i) i))).2.2.2 ∧ ∃ k, (bad (brn f st c s i) (f (bpl st (brn f st c s i) i))).1 (f (bpl st (bad (brn f st c s i) (f (bpl st (brn f st c s i) i))) j) / 4) = some k := by
      intro j hj
      by_cases e : j = i
      · subst e
        rw [bpl_le h1 hle h2']
        exact ⟨Nat.lt_of_lt_of_le h2' hle.1, bad_has _ _⟩
      · obtain ⟨a1, k, hk⟩ := h3 j (by omega)
        rw [bpl_le h1 hle a1]
        exact ⟨Nat.lt_of_lt_of_le a1 hle.1, k, (hle.2.1 _ _ hk).1⟩
    refine ⟨hb, fun hlt => ?_, hpr⟩
    by_cases e : (i + 1) / 4 = i / 4
    · rw [e]; exact Nat.lt_of_lt_of_le h2' hle.1
    · refine Classical.byContradiction (fun hno => ?_)
      have := b_all (st := st) hB hst hb (fun j hj => (hpr j (by omega)).2)
      have hle2 : n ≤ (bad (brn f st c s i) (f (bpl st (brn f st c s i) i))).2.2.2 := inj_le (f := fun z => ((bad (brn f st c s i) (f (bpl st (brn f st c s i) i))).1 z).getD 0) (fun z hz => by
        obtain ⟨k, hk⟩ := this z hz
        rw [hk]
        exact (hb.2.2 z k hk).1) (fun z w hz hw e2 => by
        obtain ⟨k, hk⟩ := this z hz
        obtain ⟨l, hl⟩ := this w hw
        simp only [hk, hl, Option.getD_some] at e2
        subst e2
        exact (hb.2.2 z k hk).2.symm.trans (hb.2.2 w k hl).2)
      omega
/-- the whole telling -/
theorem brn_end {n st c s : Nat} {f : Nat → Nat} (hB : Bdy n f) (hst : st = 1 ∨ st = 3) (hc : c < n) (hs : s < 4) : BI n (brn f st c s (4 * n)) ∧ (brn f st c s (4 * n)).2.2.2 = n ∧ ∀ z, z < n → ∃ k, k < n ∧ (brn f st c s (4 * n)).1 z = some k := by
  obtain ⟨h1, -, h3⟩ := brn_ok hB hst hc hs (4 * n) (Nat.le_refl _)
  have hl := h1.le
  have ha := b_all (st := st) hB hst h1 (fun j hj => (h3 j (by omega)).2)
  have hge : n ≤ (brn f st c s (4 * n)).2.2.2 := by
    have := (h3 (4 * n - 1) (by omega)).1
    omega
  exact ⟨h1, by omega, fun z hz => by
    obtain ⟨k, hk⟩ := ha z hz
    have := (h1.2.2 z k hk).1
    exact ⟨k, by omega, hk⟩⟩
theorem cod_end {n st c s i : Nat} {f : Nat → Nat} (hB : Bdy n f) (hst : st = 1 ∨ st = 3) (hc : c < n) (hs : s < 4) (hi : i < 4 * n) : cod f st c s i = ben (brn f st c s (4 * n)) st (f (bpl st (brn f st c s (4 * n)) i)) := by
  obtain ⟨h1, h2, -⟩ := brn_ok hB hst hc hs i (by omega)
  have h2' := h2 hi
  have l1 := brn_le f st c s i (4 * n - i)
  rw [show i + (4 * n - i) = 4 * n by omega] at l1
  have l2 := brn_le f st c s (i + 1) (4 * n - (i + 1))
  rw [show i + 1 + (4 * n - (i + 1)) = 4 * n by omega] at l2
  rw [bpl_le h1 l1 h2']
  obtain ⟨k, hk⟩ := bad_has (brn f st c s i) (f (bpl st (brn f st c s i) i))
  obtain ⟨e1, e2⟩ := l2.2.1 _ k hk
  show ben (bad (brn f st c s i) (f (bpl st (brn f st c s i) i))) st _ = _
  unfold ben
  rw [e1, e2, hk]
  rfl
theorem ben_lt {n st t : Nat} {b : BS} (hst : st = 1 ∨ st = 3) (h : BI n b) (hz : ∃ k, b.1 (t / 4) = some k) : ben b st t < 4 * n := by
  obtain ⟨k, hk⟩ := hz
  have := (h.2.2 _ k hk).1
  have := h.le
  unfold ben
  rw [hk]
  simp only [Option.getD_some]
  omega
theorem cod_lt {n st c s i : Nat} {f : Nat → Nat} (hB : Bdy n f) (hst : st = 1 ∨ st = 3) (hc : c < n) (hs : s < 4) (hi : i < 4 * n) : cod f st c s i < 4 * n := by
  obtain ⟨h1, -, -⟩ := brn_ok hB hst hc hs (i + 1) (by omega)
  exact ben_lt hst h1 (bad_has _ _)
/-! the SAME: cells to cells, sides to sides -/
def im (H T : Nat → Nat) (ε q : Nat) : Nat := 4 * H (q / 4) + (T (q / 4) + ε * (q % 4)) % 4
def Iso (n : Nat) (f g : Nat → Nat) (H T : Nat → Nat) (ε : Nat) : Prop := (∀ c, c < n → H c < n ∧ T c < 4) ∧ (∀ a b, a < n → b < n → H a = H b → a = b) ∧ ∀ q, q < 4 * n → im H T ε (f q) = g (im H T ε q)
theorem im_lt {n ε q : Nat} {H T : Nat → Nat} (h : ∀ c, c < n → H c < n ∧ T c < 4) (hq : q < 4 * n) : im H T ε q < 4 * n := by
  have := (h (q / 4) (by omega)).1
  unfold im
  omega
theorem im_d (H T : Nat → Nat) (ε q : Nat) : im H T ε q / 4 = H (q / 4) ∧ im H T ε q % 4 = (T (q / 4) + ε * (q % 4)) % 4 := by
  unfold im
  omega
/-- two tellings that go side by side -/
def BR (n : Nat) (H T : Nat → Nat) (ε : Nat) (a b : BS) : Prop := b.2.2.2 = a.2.2.2 ∧ (∀ k, k < a.2.2.2 → b.2.2.1 k = H (a.2.2.1 k)) ∧ (∀ z, z < n → b.1 (H z) = a.1 z) ∧ ∀ z, z < n → a.1 z ≠ none → b.2.1 (H z) = (T z + ε * a.2.1 z) % 4
theorem BR.pl {n st ε i : Nat} {H T : Nat → Nat} {a b : BS} (hst : st = 1 ∨ st = 3) (hε : ε = 1 ∨ ε = 3) (h : BR n H T ε a b) (ha : BI n a) (hi : i / 4 < a.2.2.2) : bpl ((st * ε) % 4) b i = im H T ε (bpl st a i) := by
  obtain ⟨h1, h2, h3, h4⟩ := h
  obtain ⟨a1, a2, a3⟩ := ha.2.1 _ hi
  have e := h4 (a.2.2.1 (i / 4)) a1 (by rw [a2]; simp)
  obtain ⟨d1, d2⟩ : bpl st a i / 4 = a.2.2.1 (i / 4) ∧ bpl st a i % 4 = (a.2.1 (a.2.2.1 (i / 4)) + st * (i % 4)) % 4 := by unfold bpl; omega
  unfold im
  rw [d1, d2]
  unfold bpl
  rw [h2 _ hi, e]
  rcases hst with rfl | rfl <;> rcases hε with rfl | rfl <;> omega
theorem BR.ad {n ε t u : Nat} {H T : Nat → Nat} {a b : BS} (hI : ∀ x y, x < n → y < n → H x = H y → x = y) (h : BR n H T ε a b) (ha : BI n a) (ht : t < 4 * n) (hu : u = im H T ε t) : BR n H T ε (bad a t) (bad b u) := by
  obtain ⟨h1, h2, h3, h4⟩ := h
  obtain ⟨d1, d2⟩ := im_d H T ε t
  rw [← hu] at d1 d2
  have e3 := h3 (t / 4) (by omega)
  cases hz : a.1 (t / 4) with
  | some k =>
    rw [hz] at e3
    rw [bad_s hz, bad_s (k := k) (by rw [d1]; exact e3)]
    exact ⟨h1, h2, h3, h4⟩
  | none =>
    rw [hz] at e3
    rw [bad_n hz, bad_n (by rw [d1]; exact e3)]
    refine ⟨congrArg (· + 1) h1, fun k hk => ?_, fun z hz2 => ?_, fun z hz2 hne => ?_⟩
    · show (if k = b.2.2.2 then u / 4 else b.2.2.1 k) = H (if k = a.2.2.2 then t / 4 else a.2.2.1 k)
      rw [h1, d1]
      by_cases e : k = a.2.2.2
      · rw [if_pos e, if_pos e]
      · have hk' : k < a.2.2.2 + 1 := hk
        rw [if_neg e, if_neg e, h2 k (by omega)]
    · show (if H z = u / 4 then some b.2.2.2 else b.1 (H z)) = if z = t / 4 then some a.2.2.2 else a.1 z
      rw [h1, d1]
      by_cases e : z = t / 4
      · rw [if_pos e, if_pos (by rw [e])]
      · rw [if_neg e, if_neg (fun q => e (hI _ _ hz2 (by omega) q)), h3 z hz2]
    · show (if H z = u / 4 then u % 4 else b.2.1 (H z)) = (T z + ε * (if z = t / 4 then t % 4 else a.2.1 z)) % 4
      rw [d1]
      by_cases e : z = t / 4
      · rw [if_pos e, if_pos (by rw [e]), d2, e]
      · rw [if_neg e, if_neg (fun q => e (hI _ _ hz2 (by omega) q))]
        refine h4 z hz2 (fun w => hne ?_)
        exact (if_neg e).trans w
theorem BR.en {n st ε t : Nat} {H T : Nat → Nat} {a b : BS} (hst : st = 1 ∨ st = 3) (hε : ε = 1 ∨ ε = 3) (h : BR n H T ε a b) (ha : BI n a) (ht : t < 4 * n) (hz : ∃ k, a.1 (t / 4) = some k) : ben b ((st * ε) % 4) (im H T ε t) = ben a st t := by
  obtain ⟨h1, h2, h3, h4⟩ := h
  obtain ⟨d1, d2⟩ := im_d H T ε t
  obtain ⟨k, hk⟩ := hz
  have e3 := h3 (t / 4) (by omega)
  have e4 := h4 (t / 4) (by omega) (by rw [hk]; simp)
  have f4 := ha.fs hk
  unfold ben
  rw [d1, d2, e3, e4]
  rcases hst with rfl | rfl <;> rcases hε with rfl | rfl <;> omega
theorem BR.run {n st c s ε : Nat} {f g : Nat → Nat} {H T : Nat → Nat} (hB : Bdy n f) (hst : st = 1 ∨ st = 3) (hε : ε = 1 ∨ ε = 3) (hI : Iso n f g H T ε) (hc : c < n) (hs : s < 4) : ∀ i, i ≤ 4 * n → BR n H T ε (brn f st c s i) (brn g ((st * ε) % 4) (H c) (im H T ε (4 * c + s) % 4) i) := by
  intro i
  induction i with
  | zero =>
    intro _
    refine ⟨rfl, fun k hk => rfl, fun z hz => ?_, fun z hz hne => ?_⟩
    · show (if H z = H c then some 0 else none) = if z = c then some 0 else none
      by_cases e : z = c
      · rw [if_pos e, if_pos (by rw [e])]
      · rw [if_neg e, if_neg (fun q => e (hI.2.1 _ _ hz hc q))]
    · show im H T ε (4 * c + s) % 4 = (T z + ε * s) % 4
      have : z = c := by
        refine Classical.byContradiction (fun e => hne ?_)
        show (if z = c then some 0 else none) = none
        rw [if_neg e]
      rw [(im_d H T ε (4 * c + s)).2, show (4 * c + s) / 4 = c by omega, show (4 * c + s) % 4 = s by omega, this]
  | succ i ih =>
    intro hi
    have h := ih (by omega)
    obtain ⟨h1, h2, -⟩ := brn_ok hB hst hc hs i (by omega)
    have h2' := h2 (by omega)
    rw [brn_s, brn_s]
    refine h.ad hI.2.1 h1 (hB.1 _ (bpl_lt h1 h2')) ?_
    rw [h.pl hst hε h1 h2', hI.2.2 _ (bpl_lt h1 h2')]
/-- the telling of the image is the same -/
theorem Iso.cod {n st c s ε : Nat} {f g : Nat → Nat} {H T : Nat → Nat} (hB : Bdy n f) (hst : st = 1 ∨ st = 3) (hε : ε = 1 ∨ ε = 3) (hI : Iso n f g H T ε) (hc : c < n) (hs : s < 4) : ∀ i, i < 4 * n → cod g ((st * ε) % 4) (H c) (im H T ε (4 * c + s) % 4) i = cod f st c s i := by
  intro i hi
  have hr := BR.run hB hst hε hI hc hs (i + 1) (by omega)
  have hr0 := BR.run hB hst hε hI hc hs i (by omega)
  obtain ⟨h1, h2, -⟩ := brn_ok hB hst hc hs i (by omega)
  obtain ⟨h3, -, -⟩ := brn_ok hB hst hc hs (i + 1) (by omega)
  have h2' := h2 hi
  unfold _root_.Jvm.Pilot.CGluedPaperLaw_law_r5622_34d44b.cod
  rw [hr0.pl hst hε h1 h2', ← hI.2.2 _ (bpl_lt h1 h2')]
  exact hr.en hst hε h3 (hB.1 _ (bpl_lt h1 h2')) (bad_has _ _)
/-- tellings that are the same make the bodies the SAME -/
theorem cod_iso {n st c s st' c' s' : Nat} {f g : Nat → Nat} (hB : Bdy n f) (hB' : Bdy n g) (hst : st = 1 ∨ st = 3) (hst' : st' = 1 ∨ st' = 3) (hc : c < n) (hs : s < 4) (hc' : c' < n) (hs' : s' < 4) (h : ∀ i, i < 4 * n → cod f st c s i = cod g st' c' s' i) : ∃ H T, Iso n f g H T ((st * st') % 4) := by
  obtain ⟨a1, a2, a3⟩ := brn_end hB hst hc hs
  obtain ⟨b1, b2, b3⟩ := brn_end hB' hst' hc' hs'
  have hcf := fun i hi => cod_end (i := i) hB hst hc hs hi
  have hcg := fun i hi => cod_end (i := i) hB' hst' hc' hs' hi
  generalize brn f st c s (4 * n) = a at a1 a2 a3 hcf
  generalize brn g st' c' s' (4 * n) = b at b1 b2 b3 hcg
  refine ⟨fun z => b.2.2.1 ((a.1 z).getD 0), fun z => (b.2.1 (b.2.2.1 ((a.1 z).getD 0)) + ((st * st') % 4) * (4 - a.2.1 z)) % 4, fun z hz => ?_, fun z w hz hw e => ?_, fun q hq => ?_⟩
  · obtain ⟨k, k1, hk⟩ := a3 z hz
    simp only [hk, Option.getD_some]
    exact ⟨(b1.2.1 k (by omega)).1, by omega⟩
  · obtain ⟨k, k1, hk⟩ := a3 z hz
    obtain ⟨l, l1, hl⟩ := a3 w hw
    simp only [hk, hl, Option.getD_some] at e
    have e1 := (b1.2.1 k (by omega)).2.1
    rw [e, (b1.2.1 l (by omega)).2.1] at e1
    cases e1
    exact (a1.2.2 z _ hk).2.symm.trans (a1.2.2 w _ hl).2
  · -- places by their numbers
    have key : ∀ p, p < 4 * n → ben a st p < 4 * n ∧ bpl st a (ben a st p) = p ∧ bpl st' b (ben a st p) = im (fun z => b.2.2.1 ((a.1 z).getD 0)) (fun z => (b.2.1 (b.2.2.1 ((a.1 z).getD 0)) + ((st * st') % 4) * (4 - a.2.1 z)) % 4) ((st * st') % 4) p := by
      intro p hp
      obtain ⟨k, k1, hk⟩ := a3 (p / 4) (by omega)
      have o1 := (a1.2.2 _ k hk).2
      have f1 := a1.fs hk
      have f2 := (b1.2.1 k (by omega)).2.2
      have e : ben a st p = 4 * k + ((p % 4 + 4 - a.2.1 (p / 4)) * st) % 4 := by unfold ben; rw [hk]; rfl
      have e1 : ben a st p / 4 = k := by omega
      have e2 : ben a st p % 4 = ((p % 4 + 4 - a.2.1 (p / 4)) * st) % 4 := by omega
      refine ⟨by omega, ?_, ?_⟩
      · unfold bpl
        rw [e1, e2, o1]
        rcases hst with rfl | rfl <;> omega
      · unfold bpl im
        rw [e1, e2]
        simp only [hk, Option.getD_some]
        rcases hst with rfl | rfl <;> rcases hst' with rfl | rfl <;> omega
    obtain ⟨k1, k2, k3⟩ := key q hq
    obtain ⟨l1, l2, l3⟩ := key (f q) (hB.1 q hq)
    have e := h (ben a st q) k1
    rw [hcf _ k1, hcg _ k1, k2, k3] at e
    rw [← k3] at e
    rw [← l3, e, ← k3]
    have hg : g (bpl st' b (ben a st q)) < 4 * n := hB'.1 _ (bpl_lt b1 (by omega))
    generalize g (bpl st' b (ben a st q)) = p at hg
    obtain ⟨k, kk, hk⟩ := b3 (p / 4) (by omega)
    have o1 := (b1.2.2 _ k hk).2
    have f1 := b1.fs hk
    have e0 : ben b st' p = 4 * k + ((p % 4 + 4 - b.2.1 (p / 4)) * st') % 4 := by unfold ben; rw [hk]; rfl
    have e1 : ben b st' p / 4 = k := by omega
    have e2 : ben b st' p % 4 = ((p % 4 + 4 - b.2.1 (p / 4)) * st') % 4 := by omega
    unfold bpl
    rw [e1, e2, o1]
    rcases hst' with rfl | rfl <;> omega
