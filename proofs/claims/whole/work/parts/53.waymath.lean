/-! ===== straight ways (numbers alone) ===== -/
def crs (f : Nat → Nat) (s : Nat) (p : Nat × Nat) : Nat × Nat := (f (4 * p.1 + (s + p.2) % 4) / 4, (f (4 * p.1 + (s + p.2) % 4) % 4 + 6 - s) % 4)
def wk (f t : Nat → Nat) (w h sx sy bt : Nat) : Nat → Nat → Nat → Nat × Nat → Option (Nat × Nat)
  | 0, _, _, p => some p
  | k + 1, c, r, p => if c < w ∨ r < h then
      (if (2 * c + 1) * h = (2 * r + 1) * w then (if t (4 * p.1 + (bt + p.2) % 4) = 4 then wk f t w h sx sy bt k (c + 1) (r + 1) (crs f sy (crs f sx p)) else none)
      else if (2 * c + 1) * h < (2 * r + 1) * w then wk f t w h sx sy bt k (c + 1) r (crs f sx p)
      else wk f t w h sx sy bt k c (r + 1) (crs f sy p))
    else some p
theorem sgn_c {w h c r : Nat} (hc : c = w) (hr : r < h) : (2 * r + 1) * w < (2 * c + 1) * h := by
  subst hc
  have a : (2 * r + 1) * c ≤ (2 * h) * c := Nat.mul_le_mul_right c (by omega)
  have b : (2 * c + 1) * h = 2 * h * c + h := by rw [Nat.add_mul, Nat.one_mul, Nat.mul_assoc, Nat.mul_comm c h, ← Nat.mul_assoc]
  omega
theorem sgn {w h c r : Nat} (hc : c ≤ w) (hr : r ≤ h) (hor : c < w ∨ r < h) : ((2 * c + 1) * h = (2 * r + 1) * w → c < w ∧ r < h) ∧ ((2 * c + 1) * h < (2 * r + 1) * w → c < w) ∧ ((2 * r + 1) * w < (2 * c + 1) * h → r < h) := by
  by_cases h1 : c = w
  · have hr2 : r < h := by omega
    have := sgn_c h1 hr2
    exact ⟨fun q => by omega, fun q => by omega, fun _ => hr2⟩
  · by_cases h2 : r = h
    · have := sgn_c h2 (show c < w by omega)
      exact ⟨fun q => by omega, fun _ => by omega, fun q => by omega⟩
    · exact ⟨fun _ => ⟨by omega, by omega⟩, fun _ => by omega, fun _ => by omega⟩
theorem wk_w0 (f t : Nat → Nat) (h sx sx' sy bt bt' : Nat) : ∀ k c r p, wk f t 0 h sx sy bt k c r p = wk f t 0 h sx' sy bt' k c r p := by
  intro k
  induction k with
  | zero => intro c r p; rfl
  | succ k ih =>
    intro c r p
    unfold wk
    by_cases q : r < h
    · have hp : 0 < (2 * c + 1) * h := Nat.mul_pos (by omega) (by omega)
      rw [if_pos (Or.inr q), if_pos (Or.inr q), Nat.mul_zero, if_neg (by omega), if_neg (by omega), if_neg (by omega), if_neg (by omega)]
      exact ih c (r + 1) (crs f sy p)
    · rw [if_neg (by omega), if_neg (by omega)]
theorem wk_h0 (f t : Nat → Nat) (w sx sy sy' bt bt' : Nat) : ∀ k c r p, wk f t w 0 sx sy bt k c r p = wk f t w 0 sx sy' bt' k c r p := by
  intro k
  induction k with
  | zero => intro c r p; rfl
  | succ k ih =>
    intro c r p
    unfold wk
    by_cases q : c < w
    · have hp : 0 < (2 * r + 1) * w := Nat.mul_pos (by omega) (by omega)
      rw [if_pos (Or.inl q), if_pos (Or.inl q), Nat.mul_zero, if_neg (by omega), if_pos (by omega), if_neg (by omega), if_pos (by omega)]
      exact ih (c + 1) r (crs f sx p)
    · rw [if_neg (by omega), if_neg (by omega)]
/-- how far, of a step told as 12 more -/
def wd (k : Nat) : Nat := if k < 12 then 12 - k else k - 12
theorem wd_le {k : Nat} (h : k < 25) : wd k ≤ 12 := by unfold wd; split <;> omega
def btw (gx gy : Nat) : Nat := if gx = 1 then gy / 2 else 3 - gy / 2
/-- the way from cell c by kx - 12, ky - 12 -/
def way' (f t : Nat → Nat) (c kx ky : Nat) : Option (Nat × Nat) := wk f t (wd kx) (wd ky) (if kx < 12 then 3 else 1) (if ky < 12 then 0 else 2) (btw (if kx < 12 then 3 else 1) (if ky < 12 then 0 else 2)) 24 0 0 (c, 0)
theorem way_cls (f t : Nat → Nat) (c kx ky : Nat) : way' f t c kx ky = wk f t (wd kx) (wd ky) (if 12 < kx then 1 else 3) (if 12 < ky then 2 else 0) (btw (if 12 < kx then 1 else 3) (if 12 < ky then 2 else 0)) 24 0 0 (c, 0) := by
  unfold way'
  by_cases h1 : kx = 12
  · subst h1
    rw [show wd 12 = 0 from rfl]
    by_cases h2 : ky = 12
    · subst h2
      rfl
    · have e : (if ky < 12 then 0 else 2) = (if 12 < ky then 2 else 0) := by split <;> split <;> omega
      rw [e]
      exact wk_w0 ..
  · have e1 : (if kx < 12 then 3 else 1) = (if 12 < kx then 1 else 3) := by split <;> split <;> omega
    rw [e1]
    by_cases h2 : ky = 12
    · subst h2
      rw [show wd 12 = 0 from rfl]
      exact wk_h0 ..
    · have e : (if ky < 12 then 0 else 2) = (if 12 < ky then 2 else 0) := by split <;> split <;> omega
      rw [e]
/-- a step told as 12 more, in Int32 -/
def dI (k : Nat) : Int32 := nI k - 12
theorem dI_facts : ∀ k, k < 25 → jabs (dI k) = nI (wd k) ∧ (dI k ≤ 0 ↔ k ≤ 12) ∧ (0 ≤ dI k ↔ 12 ≤ k) ∧ (k < 12 → -(dI k) = nI (wd k)) ∧ (12 ≤ k → dI k = nI (wd k)) ∧ dI k + 1 = dI (k + 1) ∧ (12 < dI k ↔ False) ∧ (dI k < -12 ↔ False) ∧ dI k * dI k = nI (wd k * wd k) := by decide +kernel
theorem dI_of : ∀ x : Int32, ¬ x < -12 → ¬ 12 < x → ∃ k, k < 25 ∧ x = dI k := by
  intro x h1 h2
  have a : (-12 : Int32).toInt = -12 := by decide
  have b : (12 : Int32).toInt = 12 := by decide
  have h3 : -12 ≤ x.toInt := by
    have := Int32.le_iff_toInt_le.mp (Int32.not_lt.mp h1)
    omega
  have h4 : x.toInt ≤ 12 := by
    have := Int32.le_iff_toInt_le.mp (Int32.not_lt.mp h2)
    omega
  have e : ∀ k, k < 25 → (dI k).toInt = (k : Int) - 12 := by decide +kernel
  refine ⟨(x.toInt + 12).toNat, by omega, ?_⟩
  refine Int32.toInt_inj.mp ?_
  rw [e _ (by omega)]
  omega
theorem zSB0 {a b : Nat} (ha : a < 1000000) (hb : b < 1000000) : (nI a - nI b = 0) = (a = b) := by
  refine propext ⟨fun h => ?_, fun h => ?_⟩
  · have := congrArg Int32.toInt h
    rw [pk_sub_toInt (by omega) (by omega)] at this
    have e : (0 : Int32).toInt = 0 := by decide
    omega
  · subst h
    rw [pk_sub (Nat.le_refl _), Nat.sub_self]
    rfl
theorem zSBn {a b : Nat} (ha : a < 1000000) (hb : b < 1000000) : (0 ≤ nI a - nI b) = (b ≤ a) := by
  refine propext ⟨fun h => ?_, fun h => ?_⟩
  · have := Int32.le_iff_toInt_le.mp h
    rw [pk_sub_toInt (by omega) (by omega)] at this
    have e : (0 : Int32).toInt = 0 := by decide
    omega
  · refine Int32.le_iff_toInt_le.mpr ?_
    rw [pk_sub_toInt (by omega) (by omega)]
    have e : (0 : Int32).toInt = 0 := by decide
    omega
