/-! ===== the reference's fits ===== -/
def fpl (b : BS) (j : Nat) : Nat := 4 * b.2.2.1 (j / 4) + j % 4
def imB (b : BS) (ε q : Nat) : Nat := im (fun z => (b.1 z).getD 0) b.2.1 ε q
def fnw (b : BS) (c w u : Nat) : BS := (fun z => if z = c then some w else b.1 z, fun z => if z = c then u else b.2.1 z, fun k => if k = b.2.2.2 then c else b.2.2.1 k, b.2.2.2 + 1)
def FI (n : Nat) (f g : Nat → Nat) (first ε i : Nat) (b : BS) : Prop :=
  (0 < b.2.2.2 ∧ b.2.2.2 ≤ n) ∧ (∀ k, k < b.2.2.2 → b.2.2.1 k < n ∧ ∃ w, b.1 (b.2.2.1 k) = some w) ∧ (∀ j k, j < b.2.2.2 → k < b.2.2.2 → b.2.2.1 j = b.2.2.1 k → j = k) ∧ (∀ z w, b.1 z = some w → z < n ∧ w < n ∧ b.2.1 z < 4 ∧ ∃ k, k < b.2.2.2 ∧ b.2.2.1 k = z) ∧ (∀ j, j < i → j / 4 < b.2.2.2 ∧ (∃ w, b.1 (f (fpl b j) / 4) = some w) ∧ imB b ε (f (fpl b j)) = g (imB b ε (fpl b j))) ∧ (∀ H T, Iso n f g H T ε → im H T ε 0 = first → ∀ z w, b.1 z = some w → H z = w ∧ T z = b.2.1 z) ∧ (imB b ε 0 = first ∧ ∃ w, b.1 0 = some w)
theorem FI.agree {n first ε i q : Nat} {f g H T : Nat → Nat} {b : BS} (h : FI n f g first ε i b) (hI : Iso n f g H T ε) (h0 : im H T ε 0 = first) (hq : ∃ w, b.1 (q / 4) = some w) : im H T ε q = imB b ε q := by
  obtain ⟨w, hw⟩ := hq
  obtain ⟨e1, e2⟩ := h.2.2.2.2.2.1 H T hI h0 _ _ hw
  unfold imB im
  rw [e1, e2]
  simp only [hw, Option.getD_some]
theorem FI.pl {n first ε i k s : Nat} {f g : Nat → Nat} {b : BS} (h : FI n f g first ε i b) (hk : k < b.2.2.2) (hs : s < 4) : fpl b (4 * k + s) < 4 * n ∧ fpl b (4 * k + s) / 4 = b.2.2.1 k ∧ fpl b (4 * k + s) % 4 = s ∧ ∃ w, b.1 (fpl b (4 * k + s) / 4) = some w := by
  obtain ⟨a1, a2⟩ := h.2.1 k hk
  have e : fpl b (4 * k + s) = 4 * b.2.2.1 k + s := by
    unfold fpl
    rw [show (4 * k + s) / 4 = k by omega, show (4 * k + s) % 4 = s by omega]
  have e1 : fpl b (4 * k + s) / 4 = b.2.2.1 k := by omega
  refine ⟨by omega, e1, by omega, ?_⟩
  rw [e1]
  exact a2
theorem FI.imlt {n first ε i q : Nat} {f g : Nat → Nat} {b : BS} (h : FI n f g first ε i b) (hq : ∃ w, b.1 (q / 4) = some w) : imB b ε q < 4 * n := by
  obtain ⟨w, hw⟩ := hq
  have := (h.2.2.2.1 _ _ hw).2.1
  unfold imB im
  simp only [hw, Option.getD_some]
  omega
/-- the place gone through fits already -/
theorem FI.old {n first ε k s : Nat} {f g : Nat → Nat} {b : BS} (h : FI n f g first ε (4 * k + s) b) (hk : k < b.2.2.2) (hs : s < 4) (hz : ∃ w, b.1 (f (fpl b (4 * k + s)) / 4) = some w) (he : imB b ε (f (fpl b (4 * k + s))) = g (imB b ε (fpl b (4 * k + s)))) : FI n f g first ε (4 * k + s + 1) b := by
  obtain ⟨a1, a2, a3, a4, a5, a6, a7⟩ := h
  refine ⟨a1, a2, a3, a4, fun j hj => ?_, a6, a7⟩
  by_cases e : j = 4 * k + s
  · subst e
    exact ⟨by omega, hz, he⟩
  · exact a5 j (by omega)
theorem fnw_im {b : BS} {c w u ε q : Nat} (hc : b.1 c = none) (hq : ∃ v, b.1 (q / 4) = some v) : imB (fnw b c w u) ε q = imB b ε q := by
  obtain ⟨v, hv⟩ := hq
  have ne : q / 4 ≠ c := fun e => by rw [e, hc] at hv; cases hv
  show 4 * (if q / 4 = c then some w else b.1 (q / 4)).getD 0 + ((if q / 4 = c then u else b.2.1 (q / 4)) + ε * (q % 4)) % 4 = 4 * (b.1 (q / 4)).getD 0 + (b.2.1 (q / 4) + ε * (q % 4)) % 4
  rw [if_neg ne, if_neg ne]
theorem FI.many {n first ε i c : Nat} {f g : Nat → Nat} {b : BS} (h : FI n f g first ε i b) (hc : c < n) (hz : b.1 c = none) : b.2.2.2 < n := by
  refine Nat.lt_of_le_of_ne h.1.2 (fun e => ?_)
  obtain ⟨j, hj, e2⟩ := inj_sur (n := n) (H := b.2.2.1) (fun j hj => (h.2.1 j (by omega)).1) (fun x y hx hy e => h.2.2.1 x y (by omega) (by omega) e) c hc
  obtain ⟨w, hw⟩ := (h.2.1 j (by omega)).2
  rw [e2, hz] at hw
  cases hw
theorem FI.new {n first ε k s : Nat} {f g : Nat → Nat} {b : BS} (hB : ∀ q, q < 4 * n → f q < 4 * n) (hg : ∀ q, q < 4 * n → g q < 4 * n) (hε : ε = 1 ∨ ε = 3) (h : FI n f g first ε (4 * k + s) b) (hk : k < b.2.2.2) (hs : s < 4) (hz : b.1 (f (fpl b (4 * k + s)) / 4) = none) :
    FI n f g first ε (4 * k + s + 1) (fnw b (f (fpl b (4 * k + s)) / 4) (g (imB b ε (fpl b (4 * k + s))) / 4) ((g (imB b ε (fpl b (4 * k + s))) % 4 + (4 - ε) * (f (fpl b (4 * k + s)) % 4)) % 4)) ∧ imB (fnw b (f (fpl b (4 * k + s)) / 4) (g (imB b ε (fpl b (4 * k + s))) / 4) ((g (imB b ε (fpl b (4 * k + s))) % 4 + (4 - ε) * (f (fpl b (4 * k + s)) % 4)) % 4)) ε (f (fpl b (4 * k + s))) = g (imB b ε (fpl b (4 * k + s))) := by
  obtain ⟨p1, p2, p3, p4⟩ := h.pl hk hs
  have hm := h.many (c := f (fpl b (4 * k + s)) / 4) (by have := hB _ p1; omega) hz
  have hq := hB _ p1
  have hto := hg _ (h.imlt p4)
  have hagree := fun H T hI h0 => h.agree (H := H) (T := T) hI h0 p4
  obtain ⟨a1, a2, a3, a4, a5, a6, a7⟩ := h
  generalize hp : fpl b (4 * k + s) = p at *
  generalize hqq : f p = q at *
  generalize hton : g (imB b ε p) = to at *
  have hnew : imB (fnw b (q / 4) (to / 4) ((to % 4 + (4 - ε) * (q % 4)) % 4)) ε q = to := by
    show 4 * (if q / 4 = q / 4 then some (to / 4) else b.1 (q / 4)).getD 0 + ((if q / 4 = q / 4 then (to % 4 + (4 - ε) * (q % 4)) % 4 else b.2.1 (q / 4)) + ε * (q % 4)) % 4 = to
    rw [if_pos rfl, if_pos rfl, Option.getD_some]
    rcases hε with rfl | rfl <;> omega
  have hct : ∀ z, (fnw b (q / 4) (to / 4) ((to % 4 + (4 - ε) * (q % 4)) % 4)).1 z = if z = q / 4 then some (to / 4) else b.1 z := fun _ => rfl
  have hqu : ∀ j, (fnw b (q / 4) (to / 4) ((to % 4 + (4 - ε) * (q % 4)) % 4)).2.2.1 j = if j = b.2.2.2 then q / 4 else b.2.2.1 j := fun _ => rfl
  have hsd : ∀ z, (fnw b (q / 4) (to / 4) ((to % 4 + (4 - ε) * (q % 4)) % 4)).2.1 z = if z = q / 4 then (to % 4 + (4 - ε) * (q % 4)) % 4 else b.2.1 z := fun _ => rfl
  have hmm : (fnw b (q / 4) (to / 4) ((to % 4 + (4 - ε) * (q % 4)) % 4)).2.2.2 = b.2.2.2 + 1 := rfl
  have hpl : ∀ j, j / 4 < b.2.2.2 → fpl (fnw b (q / 4) (to / 4) ((to % 4 + (4 - ε) * (q % 4)) % 4)) j = fpl b j := by
    intro j hj
    unfold fpl
    rw [hqu, if_neg (by omega)]
  have keep : ∀ z w, b.1 z = some w → (fnw b (q / 4) (to / 4) ((to % 4 + (4 - ε) * (q % 4)) % 4)).1 z = some w := by
    intro z w hw
    rw [hct, if_neg (fun e => by rw [e, hz] at hw; cases hw)]
    exact hw
  refine ⟨⟨⟨Nat.succ_pos _, by rw [hmm]; omega⟩, fun j hj => ?_, fun i j hi hj e => ?_, fun z w hw => ?_, fun j hj => ?_, fun H T hI h0 z w hw => ?_, ?_, ?_⟩, hnew⟩
  · rw [hmm] at hj
    rw [hqu]
    by_cases e : j = b.2.2.2
    · rw [if_pos e, hct, if_pos rfl]
      exact ⟨by omega, _, rfl⟩
    · rw [if_neg e]
      obtain ⟨b1, w, b2⟩ := a2 j (by omega)
      exact ⟨b1, w, keep _ _ b2⟩
  · rw [hmm] at hi hj
    rw [hqu, hqu] at e
    have none1 : ∀ l, l < b.2.2.2 → b.2.2.1 l ≠ q / 4 := fun l hl e2 => by
      obtain ⟨-, w, hw⟩ := a2 l hl
      rw [e2, hz] at hw
      cases hw
    by_cases e1 : i = b.2.2.2
    · by_cases e2 : j = b.2.2.2
      · omega
      · rw [if_pos e1, if_neg e2] at e
        exact absurd e.symm (none1 j (by omega))
    · by_cases e2 : j = b.2.2.2
      · rw [if_neg e1, if_pos e2] at e
        exact absurd e (none1 i (by omega))
      · rw [if_neg e1, if_neg e2] at e
        exact a3 i j (by omega) (by omega) e
  · rw [hct] at hw
    rw [hmm, hsd]
    by_cases e : z = q / 4
    · rw [if_pos e] at hw
      rw [if_pos e]
      cases hw
      exact ⟨by omega, by omega, by omega, b.2.2.2, by omega, by rw [hqu, if_pos rfl, e]⟩
    · rw [if_neg e] at hw
      rw [if_neg e]
      obtain ⟨c1, c2, c3, l, c4, c5⟩ := a4 z w hw
      exact ⟨c1, c2, c3, l, by omega, by rw [hqu, if_neg (by omega)]; exact c5⟩
  · by_cases e : j = 4 * k + s
    · subst e
      rw [hpl _ (by omega), hp, hqq, hmm, hnew, fnw_im hz p4, hton]
      exact ⟨by omega, ⟨_, by rw [hct, if_pos rfl]⟩, rfl⟩
    · obtain ⟨c1, ⟨w, c2⟩, c3⟩ := a5 j (by omega)
      have pj : ∃ v, b.1 (fpl b j / 4) = some v := by
        obtain ⟨-, v, hv⟩ := a2 _ c1
        exact ⟨v, by rw [show fpl b j / 4 = b.2.2.1 (j / 4) by unfold fpl; omega]; exact hv⟩
      rw [hpl _ c1, hmm, fnw_im hz ⟨w, c2⟩, fnw_im hz pj]
      exact ⟨by omega, ⟨w, keep _ _ c2⟩, c3⟩
  · rw [hct] at hw
    rw [hsd]
    by_cases e : z = q / 4
    · rw [if_pos e] at hw
      rw [if_pos e]
      cases hw
      have h1 := hI.2.2 p p1
      rw [hagree H T hI h0, hqq, hton] at h1
      obtain ⟨d1, d2⟩ := im_d H T ε q
      rw [h1] at d1 d2
      have hT := (hI.1 (q / 4) (by omega)).2
      rw [e]
      refine ⟨d1.symm, ?_⟩
      rcases hε with rfl | rfl <;> omega
    · rw [if_neg e] at hw
      rw [if_neg e]
      exact a6 H T hI h0 z w hw
  · rw [fnw_im hz a7.2]
    exact a7.1
  · obtain ⟨w, hw⟩ := a7.2
    exact ⟨w, keep _ _ hw⟩
theorem FI.start {n first ε : Nat} {f g sd0 : Nat → Nat} (hn : 0 < n) (hf : first < 4 * n) : FI n f g first ε 0 (fun z => if z = 0 then some (first / 4) else none, fun z => if z = 0 then first % 4 else sd0 z, fun _ => 0, 1) := by
  have hct : ∀ z w, (if z = 0 then some (first / 4) else none) = some w → z = 0 ∧ w = first / 4 := by
    intro z w h
    by_cases e : z = 0
    · rw [if_pos e] at h
      cases h
      exact ⟨e, rfl⟩
    · rw [if_neg e] at h
      cases h
  refine ⟨⟨Nat.one_pos, hn⟩, fun k _ => ⟨hn, first / 4, (if_pos rfl : (if (0 : Nat) = 0 then some (first / 4) else none) = some (first / 4))⟩, fun j k hj hk _ => ?_, fun z w hw => ?_, fun j hj => absurd hj (by omega), fun H T hI h0 z w hw => ?_, ?_, first / 4, (if_pos rfl : (if (0 : Nat) = 0 then some (first / 4) else none) = some (first / 4))⟩
  · have hj' : j < 1 := hj
    have hk' : k < 1 := hk
    omega
  · obtain ⟨rfl, rfl⟩ := hct z w hw
    refine ⟨hn, by omega, ?_, 0, Nat.one_pos, rfl⟩
    show (if 0 = 0 then first % 4 else sd0 0) < 4
    rw [if_pos rfl]
    omega
  · obtain ⟨rfl, rfl⟩ := hct z w hw
    obtain ⟨d1, d2⟩ := im_d H T ε 0
    rw [h0] at d1 d2
    have hT := (hI.1 0 hn).2
    refine ⟨d1.symm, ?_⟩
    show T 0 = if 0 = 0 then first % 4 else sd0 0
    rw [if_pos rfl, d2]
    simp only [Nat.zero_div, Nat.zero_mod, Nat.mul_zero, Nat.add_zero]
    omega
  · show 4 * (if 0 / 4 = 0 then some (first / 4) else none).getD 0 + ((if 0 / 4 = 0 then first % 4 else sd0 0) + ε * (0 % 4)) % 4 = first
    rw [if_pos (by omega), if_pos (by omega), Option.getD_some]
    simp only [Nat.zero_mod, Nat.mul_zero, Nat.add_zero]
    omega
theorem sur_inj {n : Nat} {H : Nat → Nat} (h : ∀ c, c < n → ∃ i, i < n ∧ H i = c) (hl : ∀ i, i < n → H i < n) : ∀ a b, a < n → b < n → H a = H b → a = b := by
  have hg : ∀ c, c < n → ∃ i, fnd (fun i => H i == c) n = some i ∧ i < n ∧ H i = c := by
    intro c hc
    obtain ⟨i, hi, e⟩ := h c hc
    obtain ⟨j, h1, h2, h3⟩ := fnd_ex (p := fun i => H i == c) hi (by simpa using e)
    exact ⟨j, h1, h2, by simpa using h3⟩
  have sg := inj_sur (n := n) (H := fun c => (fnd (fun i => H i == c) n).getD 0) (fun c hc => by
    obtain ⟨i, h1, h2, -⟩ := hg c hc
    rw [h1]
    exact h2) (fun c d hc hd e => by
    obtain ⟨i, h1, -, h3⟩ := hg c hc
    obtain ⟨j, k1, -, k3⟩ := hg d hd
    simp only [h1, k1, Option.getD_some] at e
    subst e
    exact h3.symm.trans k3)
  have back : ∀ z, z < n → (fnd (fun i => H i == H z) n).getD 0 = z := by
    intro z hz
    obtain ⟨c, hc, e⟩ := sg z hz
    obtain ⟨i, h1, -, h3⟩ := hg c hc
    simp only [h1, Option.getD_some] at e
    subst e
    rw [h3, h1]
    rfl
  intro a b ha hb e
  rw [← back a ha, ← back b hb, e]
/-- the bits of what the first k are given -/
def sbt (H : Nat → Nat) : Nat → Nat
  | 0 => 0
  | k + 1 => sbt H k ||| 2 ^ H k
theorem sbt_bit (H : Nat → Nat) (i : Nat) : ∀ k, (sbt H k).testBit i = true ↔ ∃ c, c < k ∧ H c = i := by
  intro k
  induction k with
  | zero =>
    constructor
    · intro h
      have h' : (0 : Nat).testBit i = true := h
      rw [Nat.zero_testBit] at h'
      cases h'
    · rintro ⟨c, hc, -⟩; omega
  | succ k ih =>
    show (sbt H k ||| 2 ^ H k).testBit i = true ↔ _
    rw [or_bit, Bool.or_eq_true, ih, decide_eq_true_eq]
    constructor
    · rintro (⟨c, hc, e⟩ | e)
      · exact ⟨c, by omega, e⟩
      · exact ⟨k, by omega, e⟩
    · rintro ⟨c, hc, e⟩
      by_cases q : c = k
      · right; rw [← q]; exact e
      · left; exact ⟨c, by omega, e⟩
theorem sbt_lt {H : Nat → Nat} {n : Nat} (h : ∀ c, c < n → H c < n) : ∀ k, k ≤ n → sbt H k < 2 ^ n := by
  intro k
  induction k with
  | zero => intro _; exact Nat.two_pow_pos n
  | succ k ih => intro hk; exact Nat.or_lt_two_pow (ih (by omega)) (Nat.pow_lt_pow_right (by omega) (h k (by omega)))
theorem sbt_full {H : Nat → Nat} {n : Nat} (h : ∀ c, c < n → H c < n) : sbt H n = 2 ^ n - 1 ↔ ∀ c, c < n → ∃ i, i < n ∧ H i = c := by
  constructor
  · intro e c hc
    exact (sbt_bit H c n).mp (by rw [e]; exact full_bit hc)
  · intro hs
    refine bits_eq (sbt_lt h n (Nat.le_refl _)) (by have := Nat.two_pow_pos n; omega) (fun i hi => ?_)
    rw [full_bit hi]
    exact (sbt_bit H i n).mpr (hs i hi)
/-- when all of the queue is gone through -/
theorem FI.fin {n first ε i : Nat} {f g : Nat → Nat} {b : BS} (hB : Bdy n f) (h : FI n f g first ε i b) (hi : 4 * b.2.2.2 ≤ i) : ∀ z, z < n → ∃ w, b.1 z = some w := by
  refine hB.2 (fun z => ∃ w, b.1 z = some w) ⟨0, by have := h.1; omega, h.2.2.2.2.2.2.2⟩ (fun q hq hz => ?_)
  obtain ⟨w, hw⟩ := hz
  obtain ⟨-, -, -, k, k1, k2⟩ := h.2.2.2.1 _ _ hw
  have := (h.2.2.2.2.1 (4 * k + q % 4) (by omega)).2.1
  have e : fpl b (4 * k + q % 4) = q := by
    unfold fpl
    rw [show (4 * k + q % 4) / 4 = k by omega, k2]
    omega
  rw [e] at this
  exact this
theorem FI.iso {n first ε i : Nat} {f g : Nat → Nat} {b : BS} (hB : Bdy n f) (h : FI n f g first ε i b) (hi : 4 * b.2.2.2 ≤ i) (hs : sbt (fun z => (b.1 z).getD 0) n = 2 ^ n - 1) : Iso n f g (fun z => (b.1 z).getD 0) b.2.1 ε ∧ im (fun z => (b.1 z).getD 0) b.2.1 ε 0 = first := by
  have ha := h.fin hB hi
  have hlt : ∀ c, c < n → (b.1 c).getD 0 < n := fun c hc => by
    obtain ⟨w, hw⟩ := ha c hc
    rw [hw]
    exact (h.2.2.2.1 _ _ hw).2.1
  refine ⟨⟨fun c hc => ⟨hlt c hc, ?_⟩, sur_inj ((sbt_full hlt).mp hs) hlt, fun q hq => ?_⟩, h.2.2.2.2.2.2.1⟩
  · obtain ⟨w, hw⟩ := ha c hc
    exact (h.2.2.2.1 _ _ hw).2.2.1
  · obtain ⟨w, hw⟩ := ha (q / 4) (by omega)
    obtain ⟨-, -, -, k, k1, k2⟩ := h.2.2.2.1 _ _ hw
    have := (h.2.2.2.2.1 (4 * k + q % 4) (by omega)).2.2
    have e : fpl b (4 * k + q % 4) = q := by
      unfold fpl
      rw [show (4 * k + q % 4) / 4 = k by omega, k2]
      omega
    rw [e] at this
    exact this
theorem FI.no {n first ε i : Nat} {f g H T : Nat → Nat} {b : BS} (hB : Bdy n f) (h : FI n f g first ε i b) (hi : 4 * b.2.2.2 ≤ i) (hs : ¬ sbt (fun z => (b.1 z).getD 0) n = 2 ^ n - 1) (hI : Iso n f g H T ε) (h0 : im H T ε 0 = first) : False := by
  have ha := h.fin hB hi
  have hlt : ∀ c, c < n → (b.1 c).getD 0 < n := fun c hc => by
    obtain ⟨w, hw⟩ := ha c hc
    rw [hw]
    exact (h.2.2.2.1 _ _ hw).2.1
  refine hs ((sbt_full hlt).mpr (fun c hc => ?_))
  obtain ⟨z, hz, e⟩ := inj_sur (fun i hi => (hI.1 i hi).1) hI.2.1 c hc
  refine ⟨z, hz, ?_⟩
  obtain ⟨w, hw⟩ := ha z hz
  rw [hw, Option.getD_some, ← e]
  exact (h.2.2.2.2.2.1 H T hI h0 z w hw).1.symm
