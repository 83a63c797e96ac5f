/-! ===== the reference's does: all squares of a STEP put ===== -/
abbrev chFl : Nat → Nat → Prop := fun a i => a = 200 ∨ a = 179 ∧ (i = 34 ∨ i = 9)
theorem fl_all {g : GV} {d x w y h n b : Nat} {P : Int32 → PS → Prop} (hx : x + w ≤ 16) (hy : y + h ≤ 16) (hn : n < 200) : ∀ (z r : Nat) (gr : Nat → Bool) (τ : PS), z + r = y + h → Lay τ → Sq τ gr → mi τ 183 n = nI b →
    (∀ s gr', (∀ k, gr' k = (gr k || (decide (r ≤ k / 16 ∧ k / 16 < y + h) && decide (x ≤ k % 16 ∧ k % 16 < x + w)))) → Ch chFl noL τ s → (cnt gr' 256 ≤ 10 → Sq s gr' → P 1 s) ∧ (¬ cnt gr' 256 ≤ 10 → mi s 179 9 = nI (7 + 16 * b) → P 0 s)) →
    VX12_does g (d + 1) P 234 [some (.ref 179), some (.int (nI n)), some (.int (nI x)), some (.int (nI y)), some (.int (nI w)), some (.int (nI h)), some (.int (nI r)), none] [] τ := by
  intro z
  induction z with
  | zero =>
    intro r gr τ hz hL hS hb hgo
    have hcn := cnt_le gr 256
    have hg : ∀ k, gr k = (gr k || (decide (r ≤ k / 16 ∧ k / 16 < y + h) && decide (x ≤ k % 16 ∧ k % 16 < x + w))) := fun k => by
      rw [show decide (r ≤ k / 16 ∧ k / 16 < y + h) = false from decide_eq_false (by omega)]
      simp
    refine vcX12_does_234 hL _ _ _ _ _ _ ⟨fun _ => ?_, fun q => ?_⟩
    · rw [hS.2, lit32 10, zLE (by omega) (by omega)]
      refine ⟨fun q => (hgo τ gr hg Ch.rf).1 q hS, fun q => ?_⟩
      rw [zIN (by omega) (by omega), zCL (by omega), hb]
      refine ⟨hn, vcX12_wrongAt hL _ _ (fun s1 e1 => ⟨by rw [e1]; exact Fr.rf.si, fun _ => ?_, fun q2 => absurd rfl q2⟩)⟩
      refine (hgo s1 gr hg (by rw [e1]; exact Ch.rf.si (by omega))).2 q ?_
      rw [e1, mi_si, if_pos ⟨rfl, rfl⟩, lit32 7, lit32 16, pk_mul, nI_add]
    · rw [nI_add, zLE (by omega) (by omega)] at q
      omega
  | succ z ih =>
    intro r gr τ hz hL hS hb hgo
    refine vcX12_does_234 hL _ _ _ _ _ _ ⟨fun q => ?_, fun _ => ?_⟩
    · rw [nI_add, zLE (by omega) (by omega)] at q
      omega
    refine fl_row (d := d) hx (by omega) w x gr τ (by omega) hL hS (fun s gr' hg hS' c => ?_)
    have c' : Ch chFl noL τ s := c.mono (fun a k h => by omega) (fun _ _ h => h)
    refine ih (r + 1) gr' s (by omega) (c'.lay hL) hS' (by rw [c.i (by omega)]; exact hb) (fun s2 gr2 hg2 c2 => hgo s2 gr2 (fun k => ?_) (c'.trans c2))
    rw [hg2 k, hg k]
    apply Bool.eq_iff_iff.mpr
    simp only [Bool.or_eq_true, Bool.and_eq_true, decide_eq_true_eq]
    constructor
    · rintro ((q | q) | q)
      · exact Or.inl q
      · exact Or.inr (by omega)
      · exact Or.inr (by omega)
    · rintro (q | q)
      · exact Or.inl (Or.inl q)
      · by_cases e : k / 16 = r
        · exact Or.inl (Or.inr ⟨e, q.2⟩)
        · exact Or.inr (by omega)
