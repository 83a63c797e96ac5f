/-! ===== the reference's does: squares put ===== -/
/-- the reference's squares while it works -/
def Sq (s : PS) (gr : Nat → Bool) : Prop := (∀ k, k < 256 → mi s 200 k = if gr k then 1 else 0) ∧ mi s 179 34 = nI (cnt gr 256)
theorem cnt_put {gr : Nat → Bool} {q n : Nat} (hq : q < n) : cnt (fun k => gr k || k == q) n = cnt gr n + (if gr q then 0 else 1) := by
  by_cases h : gr q = true
  · rw [if_pos h, Nat.add_zero]
    refine cnt_congr (fun i _ => ?_)
    by_cases e : i = q
    · subst e; rw [h]; rfl
    · simp [e]
  · rw [if_neg h]
    have e1 := cnt_erase (p := fun k => gr k || k == q) hq (by simp)
    have e2 : cnt (fun i => (gr i || i == q) && !(i == q)) n = cnt gr n := by
      refine cnt_congr (fun i _ => ?_)
      cases hg : gr i <;> cases hb : (i == q) <;> first | rfl | (exfalso; have := eq_of_beq hb; subst this; exact h hg)
    rw [e1, e2]
theorem fl_row {g : GV} {d x w r : Nat} {l1 l3 l5 : Int32} {P : Int32 → PS → Prop} (hx : x + w ≤ 16) (hr : r < 16) : ∀ (z p : Nat) (gr : Nat → Bool) (τ : PS), z + p = x + w → Lay τ → Sq τ gr →
    (∀ s gr', (∀ k, gr' k = (gr k || (decide (k / 16 = r) && decide (p ≤ k % 16 ∧ k % 16 < x + w)))) → Sq s gr' → Ch (fun a i => a = 200 ∨ a = 179 ∧ i = 34) noL τ s → VX12_does g (d + 1) P 234 [some (.ref 179), some (.int l1), some (.int (nI x)), some (.int l3), some (.int (nI w)), some (.int l5), some (.int (nI (r + 1))), none] [] s) →
    VX12_does g (d + 1) P 246 [some (.ref 179), some (.int l1), some (.int (nI x)), some (.int l3), some (.int (nI w)), some (.int l5), some (.int (nI r)), some (.int (nI p))] [] τ := by
  intro z
  induction z with
  | zero =>
    intro p gr τ hz hL hS hgo
    refine vcX12_does_246 hL _ _ _ _ _ _ _ ⟨fun _ x65 e => ?_, fun h => ?_⟩
    · rw [inc e]
      refine hgo τ gr (fun k => ?_) hS Ch.rf
      rw [show decide (p ≤ k % 16 ∧ k % 16 < x + w) = false from decide_eq_false (by omega)]
      simp
    · rw [nI_add, zLE (by omega) (by omega)] at h
      omega
  | succ z ih =>
    intro p gr τ hz hL hS hgo
    have hq : 16 * r + p < 256 := by omega
    have hcn := cnt_le gr 256
    have next : ∀ s71 : PS, Sq s71 (fun k => gr k || k == 16 * r + p) → Ch (fun a i => a = 200 ∨ a = 179 ∧ i = 34) noL τ s71 → ∀ x73 : Int32, x73 = nI p + 1 → VX12_does g (d + 1) P 246 [some (.ref 179), some (.int l1), some (.int (nI x)), some (.int l3), some (.int (nI w)), some (.int l5), some (.int (nI r)), some (.int x73)] [] s71 := by
      intro s71 hS1 c1 x73 e
      rw [inc e]
      refine ih (p + 1) _ s71 (by omega) (c1.lay hL) hS1 (fun s gr' hg hS' c => hgo s gr' (fun k => ?_) hS' (c1.trans c))
      rw [hg k]
      apply Bool.eq_iff_iff.mpr
      simp only [Bool.or_eq_true, Bool.and_eq_true, decide_eq_true_eq, beq_iff_eq]
      constructor
      · rintro ((h | h) | h)
        · exact Or.inl h
        · exact Or.inr (by omega)
        · exact Or.inr (by omega)
      · rintro (h | h)
        · exact Or.inl (Or.inl h)
        · by_cases e : k = 16 * r + p
          · exact Or.inl (Or.inr e)
          · exact Or.inr (by omega)
    have put : ∀ (s68 s71 : PS), s68 = si τ 179 34 (nI (cnt (fun k => gr k || k == 16 * r + p) 256)) → s71 = si s68 200 (16 * r + p) 1 → Sq s71 (fun k => gr k || k == 16 * r + p) ∧ Ch (fun a i => a = 200 ∨ a = 179 ∧ i = 34) noL τ s71 := by
      intro s68 s71 e68 e71
      refine ⟨⟨fun k hk => ?_, by rw [e71, mi_si, if_neg (by omega), e68, mi_si, if_pos ⟨rfl, rfl⟩]⟩, by rw [e71, e68]; exact (Ch.rf.si (Or.inr ⟨rfl, rfl⟩)).si (Or.inl rfl)⟩
      rw [e71, mi_si]
      by_cases e : k = 16 * r + p
      · rw [if_pos ⟨rfl, e⟩, if_pos (by simp [e])]
      · rw [if_neg (fun z => e z.2), e68, mi_si, if_neg (by omega), hS.1 k hk]
        simp [e]
    refine vcX12_does_246 hL _ _ _ _ _ _ _ ⟨fun h => ?_, fun _ => ?_⟩
    · rw [nI_add, zLE (by omega) (by omega)] at h
      omega
    rw [lit32 16, pk_mul, nI_add, zIN (by omega) (by omega), zCL (by omega), hS.1 _ hq, hS.2]
    refine ⟨hq, fun h => ?_, fun h => ?_⟩
    · have hf : ¬ gr (16 * r + p) = true := fun z => by rw [if_pos z] at h; exact absurd h (by decide)
      intro s68 e68
      refine ⟨hq, fun s71 e71 => ?_⟩
      obtain ⟨q1, q2⟩ := put s68 s71 (by rw [e68, cnt_put hq, if_neg hf, lit32 1, nI_add]) e71
      exact next s71 q1 q2
    · have hf : gr (16 * r + p) = true := Classical.byContradiction (fun z => h (by rw [if_neg z]))
      intro s75 e75
      refine ⟨hq, fun s78 e78 => ?_⟩
      obtain ⟨q1, q2⟩ := put s75 s78 (by rw [e75, cnt_put hq, if_pos hf, Int32.add_zero, Nat.add_zero]) e78
      exact next s78 q1 q2
