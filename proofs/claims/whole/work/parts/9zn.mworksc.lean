/-! ===== the reference's works: its contract ===== -/
theorem grd0 (k : Nat) : grd n0 k = false := by unfold grd; simp
theorem sp_works {g : GV} {d T m j C : Nat} {L : List Nat} {N : Nat → Nat} {σ : PS} (hL : Lay σ) (hp : p1 L (nt L + 1) 0 n0 0 = .inl (T, N)) (hit : itS L m = (T, N, j)) (h0 : tK L j = 0) (hM : MS σ L T N C j m) (hR : Recs σ L C m) :
    CX12_works g (d + 4) [.ref 179] σ (fun v s => ((∃ w, rdF L = .inl w ∧ v = 1 ∧ Sq s (grd w)) ∨ ∃ e k, rdF L = .inr (e, k) ∧ v = 0 ∧ mi s 179 9 = nI (e + 16 * tb L k)) ∧ Ch chWo noL σ s) := by
  obtain ⟨m1, m2, m3, m4, m5, m6, m7, m8, m9⟩ := hM
  have hl := m2.2.1
  have hn := nt_le (L := L)
  have hge := it_ge hR m (Nat.le_refl _)
  have hle := it_le hR m (Nat.le_refl _)
  generalize hP : (fun (v : Int32) (s : PS) => ((∃ w, rdF L = .inl w ∧ v = 1 ∧ Sq s (grd w)) ∨ ∃ e k, rdF L = .inr (e, k) ∧ v = 0 ∧ mi s 179 9 = nI (e + 16 * tb L k)) ∧ Ch chWo noL σ s) = P
  have vals : ∀ (z k : Nat) (u : PS), k + z = 9 → Ch chWo noL σ u → Sq u (grd n0) → (∀ i, i < k → mi u 199 i = 0) → VX12_works g (d + 3 + 1) P 29 [some (.ref 179), some (.int (nI k)), none, none, none, none] [] u := by
    intro z
    induction z with
    | zero =>
      intro k u hz c hS hv
      have hk : k = 9 := by omega
      refine vcX12_works_29 (c.lay hL) _ ⟨fun _ => ?_, fun h => absurd (by rw [lit32 9, zLE (by omega) (by omega)]; omega) h⟩
      refine wo_loop (d := d) (C := C) m3.2.1 (by omega) m8 (by rw [hit]) (by rw [hit]) (by rw [hit]; exact h0) m 0 (nt L + 1) e0 n0 u (by omega) (by omega) (c.lay hL) (by rw [c.i (by omega)]; exact m7) (hR.ch c) (fun q hq => hv _ (by have := m3.2.1; omega)) hS (fun s w h1 h2 h3 => ?_) (fun s e k h1 h2 h3 => ?_)
      · rw [← hP]
        exact ⟨Or.inl ⟨w, by rw [rdF_l hp]; exact h1, rfl, h2⟩, c.trans h3⟩
      · rw [← hP]
        exact ⟨Or.inr ⟨e, k, by rw [rdF_l hp]; exact h1, rfl, h2⟩, c.trans h3⟩
    | succ z ih =>
      intro k u hz c hS hv
      refine vcX12_works_29 (c.lay hL) _ ⟨fun h => ?_, fun _ => ?_⟩
      · rw [lit32 9, zLE (by omega) (by omega)] at h
        omega
      · rw [zIN (by omega) (by omega), zCL (by omega)]
        refine ⟨by omega, fun s9 e9 x11 e11 => ?_⟩
        rw [inc e11]
        have c9 : Ch (fun a _ => a = 199) noL u s9 := by rw [e9]; exact Ch.rf.si rfl
        refine ih (k + 1) s9 (by omega) (c.trans (c9.mono (fun a k h => by omega) (fun _ _ h => h))) (hS.ch c9 (fun k => by omega) (by omega)) (fun i hi => ?_)
        rw [e9, mi_si]
        by_cases e : i = k
        · rw [if_pos ⟨rfl, e⟩]
        · rw [if_neg (fun q => e q.2)]; exact hv i (by omega)
  have sqs : ∀ (z k : Nat) (u : PS), k + z = 256 → Ch chWo noL σ u → mi u 179 34 = 0 → (∀ i, i < k → mi u 200 i = 0) → VX12_works g (d + 3 + 1) P 7 [some (.ref 179), some (.int (nI k)), none, none, none, none] [] u := by
    intro z
    induction z with
    | zero =>
      intro k u hz c h34 hv
      have hk : k = 256 := by omega
      refine vcX12_works_7 (c.lay hL) _ ⟨fun _ => ?_, fun h => absurd (by rw [lit32 256, zLE (by omega) (by omega)]; omega) h⟩
      have hc0 : cnt (grd n0) 256 = 0 := n0_cnt
      exact vals 9 0 u rfl c ⟨fun i hi => by rw [hv i (by omega), grd0]; rfl, by rw [h34, hc0]; rfl⟩ (fun i hi => by omega)
    | succ z ih =>
      intro k u hz c h34 hv
      refine vcX12_works_7 (c.lay hL) _ ⟨fun h => ?_, fun _ => ?_⟩
      · rw [lit32 256, zLE (by omega) (by omega)] at h
        omega
      · rw [zIN (by omega) (by omega), zCL (by omega)]
        refine ⟨by omega, fun s9 e9 x11 e11 => ?_⟩
        rw [inc e11]
        refine ih (k + 1) s9 (by omega) (by rw [e9]; exact c.si (by omega)) (by rw [e9, mi_si, if_neg (by omega)]; exact h34) (fun i hi => ?_)
        rw [e9, mi_si]
        by_cases e : i = k
        · rw [if_pos ⟨rfl, e⟩]; rfl
        · rw [if_neg (fun q => e q.2)]; exact hv i (by omega)
  refine vcX12_works hL (fun s1 e1 => ?_)
  exact sqs 256 0 s1 rfl (by rw [e1]; exact (Ch.rf : Ch chWo noL σ σ).si (by omega)) (by rw [e1, mi_si, if_pos ⟨rfl, rfl⟩]) (fun i hi => by omega)
