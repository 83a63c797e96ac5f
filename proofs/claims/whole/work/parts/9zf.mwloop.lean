/-! ===== the reference's worked: its loop ===== -/
theorem Ch.up {s s' : PS} {D D' : Nat} (h : Ch (chUp D) noL s s') (hd : D' ≤ D) : Ch (chUp D') noL s s' := h.mono (fun a k q => by omega) (fun _ _ q => q)
theorem wk_loop {g : GV} {d T l c i0 j0 : Nat} {L : List Nat} {NM : Nat → Nat} {env : Nat → Int32} {τ : PS} {P : Int32 → PS → Prop} (hL : Lay τ) (hT8 : T ≤ 8) (hW : WL τ L T NM env l c i0 j0) (hj0 : j0 ≤ nt L) : ∀ (f : Nat),
    (∀ (D i : Nat) (s : PS) (v : Int32) (j : Nat), D ≤ 5 → i0 ≤ i → 2 * (nt L - i) + 1 ≤ f → pe (tK L) (tV L) (fun i => slt NM T (tC L i)) env f none D i = .inl (v, j) → j ≤ j0 → i < j0 → Ch (chUp 0) noL τ s → (D = 0 ∨ mi s 198 D = 0) →
      (∀ s', Ch (chUp (D + 1)) noL s s' → VX12_worked g (d + 2) P 268 [some (.ref 179), some (.int (nI l)), some (.int (nI D)), some (.int (nI (c + (j - 1 - i0)))), none, some (.int v)] [] s') →
      VX12_worked g (d + 2) P 14 [some (.ref 179), some (.int (nI l)), some (.int (nI D)), some (.int (nI (c + (i - i0)))), none, none] [] s) ∧
    (∀ (a : Int32 × Int32 × Int32) (D i : Nat) (s : PS) (v : Int32) (j : Nat), D ≤ 5 → i0 ≤ i → i ≤ nt L → 2 * (nt L - i) + 1 ≤ f → pe (tK L) (tV L) (fun i => slt NM T (tC L i)) env f (some a) D i = .inl (v, j) → j ≤ j0 → Ch (chUp 0) noL τ s → LvA s D a →
      (∀ s' a', LvA s' D a' → v = a'.1 + a'.2.1 * a'.2.2 → Ch (chUp D) noL s s' → VX12_worked g (d + 2) P 14 [some (.ref 179), some (.int (nI l)), some (.int (nI D)), some (.int (nI (c + (j - i0)))), none, none] [] s') →
      VX12_worked g (d + 2) P 14 [some (.ref 179), some (.int (nI l)), some (.int (nI D)), some (.int (nI (c + (i - i0)))), none, none] [] s) := by
  intro f
  induction f with
  | zero => exact ⟨fun D i s v j _ _ h => by omega, fun a D i s v j _ _ _ h => by omega⟩
  | succ f ih =>
    obtain ⟨ih1, ih2⟩ := ih
    have ok := fun m w i h1 h2 => (pe_ok (V := tV L) (sl := fun i => slt NM T (tC L i)) (env := env) (tK_N L) f m w i h1 h2).1
    have hl : l < 1200 := hW.2.2.2.1
    have he : c + (j0 - i0) ≤ 1000 := hW.2.2.1
    constructor
    · intro D i s v j hD hi hf hp hj hij hs h8 hgo
      have hLs := hs.lay hL
      have hWs := hW.ch hs
      have hq : c + (i - i0) < c + (j0 - i0) := by omega
      rw [pe_n] at hp
      by_cases c1 : ¬ (tK L i = 2 ∨ tK L i = 3 ∨ tK L i = 40)
      · rw [if_pos c1] at hp; cases hp
      rw [if_neg c1] at hp
      by_cases c2 : tK L i = 3 ∧ slt NM T (tC L i) = none
      · rw [if_pos c2] at hp; cases hp
      rw [if_neg c2] at hp
      by_cases c3 : 5 ≤ D
      · rw [if_pos c3] at hp; cases hp
      rw [if_neg c3] at hp
      by_cases k2 : tK L i = 2
      · rw [if_pos k2] at hp
        cases hp
        have hcd : cd L T NM i = 100 + tv L (tb L i) := by unfold cd; rw [if_pos k2]
        have htv := tv_lt (L := L) (b := tb L i) k2
        refine wk_14 (k := 100 + tv L (tb L i)) hLs (by omega) hl hq he hWs.1 (by rw [hWs.2.1 i hi hij, hcd]) (by omega) (by omega) (fun q => by omega) (fun q => by omega) (fun q => by omega) (fun q => by omega) (fun q => by omega) (fun _ => ?_)
        rw [Nat.add_sub_cancel_left]
        have h := hgo s Ch.rf
        rw [Nat.add_sub_cancel] at h
        exact h
      rw [if_neg k2] at hp
      by_cases k3 : tK L i = 3
      · rw [if_pos k3] at hp
        obtain ⟨z, hz⟩ := Option.ne_none_iff_exists'.mp (fun q => c2 ⟨k3, q⟩)
        rw [hz] at hp
        cases hp
        have hzT := (slt_lt hz).1
        have hcd : cd L T NM i = 1 + z := by unfold cd; rw [if_neg k2, if_pos k3, hz]; rfl
        refine wk_14 (k := 1 + z) hLs (by omega) hl hq he hWs.1 (by rw [hWs.2.1 i hi hij, hcd]) (by omega) (by omega) (fun q => by omega) (fun q => by omega) (fun q => by omega) (fun q => by omega) (fun _ => ?_) (fun q => by omega)
        rw [hWs.2.2.2.2 z hzT]
        have h := hgo s Ch.rf
        rw [Nat.add_sub_cancel] at h
        exact h
      rw [if_neg k3] at hp
      have k40 : tK L i = 40 := by omega
      have hlt := tK_N L i (by omega)
      have hcd : cd L T NM i = 28 := by unfold cd; rw [if_neg k2, if_neg k3, if_pos k40]
      obtain ⟨u, m, p1, p2⟩ := bnd_inl hp
      obtain ⟨u', m', p3, p4⟩ := bnd_inl p1
      obtain ⟨a1, a2, a3⟩ := ok none (D + 1) (i + 1) (by omega) (by omega) u' m' p3
      have a4 := a3 rfl
      obtain ⟨b1, b2, -⟩ := ok (some (0, 1, u')) (D + 1) m' a2 (by omega) u m p4
      by_cases k41 : tK L m = 41
      · rw [if_pos k41] at p2
        cases p2
        refine wk_14 (k := 28) hLs (by omega) hl hq he hWs.1 (by rw [hWs.2.1 i hi hij, hcd]) (by omega) (by omega) (fun _ => ⟨by omega, fun s15 e15 => ?_⟩) (fun q => by omega) (fun q => by omega) (fun q => by omega) (fun q => by omega) (fun q => by omega)
        have c15 : Ch (chUp (D + 1)) noL s s15 := by rw [e15]; exact Ch.rf.si (by omega)
        refine Ct.imp (sp_opens (D := D + 1) (c15.lay hLs) (by omega)) (fun r s17 w => ?_)
        obtain ⟨rfl, o1, o3, o4, o5, o7, c17⟩ := w
        refine ⟨rfl, c17.fr, ?_⟩
        rw [show c + (i - i0) + 1 = c + (i + 1 - i0) by omega]
        have d17 : Ch (chUp (D + 1)) noL s s17 := c15.trans (c17.mono (fun a k h => by omega) (fun _ _ h => h))
        have v8 : mi s17 198 (D + 1) = 0 := by rw [c17.i (by omega), e15, mi_si, if_pos ⟨rfl, rfl⟩]
        refine ih1 (D + 1) (i + 1) s17 u' m' (by omega) (by omega) (by omega) p3 (by omega) (by omega) (hs.trans (d17.up (Nat.zero_le _))) (Or.inr v8) (fun s2 c2 => ?_)
        have d2 : Ch (chUp (D + 1)) noL s s2 := d17.trans (c2.up (by omega))
        refine wk_268 (p := u') (d2.lay hLs) (by omega) (Or.inr (by rw [c2.i (by omega)]; exact v8)) ⟨fun q => absurd (by rw [c2.i (by omega)]; exact o7) q, fun _ => rfl⟩ (fun s3 e3 => ?_)
        rw [show c + (m' - 1 - i0) + 1 = c + (m' - i0) by omega]
        have d3 : Ch (chUp (D + 1)) noL s s3 := by rw [e3]; exact d2.si (by omega)
        have o : ∀ a, 190 ≤ a → a ≤ 198 → a ≠ 196 → mi s3 a (D + 1) = mi s17 a (D + 1) := fun a q1 q2 q3 => by rw [e3, mi_si, if_neg (by omega), c2.i (by omega)]
        refine ih2 (0, 1, u') (D + 1) m' s3 _ m (by omega) (by omega) a2 (by omega) p4 (by omega) (hs.trans (d3.up (Nat.zero_le _))) ⟨by rw [o 194 (by omega) (by omega) (by omega)]; exact o4, Or.inl ⟨by rw [o 195 (by omega) (by omega) (by omega)]; exact o5, rfl⟩, by rw [e3, mi_si, if_pos ⟨rfl, rfl⟩], by rw [o 191 (by omega) (by omega) (by omega)]; exact o1, by rw [o 193 (by omega) (by omega) (by omega)]; exact o3, Or.inr (by rw [o 198 (by omega) (by omega) (by omega)]; exact v8)⟩ (fun s4 a' hA hv c4 => ?_)
        have d4 := d3.trans c4
        have hW4 := hW.ch (hs.trans (d4.up (Nat.zero_le _)))
        have hcm : cd L T NM m = 29 := by unfold cd; rw [if_neg (by omega), if_neg (by omega), if_neg (by omega), if_pos k41]
        refine wk_14 (k := 29) (d4.lay hLs) (by omega) hl (by omega) he hW4.1 (by rw [hW4.2.1 m (by omega) (by omega), hcm]) (by omega) (by omega) (fun q => by omega) (fun q => by omega) (fun q => by omega) (fun _ => ⟨by omega, ?_⟩) (fun q => by omega) (fun q => by omega)
        refine Ct.imp (sp_tests (d := d) (d4.lay hLs) (by omega) hA.2.1 hA.2.2.2.1 hA.2.2.2.2.1) (fun r s5 w => ?_)
        obtain ⟨rfl, t1, c5⟩ := w
        refine ⟨rfl, c5.fr, ?_⟩
        rw [t1, hA.1, hA.2.2.1, ← hv, Nat.add_sub_cancel]
        have h := hgo s5 (d4.trans (c5.mono (fun a k h => by omega) (fun _ _ h => h)))
        rw [Nat.add_sub_cancel] at h
        exact h
      · rw [if_neg k41] at p2; cases p2
    · intro a D i s v j hD hi hin hf hp hj hs hA hgo
      have hLs := hs.lay hL
      have hWs := hW.ch hs
      rw [pe_s] at hp
      by_cases kk : tK L i = 42 ∨ tK L i = 43 ∨ tK L i = 45
      · have hlt := tK_N L i (by omega)
        -- the next PART, and on
        have next : ∀ (s2 : PS) (a1 a2 : Int32) (pp : Int32 → Int32), Ch (chUp D) noL s s2 → bnd (pe (tK L) (tV L) (fun i => slt NM T (tC L i)) env f none D (i + 1)) (fun v j => pe (tK L) (tV L) (fun i => slt NM T (tC L i)) env f (some (a1, a2, pp v)) D j) = .inl (v, j) → (∀ u, (¬ mi s2 197 D = 0 → pp u = mi s2 196 D * u) ∧ (mi s2 197 D = 0 → pp u = u)) → mi s2 194 D = a1 → sgLv s2 D a2 → mi s2 191 D = 0 → mi s2 193 D = 0 → (D = 0 ∨ mi s2 198 D = 0) → VX12_worked g (d + 2) P 14 [some (.ref 179), some (.int (nI l)), some (.int (nI D)), some (.int (nI (c + (i - i0) + 1))), none, none] [] s2 := by
          intro s2 a1 a2 pp c2 hb hpp h194 h195 h191 h193 h198
          obtain ⟨u, m, p1, p2⟩ := bnd_inl hb
          obtain ⟨q1, q2, q3⟩ := ok none D (i + 1) (by omega) (by omega) u m p1
          have q4 := q3 rfl
          obtain ⟨r1, r2, -⟩ := ok (some (a1, a2, pp u)) D m q2 (by omega) v j p2
          rw [show c + (i - i0) + 1 = c + (i + 1 - i0) by omega]
          refine ih1 D (i + 1) s2 u m hD (by omega) (by omega) p1 (by omega) (by omega) (hs.trans (c2.up (Nat.zero_le _))) h198 (fun s3 c3 => ?_)
          have d3 := c2.trans (c3.up (D' := D) (by omega))
          have o : ∀ x, mi s3 x D = mi s2 x D := fun x => c3.i (by omega)
          refine wk_268 (p := pp u) (d3.lay hLs) (by omega) (by rw [o 198]; exact h198) (by rw [o 197, o 196]; exact hpp u) (fun s4 e4 => ?_)
          rw [show c + (m - 1 - i0) + 1 = c + (m - i0) by omega]
          have d4 : Ch (chUp D) noL s s4 := by rw [e4]; exact d3.si (by omega)
          have o4 : ∀ x, x ≠ 196 → mi s4 x D = mi s2 x D := fun x hx => by rw [e4, mi_si, if_neg (by omega)]; exact o x
          refine ih2 (a1, a2, pp u) D m s4 v j hD (by omega) q2 (by omega) p2 hj (hs.trans (d4.up (Nat.zero_le _))) ⟨by rw [o4 194 (by omega)]; exact h194, by unfold sgLv; rw [o4 195 (by omega)]; exact h195, by rw [e4, mi_si, if_pos ⟨rfl, rfl⟩], by rw [o4 191 (by omega)]; exact h191, by rw [o4 193 (by omega)]; exact h193, by rw [o4 198 (by omega)]; exact h198⟩ (fun s5 a' hA' hv c5 => hgo s5 a' hA' hv (d4.trans c5))
        have hij : i < j0 := by
          by_cases k42 : tK L i = 42
          · rw [if_pos k42] at hp
            obtain ⟨u, m, p1, p2⟩ := bnd_inl hp
            obtain ⟨q1, q2, q3⟩ := ok none D (i + 1) (by omega) (by omega) u m p1
            obtain ⟨r1, r2, -⟩ := ok (some (a.1, a.2.1, a.2.2 * u)) D m q2 (by have := q3 rfl; omega) v j p2
            omega
          · rw [if_neg k42, if_pos (by omega)] at hp
            obtain ⟨u, m, p1, p2⟩ := bnd_inl hp
            obtain ⟨q1, q2, q3⟩ := ok none D (i + 1) (by omega) (by omega) u m p1
            obtain ⟨r1, r2, -⟩ := ok _ D m q2 (by have := q3 rfl; omega) v j p2
            omega
        have hq : c + (i - i0) < c + (j0 - i0) := by omega
        by_cases k42 : tK L i = 42
        · rw [if_pos k42] at hp
          have hcd : cd L T NM i = 22 := by unfold cd; rw [if_neg (by omega), if_neg (by omega), if_neg (by omega), if_neg (by omega), if_neg (by omega), if_neg (by omega)]
          refine wk_14 (k := 22) hLs (by omega) hl hq he hWs.1 (by rw [hWs.2.1 i hi hij, hcd]) (by omega) (by omega) (fun q => by omega) (fun q => by omega) (fun _ s2 e2 => ?_) (fun q => by omega) (fun q => by omega) (fun q => by omega)
          have c2 : Ch (chUp D) noL s s2 := by rw [e2]; exact Ch.rf.si (by omega)
          have o : ∀ x, x ≠ 197 → mi s2 x D = mi s x D := fun x hx => by rw [e2, mi_si, if_neg (by omega)]
          have h7 : ¬ mi s2 197 D = 0 := by rw [e2, mi_si, if_pos ⟨rfl, rfl⟩]; decide
          exact next s2 a.1 a.2.1 (fun u => a.2.2 * u) c2 hp (fun u => ⟨fun _ => by rw [o 196 (by omega), hA.2.2.1], fun q => absurd q h7⟩) (by rw [o 194 (by omega)]; exact hA.1) (by unfold sgLv; rw [o 195 (by omega)]; exact hA.2.1) (by rw [o 191 (by omega)]; exact hA.2.2.2.1) (by rw [o 193 (by omega)]; exact hA.2.2.2.2.1) (by rw [o 198 (by omega)]; exact hA.2.2.2.2.2)
        · rw [if_neg k42, if_pos (by omega)] at hp
          have hcd : ∃ k, cd L T NM i = k ∧ ((k = 20 ∧ tK L i = 43) ∨ (k = 21 ∧ ¬ tK L i = 43)) := by
            by_cases k43 : tK L i = 43
            · exact ⟨20, by unfold cd; rw [if_neg (by omega), if_neg (by omega), if_neg (by omega), if_neg (by omega), if_pos k43], Or.inl ⟨rfl, k43⟩⟩
            · exact ⟨21, by unfold cd; rw [if_neg (by omega), if_neg (by omega), if_neg (by omega), if_neg (by omega), if_neg k43, if_pos (by omega)], Or.inr ⟨rfl, k43⟩⟩
          obtain ⟨k, hcd, hk⟩ := hcd
          refine wk_14 (k := k) hLs (by omega) hl hq he hWs.1 (by rw [hWs.2.1 i hi hij, hcd]) (by omega) (by omega) (fun q => by omega) (fun _ => ?_) (fun q => by omega) (fun q => by omega) (fun q => by omega) (fun q => by omega)
          refine Ct.imp (sp_sums hLs (by omega) hA.2.1) (fun r s2 w => ?_)
          obtain ⟨rfl, t1, t2, c2⟩ := w
          refine ⟨rfl, c2.fr, fun s3 e3 => ?_⟩
          have d3 : Ch (chUp D) noL s s3 := by rw [e3]; exact (c2.mono (Qm := chUp D) (fun a k h => by omega) (fun _ _ h => h)).si (by omega)
          have o : ∀ x, x ≠ 195 → mi s3 x D = mi s2 x D := fun x hx => by rw [e3, mi_si, if_neg (by omega)]
          have o2 : ∀ x, x ≠ 195 → x ≠ 194 → x ≠ 197 → mi s3 x D = mi s x D := fun x h1 h2 h3 => by rw [o x h1, c2.i (by omega)]
          have h5 : mi s3 195 D = nI k := by rw [e3, mi_si, if_pos ⟨rfl, rfl⟩]
          refine next s3 (a.1 + a.2.1 * a.2.2) (if tK L i = 43 then 1 else -1) (fun u => u) d3 hp (fun u => ⟨fun q => absurd (by rw [o 197 (by omega)]; exact t2) q, fun _ => rfl⟩) (by rw [o 194 (by omega), t1, hA.1, hA.2.2.1]) ?_ (by rw [o2 191 (by omega) (by omega) (by omega)]; exact hA.2.2.2.1) (by rw [o2 193 (by omega) (by omega) (by omega)]; exact hA.2.2.2.2.1) (by rw [o2 198 (by omega) (by omega) (by omega)]; exact hA.2.2.2.2.2)
          rcases hk with ⟨rfl, k43⟩ | ⟨rfl, k43⟩
          · rw [if_pos k43]; exact Or.inl ⟨h5, rfl⟩
          · rw [if_neg k43]; exact Or.inr ⟨h5, rfl⟩
      · rw [if_neg (by omega), if_neg (by omega)] at hp
        cases hp
        exact hgo s a hA rfl Ch.rf
