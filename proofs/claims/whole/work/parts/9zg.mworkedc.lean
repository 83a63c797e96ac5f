/-! ===== the reference's worked: its contract ===== -/
theorem sp_worked {g : GV} {d T l i j C : Nat} {L : List Nat} {NM : Nat → Nat} {env : Nat → Int32} {v : Int32} {σ : PS} (hL : Lay σ) (hT8 : T ≤ 8) (hi : i ≤ nt L) (hln : LineOK σ L T NM l i j C) (hC : C ≤ 1000) (hl : l < 1200) (hV : ∀ k, k < T → mi σ 199 (1 + k) = env k) (hs : smL L T NM env i = .inl (v, j)) :
    CX12_worked g (d + 2) [.ref 179, .int (nI l)] σ (fun r s => r = v ∧ Ch (chUp 0) noL σ s) := by
  obtain ⟨c, n1, n2, n3, n4⟩ := hln
  have hr := sm_rng hi hs
  generalize hP : (fun (r : Int32) (s : PS) => r = v ∧ Ch (chUp 0) noL σ s) = P
  refine vcX12_worked hL _ (Ct.imp (sp_opens (D := 0) hL (by omega)) (fun r s1 w => ?_))
  obtain ⟨rfl, o1, o3, o4, o5, o7, c1⟩ := w
  refine ⟨rfl, c1.fr, ?_⟩
  rw [zIN (by omega) (by omega), zCL (by omega)]
  refine ⟨hl, fun x4 e4 => ?_⟩
  rw [c1.i (by omega), n1] at e4
  subst e4
  have d1 : Ch (chUp 0) noL σ s1 := c1.mono (fun a k h => by omega) (fun _ _ h => h)
  have hW0 : WL σ L T NM env l c i j := ⟨n2, n4, by omega, hl, hV⟩
  have hW : WL s1 L T NM env l c i j := hW0.ch d1
  have hL1 := d1.lay hL
  unfold smL sm at hs
  obtain ⟨u, m, p1, p2⟩ := bnd_inl hs
  obtain ⟨w1, w2⟩ := wk_loop (g := g) (d := d) (P := P) hL1 hT8 hW hr.2 (fu L)
  obtain ⟨q1, q2, q3⟩ := (pe_ok (V := tV L) (sl := fun i => slt NM T (tC L i)) (env := env) (tK_N L) (fu L) none 0 i hi (by unfold fu; omega)).1 u m p1
  have q4 := q3 rfl
  obtain ⟨r1, r2, -⟩ := (pe_ok (V := tV L) (sl := fun i => slt NM T (tC L i)) (env := env) (tK_N L) (fu L) (some (0, 1, u)) 0 m q2 (by unfold fu; omega)).1 v j p2
  have h := w1 0 i s1 u m (by omega) (Nat.le_refl _) (by unfold fu; omega) p1 (by omega) (by omega) Ch.rf (Or.inl rfl) (fun s2 c2 => ?_)
  · rw [Nat.sub_self, Nat.add_zero] at h
    exact h
  · refine wk_268 (p := u) (c2.lay hL1) (by omega) (Or.inl rfl) ⟨fun q => absurd (by rw [c2.i (by omega)]; exact o7) q, fun _ => rfl⟩ (fun s3 e3 => ?_)
    rw [show c + (m - 1 - i) + 1 = c + (m - i) by omega]
    have d3 : Ch (chUp 0) noL s1 s3 := by rw [e3]; exact (c2.up (D' := 0) (by omega)).si (by omega)
    have o : ∀ x, x ≠ 196 → mi s3 x 0 = mi s1 x 0 := fun x hx => by rw [e3, mi_si, if_neg (by omega), c2.i (by omega)]
    refine w2 (0, 1, u) 0 m s3 v j (by omega) (by omega) q2 (by unfold fu; omega) p2 (Nat.le_refl _) d3 ⟨by rw [o 194 (by omega)]; exact o4, Or.inl ⟨by rw [o 195 (by omega)]; exact o5, rfl⟩, by rw [e3, mi_si, if_pos ⟨rfl, rfl⟩], by rw [o 191 (by omega)]; exact o1, by rw [o 193 (by omega)]; exact o3, Or.inl rfl⟩ (fun s4 a' hA hv c4 => ?_)
    have d4 := d3.trans c4
    have hL4 := d4.lay hL1
    have hW4 := hW.ch d4
    refine vcX12_worked_14 hL4 _ _ _ ?_
    rw [zIN (by omega) (by omega), zCL (by omega), hW4.1]
    refine ⟨hl, fun _ => ?_, fun q => absurd ((zLE (by omega) (by omega)).mpr (Nat.le_refl _)) q⟩
    refine Ct.imp (sp_tests (d := d) (D := 0) hL4 (by omega) hA.2.1 hA.2.2.2.1 hA.2.2.2.2.1) (fun r s5 w => ?_)
    obtain ⟨rfl, t1, c5⟩ := w
    refine ⟨rfl, c5.fr, ?_⟩
    rw [← hP]
    refine ⟨?_, d1.trans (d4.trans (c5.mono (fun a k h => by omega) (fun _ _ h => h)))⟩
    show mi s5 190 0 = v
    rw [t1, hA.1, hA.2.2.1, hv]
