theorem vcX12_corners {g : GV} {d : Nat} {P : Int32 → PS → Prop} {σ : PS} (hL : Lay σ) (p0 np0 : Nat) (kp0 : kd σ p0 = some (.inr (0, np0))) (h : VX12_corners g (d + 1) P 2 [some (.ref 179), some (.ref p0), some (.int 0), none] [] σ) : CX12_corners g (d + 1) [.ref 179, .ref p0] σ P := by
  refine x_entry (L := [some (.ref 179), some (.ref p0), none, none]) pn_12 (Nat.le_of_ble_eq_true rfl) ⟨2, rfl⟩ ?_
  show VX12_corners g (d + 1) P 0 [some (.ref 179), some (.ref p0), none, none] [] σ
  refine x_iconst (v := 0) (dxX12_corners_0 0 rfl) rfl ?_
  refine x_istore_n (i := 2) (dxX12_corners_0 1 rfl) rfl (Nat.le_of_ble_eq_true rfl) rfl rfl ?_
  exact h
theorem vcX12_corners_2 {g : GV} {d : Nat} {P : Int32 → PS → Prop} {σ : PS} (hL : Lay σ) (l1 nl1 : Nat) (kl1 : kd σ l1 = some (.inr (0, nl1))) (l2 : Int32) (h : ((mi σ 179 38) ≤ l2 → VX12_corners g (d + 1) P 25 [some (.ref 179), some (.ref l1), some (.int 0), none] [] σ) ∧ (¬ (mi σ 179 38) ≤ l2 → vp_in l2 24 ∧ ∀ s2 : PS, s2 = si σ 210 (Int32.toNatClampNeg l2) l2 → ∀ x4 : Int32, x4 = l2 + 1 → VX12_corners g (d + 1) P 2 [some (.ref 179), some (.ref l1), some (.int x4), none] [] s2)) : VX12_corners g (d + 1) P 2 [some (.ref 179), some (.ref l1), some (.int l2), none] [] σ := by
  refine x_iload_n (i := 2) (dxX12_corners_0 2 rfl) rfl rfl ?_
  refine x_aload_n (i := 0) (dxX12_corners_0 3 rfl) rfl rfl ?_
  refine gf_12_332 (kd_179 hL) rfl (dxX12_corners_0 4 rfl) ?_
  refine x_icmp_ge (tgt := 23) (dxX12_corners_0 5 rfl) (by decide) (fun hc => ?_) (fun hc => ?_)
  · replace h := h.1 hc
    refine x_iconst (v := 0) (dxX12_corners_0 13 rfl) rfl ?_
    refine x_istore_n (i := 2) (dxX12_corners_0 14 rfl) rfl (Nat.le_of_ble_eq_true rfl) rfl rfl ?_
    exact h
  · replace h := h.2 hc
    refine x_aload_n (i := 0) (dxX12_corners_0 6 rfl) rfl rfl ?_
    refine gf_12_102 (kd_179 hL) (rv_179_46 hL) (dxX12_corners_0 7 rfl) ?_
    refine x_iload_n (i := 2) (dxX12_corners_0 8 rfl) rfl rfl ?_
    refine x_iload_n (i := 2) (dxX12_corners_0 9 rfl) rfl rfl ?_
    obtain ⟨hi1, h⟩ := h
    refine x_iast (kd_210 hL) hi1 (dxX12_corners_0 10 rfl) ?_
    refine x_sto (fun s2 e3 => ?_)
    replace h := h s2 e3
    have hKs2 : kd s2 = kd σ := by rw [e3]; exact (rfl : kd σ = kd σ)
    have hLs2 : Lay s2 := by rw [e3]; exact hL.si
    obtain ⟨x4, e5⟩ : ∃ y : Int32, y = l2 + 1 := ⟨_, rfl⟩
    replace h := h x4 e5
    refine x_iinc (v := x4) (dxX12_corners_0 11 rfl) (i := 2) rfl (by rw [e5]; rfl) (Nat.le_of_ble_eq_true rfl) rfl rfl ?_
    refine x_goto (tgt := 2) (dxX12_corners_0 12 rfl) (by decide) ?_
    exact h
theorem vcX12_corners_25 {g : GV} {d : Nat} {P : Int32 → PS → Prop} {σ : PS} (hL : Lay σ) (l1 nl1 : Nat) (kl1 : kd σ l1 = some (.inr (0, nl1))) (l2 : Int32) (h : ((mi σ 179 38) ≤ l2 → VX12_corners g (d + 1) P 79 [some (.ref 179), none, some (.int 0), none] [] σ) ∧ (¬ (mi σ 179 38) ≤ l2 → vp_in l2 nl1 ∧ ∀ x7 : Int32, x7 = mi σ l1 (Int32.toNatClampNeg l2) → (l2 ≤ x7 → ¬ (mi σ 179 38) = 0 ∧ CX12_joins g d [.ref 179, .int l2, .int (jrem (x7 + 1) (mi σ 179 38))] σ (fun (s10 : PS) => Fr σ s10 ∧ ¬ (mi s10 179 38) = 0 ∧ CX12_joins g d [.ref 179, .int (jrem (l2 + 1) (mi s10 179 38)), .int x7] s10 (fun (s13 : PS) => Fr s10 s13 ∧ ∀ x15 : Int32, x15 = l2 + 1 → VX12_corners g (d + 1) P 25 [some (.ref 179), some (.ref l1), some (.int x15), none] [] s13))) ∧ (¬ l2 ≤ x7 → ∀ x17 : Int32, x17 = l2 + 1 → VX12_corners g (d + 1) P 25 [some (.ref 179), some (.ref l1), some (.int x17), none] [] σ))) : VX12_corners g (d + 1) P 25 [some (.ref 179), some (.ref l1), some (.int l2), none] [] σ := by
  refine x_iload_n (i := 2) (dxX12_corners_0 15 rfl) rfl rfl ?_
  refine x_aload_n (i := 0) (dxX12_corners_0 16 rfl) rfl rfl ?_
  refine gf_12_332 (kd_179 hL) rfl (dxX12_corners_0 17 rfl) ?_
  refine x_icmp_ge (tgt := 77) (dxX12_corners_0 18 rfl) (by decide) (fun hc => ?_) (fun hc => ?_)
  · replace h := h.1 hc
    refine x_iconst (v := 0) (dxX12_corners_1 15 rfl) rfl ?_
    refine x_istore_n (i := 2) (dxX12_corners_1 16 rfl) rfl (Nat.le_of_ble_eq_true rfl) rfl rfl ?_
    refine x_mask [true, false, true, false] (L1 := [some (.ref 179), none, some (.int 0), none]) rfl ?_
    exact h
  · replace h := h.2 hc
    refine x_aload_n (i := 1) (dxX12_corners_0 19 rfl) rfl rfl ?_
    refine x_iload_n (i := 2) (dxX12_corners_0 20 rfl) rfl rfl ?_
    obtain ⟨hi6, h⟩ := h
    refine x_iald ((congrFun (rfl : kd σ = kd σ) _).trans kl1) hi6 (dxX12_corners_0 21 rfl) ?_
    refine x_topi (fun x7 e8 => ?_)
    replace h := h x7 e8
    refine x_istore_n (i := 3) (dxX12_corners_0 22 rfl) rfl (Nat.le_of_ble_eq_true rfl) rfl rfl ?_
    refine x_iload_n (i := 3) (dxX12_corners_0 23 rfl) rfl rfl ?_
    refine x_iload_n (i := 2) (dxX12_corners_0 24 rfl) rfl rfl ?_
    refine x_icmp_ge (tgt := 45) (dxX12_corners_0 25 rfl) (by decide) (fun hc => ?_) (fun hc => ?_)
    · replace h := h.1 hc
      refine x_aload_n (i := 0) (dxX12_corners_0 27 rfl) rfl rfl ?_
      refine x_iload_n (i := 2) (dxX12_corners_0 28 rfl) rfl rfl ?_
      refine x_iload_n (i := 3) (dxX12_corners_0 29 rfl) rfl rfl ?_
      refine x_iconst (v := 1) (dxX12_corners_0 30 rfl) rfl ?_
      refine x_iadd (dxX12_corners_0 31 rfl) ?_
      refine x_aload_n (i := 0) (dxX12_corners_1 0 rfl) rfl rfl ?_
      refine gf_12_332 (kd_179 hL) rfl (dxX12_corners_1 1 rfl) ?_
      obtain ⟨hz9, h⟩ := h
      refine x_irem (dxX12_corners_1 2 rfl) hz9 ?_
      refine cl_12_375 (kd_179 hL) (Nat.le_of_ble_eq_true rfl) (dxX12_corners_1 3 rfl) h (fun s10 h => ?_) (Nat.le_refl _) (Nat.le_refl _)
      obtain ⟨hFs10, h⟩ := h
      have hKs10 : kd s10 = kd σ := hFs10.1.trans (rfl : kd σ = kd σ)
      have hLs10 : Lay s10 := hL.fr hFs10
      refine x_aload_n (i := 0) (dxX12_corners_1 4 rfl) rfl rfl ?_
      refine x_iload_n (i := 2) (dxX12_corners_1 5 rfl) rfl rfl ?_
      refine x_iconst (v := 1) (dxX12_corners_1 6 rfl) rfl ?_
      refine x_iadd (dxX12_corners_1 7 rfl) ?_
      refine x_aload_n (i := 0) (dxX12_corners_1 8 rfl) rfl rfl ?_
      refine gf_12_332 (kd_179 hLs10) rfl (dxX12_corners_1 9 rfl) ?_
      obtain ⟨hz12, h⟩ := h
      refine x_irem (dxX12_corners_1 10 rfl) hz12 ?_
      refine x_iload_n (i := 3) (dxX12_corners_1 11 rfl) rfl rfl ?_
      refine cl_12_375 (kd_179 hLs10) (Nat.le_of_ble_eq_true rfl) (dxX12_corners_1 12 rfl) h (fun s13 h => ?_) (Nat.le_refl _) (Nat.le_refl _)
      obtain ⟨hFs13, h⟩ := h
      have hKs13 : kd s13 = kd σ := hFs13.1.trans hKs10
      have hLs13 : Lay s13 := hLs10.fr hFs13
      obtain ⟨x15, e16⟩ : ∃ y : Int32, y = l2 + 1 := ⟨_, rfl⟩
      replace h := h x15 e16
      refine x_iinc (v := x15) (dxX12_corners_1 13 rfl) (i := 2) rfl (by rw [e16]; rfl) (Nat.le_of_ble_eq_true rfl) rfl rfl ?_
      refine x_goto (tgt := 25) (dxX12_corners_1 14 rfl) (by decide) ?_
      refine x_mask [true, true, true, false] (L1 := [some (.ref 179), some (.ref l1), some (.int x15), none]) rfl ?_
      exact h
    · replace h := h.2 hc
      refine x_goto (tgt := 71) (dxX12_corners_0 26 rfl) (by decide) ?_
      obtain ⟨x17, e18⟩ : ∃ y : Int32, y = l2 + 1 := ⟨_, rfl⟩
      replace h := h x17 e18
      refine x_iinc (v := x17) (dxX12_corners_1 13 rfl) (i := 2) rfl (by rw [e18]; rfl) (Nat.le_of_ble_eq_true rfl) rfl rfl ?_
      refine x_goto (tgt := 25) (dxX12_corners_1 14 rfl) (by decide) ?_
      refine x_mask [true, true, true, false] (L1 := [some (.ref 179), some (.ref l1), some (.int x17), none]) rfl ?_
      exact h
theorem vcX12_corners_79 {g : GV} {d : Nat} {P : Int32 → PS → Prop} {σ : PS} (hL : Lay σ) (l2 : Int32) (h : ((mi σ 179 38) ≤ l2 → P 1 σ) ∧ (¬ (mi σ 179 38) ≤ l2 → CX12_together g d [.ref 179, .int l2] σ (fun (v20 : Int32) (s19 : PS) => Fr σ s19 ∧ (v20 ≤ 4 → ∀ x21 : Int32, x21 = l2 + 1 → VX12_corners g (d + 1) P 79 [some (.ref 179), none, some (.int x21), none] [] s19) ∧ (¬ v20 ≤ 4 → P 0 s19)))) : VX12_corners g (d + 1) P 79 [some (.ref 179), none, some (.int l2), none] [] σ := by
  refine x_iload_n (i := 2) (dxX12_corners_1 17 rfl) rfl rfl ?_
  refine x_aload_n (i := 0) (dxX12_corners_1 18 rfl) rfl rfl ?_
  refine gf_12_332 (kd_179 hL) rfl (dxX12_corners_1 19 rfl) ?_
  refine x_icmp_ge (tgt := 104) (dxX12_corners_1 20 rfl) (by decide) (fun hc => ?_) (fun hc => ?_)
  · replace h := h.1 hc
    refine x_iconst (v := 1) (dxX12_corners_1 30 rfl) rfl ?_
    exact x_iret (ty := .boolean) rfl rfl (dxX12_corners_1 31 rfl) ⟨_, rfl, h⟩
  · replace h := h.2 hc
    refine x_aload_n (i := 0) (dxX12_corners_1 21 rfl) rfl rfl ?_
    refine x_iload_n (i := 2) (dxX12_corners_1 22 rfl) rfl rfl ?_
    refine cl_12_379 (kd_179 hL) (Nat.le_of_ble_eq_true rfl) (dxX12_corners_1 23 rfl) h (fun v20 s19 h => ?_) (Nat.le_refl _) (Nat.le_refl _)
    obtain ⟨hFs19, h⟩ := h
    have hKs19 : kd s19 = kd σ := hFs19.1.trans (rfl : kd σ = kd σ)
    have hLs19 : Lay s19 := hL.fr hFs19
    refine x_iconst (v := 4) (dxX12_corners_1 24 rfl) rfl ?_
    refine x_icmp_le (tgt := 98) (dxX12_corners_1 25 rfl) (by decide) (fun hc => ?_) (fun hc => ?_)
    · replace h := h.1 hc
      obtain ⟨x21, e22⟩ : ∃ y : Int32, y = l2 + 1 := ⟨_, rfl⟩
      replace h := h x21 e22
      refine x_iinc (v := x21) (dxX12_corners_1 28 rfl) (i := 2) rfl (by rw [e22]; rfl) (Nat.le_of_ble_eq_true rfl) rfl rfl ?_
      refine x_goto (tgt := 79) (dxX12_corners_1 29 rfl) (by decide) ?_
      exact h
    · replace h := h.2 hc
      refine x_iconst (v := 0) (dxX12_corners_1 26 rfl) rfl ?_
      exact x_iret (ty := .boolean) rfl rfl (dxX12_corners_1 27 rfl) ⟨_, rfl, h⟩
theorem vcX12_together {g : GV} {d : Nat} {P : Int32 → PS → Prop} {σ : PS} (hL : Lay σ) (p0 : Int32) (h : VX12_together g d P 4 [some (.ref 179), some (.int p0), some (.int 0), some (.int 0)] [] σ) : CX12_together g d [.ref 179, .int p0] σ P := by
  refine x_entry (L := [some (.ref 179), some (.int p0), none, none]) pn_12 (Nat.le_of_ble_eq_true rfl) ⟨2, rfl⟩ ?_
  show VX12_together g d P 0 [some (.ref 179), some (.int p0), none, none] [] σ
  refine x_iconst (v := 0) (dxX12_together_0 0 rfl) rfl ?_
  refine x_istore_n (i := 2) (dxX12_together_0 1 rfl) rfl (Nat.le_of_ble_eq_true rfl) rfl rfl ?_
  refine x_iconst (v := 0) (dxX12_together_0 2 rfl) rfl ?_
  refine x_istore_n (i := 3) (dxX12_together_0 3 rfl) rfl (Nat.le_of_ble_eq_true rfl) rfl rfl ?_
  exact h
theorem vcX12_together_4 {g : GV} {d : Nat} {P : Int32 → PS → Prop} {σ : PS} (hL : Lay σ) (l1 : Int32) (l2 : Int32) (l3 : Int32) (h : ((mi σ 179 38) ≤ l3 → P l2 σ) ∧ (¬ (mi σ 179 38) ≤ l3 → vp_in l3 24 ∧ vp_in l1 24 ∧ (¬ (mi σ 210 (Int32.toNatClampNeg l3)) = (mi σ 210 (Int32.toNatClampNeg l1)) → ∀ x3 : Int32, x3 = l2 + 0 → ∀ x5 : Int32, x5 = l3 + 1 → VX12_together g d P 4 [some (.ref 179), some (.int l1), some (.int x3), some (.int x5)] [] σ) ∧ ((mi σ 210 (Int32.toNatClampNeg l3)) = (mi σ 210 (Int32.toNatClampNeg l1)) → vp_in l3 24 ∧ ∀ x8 : Int32, x8 = l2 + (mi σ 205 (Int32.toNatClampNeg l3)) → ∀ x10 : Int32, x10 = l3 + 1 → VX12_together g d P 4 [some (.ref 179), some (.int l1), some (.int x8), some (.int x10)] [] σ))) : VX12_together g d P 4 [some (.ref 179), some (.int l1), some (.int l2), some (.int l3)] [] σ := by
  refine x_iload_n (i := 3) (dxX12_together_0 4 rfl) rfl rfl ?_
  refine x_aload_n (i := 0) (dxX12_together_0 5 rfl) rfl rfl ?_
  refine gf_12_332 (kd_179 hL) rfl (dxX12_together_0 6 rfl) ?_
  refine x_icmp_ge (tgt := 46) (dxX12_together_0 7 rfl) (by decide) (fun hc => ?_) (fun hc => ?_)
  · replace h := h.1 hc
    refine x_iload_n (i := 2) (dxX12_together_0 28 rfl) rfl rfl ?_
    exact x_iret (ty := .int) rfl rfl (dxX12_together_0 29 rfl) ⟨_, rfl, h⟩
  · replace h := h.2 hc
    refine x_iload_n (i := 2) (dxX12_together_0 8 rfl) rfl rfl ?_
    refine x_aload_n (i := 0) (dxX12_together_0 9 rfl) rfl rfl ?_
    refine gf_12_102 (kd_179 hL) (rv_179_46 hL) (dxX12_together_0 10 rfl) ?_
    refine x_iload_n (i := 3) (dxX12_together_0 11 rfl) rfl rfl ?_
    obtain ⟨hi1, h⟩ := h
    refine x_iald (kd_210 hL) hi1 (dxX12_together_0 12 rfl) ?_
    refine x_aload_n (i := 0) (dxX12_together_0 13 rfl) rfl rfl ?_
    refine gf_12_102 (kd_179 hL) (rv_179_46 hL) (dxX12_together_0 14 rfl) ?_
    refine x_iload_n (i := 1) (dxX12_together_0 15 rfl) rfl rfl ?_
    obtain ⟨hi2, h⟩ := h
    refine x_iald (kd_210 hL) hi2 (dxX12_together_0 16 rfl) ?_
    refine x_icmp_ne (tgt := 37) (dxX12_together_0 17 rfl) (by decide) (fun hc => ?_) (fun hc => ?_)
    · replace h := h.1 hc
      refine x_iconst (v := 0) (dxX12_together_0 23 rfl) rfl ?_
      refine x_iadd (dxX12_together_0 24 rfl) ?_
      refine x_topi (fun x3 e4 => ?_)
      replace h := h x3 e4
      refine x_istore_n (i := 2) (dxX12_together_0 25 rfl) rfl (Nat.le_of_ble_eq_true rfl) rfl rfl ?_
      obtain ⟨x5, e6⟩ : ∃ y : Int32, y = l3 + 1 := ⟨_, rfl⟩
      replace h := h x5 e6
      refine x_iinc (v := x5) (dxX12_together_0 26 rfl) (i := 3) rfl (by rw [e6]; rfl) (Nat.le_of_ble_eq_true rfl) rfl rfl ?_
      refine x_goto (tgt := 4) (dxX12_together_0 27 rfl) (by decide) ?_
      exact h
    · replace h := h.2 hc
      refine x_aload_n (i := 0) (dxX12_together_0 18 rfl) rfl rfl ?_
      refine gf_12_87 (kd_179 hL) (rv_179_41 hL) (dxX12_together_0 19 rfl) ?_
      refine x_iload_n (i := 3) (dxX12_together_0 20 rfl) rfl rfl ?_
      obtain ⟨hi7, h⟩ := h
      refine x_iald (kd_205 hL) hi7 (dxX12_together_0 21 rfl) ?_
      refine x_goto (tgt := 38) (dxX12_together_0 22 rfl) (by decide) ?_
      refine x_iadd (dxX12_together_0 24 rfl) ?_
      refine x_topi (fun x8 e9 => ?_)
      replace h := h x8 e9
      refine x_istore_n (i := 2) (dxX12_together_0 25 rfl) rfl (Nat.le_of_ble_eq_true rfl) rfl rfl ?_
      obtain ⟨x10, e11⟩ : ∃ y : Int32, y = l3 + 1 := ⟨_, rfl⟩
      replace h := h x10 e11
      refine x_iinc (v := x10) (dxX12_together_0 26 rfl) (i := 3) rfl (by rw [e11]; rfl) (Nat.le_of_ble_eq_true rfl) rfl rfl ?_
      refine x_goto (tgt := 4) (dxX12_together_0 27 rfl) (by decide) ?_
      exact h
theorem vcX12_corner {g : GV} {d : Nat} {P : Int32 → PS → Prop} {σ : PS} (hL : Lay σ) (p0 : Int32) (p1 : Int32) (h : ∀ s1 : PS, s1 = si σ 179 0 0 → CX12_isEdge g d [.ref 179, .int p0] s1 (fun (v4 : Int32) (s3 : PS) => Fr s1 s3 ∧ (v4 = 0 → P (-1) s3) ∧ (¬ v4 = 0 → CX12_within g d [.int p1, .int 0, .int 2] s3 (fun (v6 : Int32) (s5 : PS) => Fr s3 s5 ∧ (¬ v6 = 0 → CX12_corners g d [.ref 179, .ref 209] s5 (fun (v8 : Int32) (s7 : PS) => Fr s5 s7 ∧ VX12_corner g (d + 1) P 38 [some (.ref 179), some (.int p0), some (.int p1), some (.int 0), some (.int 0)] [] s7)) ∧ (v6 = 0 → P (-1) s5))))) : CX12_corner g (d + 1) [.ref 179, .int p0, .int p1] σ P := by
  refine x_entry (L := [some (.ref 179), some (.int p0), some (.int p1), none, none]) pn_12 (Nat.le_of_ble_eq_true rfl) ⟨2, rfl⟩ ?_
  show VX12_corner g (d + 1) P 0 [some (.ref 179), some (.int p0), some (.int p1), none, none] [] σ
  refine x_aload_n (i := 0) (dxX12_corner_0 0 rfl) rfl rfl ?_
  refine x_iconst (v := 0) (dxX12_corner_0 1 rfl) rfl ?_
  refine pf_12_184 (kd_179 hL) (dxX12_corner_0 2 rfl) ?_
  refine x_sto (fun s1 e2 => ?_)
  replace h := h s1 e2
  have hKs1 : kd s1 = kd σ := by rw [e2]; exact (rfl : kd σ = kd σ)
  have hLs1 : Lay s1 := by rw [e2]; exact hL.si
  refine x_aload_n (i := 0) (dxX12_corner_0 3 rfl) rfl rfl ?_
  refine x_iload_n (i := 1) (dxX12_corner_0 4 rfl) rfl rfl ?_
  refine cl_12_369 (kd_179 hLs1) (Nat.le_of_ble_eq_true rfl) (dxX12_corner_0 5 rfl) h (fun v4 s3 h => ?_) (Nat.le_refl _) (Nat.le_refl _)
  obtain ⟨hFs3, h⟩ := h
  have hKs3 : kd s3 = kd σ := hFs3.1.trans hKs1
  have hLs3 : Lay s3 := hLs1.fr hFs3
  refine x_if_eq (tgt := 22) (dxX12_corner_0 6 rfl) (by decide) (fun hc => ?_) (fun hc => ?_)
  · replace h := h.1 hc
    refine x_iconst (v := (-1)) (dxX12_corner_0 12 rfl) rfl ?_
    exact x_iret (ty := .int) rfl rfl (dxX12_corner_0 13 rfl) ⟨_, rfl, h⟩
  · replace h := h.2 hc
    refine x_iload_n (i := 2) (dxX12_corner_0 7 rfl) rfl rfl ?_
    refine x_iconst (v := 0) (dxX12_corner_0 8 rfl) rfl ?_
    refine x_iconst (v := 2) (dxX12_corner_0 9 rfl) rfl ?_
    refine cl_12_307 (Nat.le_of_ble_eq_true rfl) (dxX12_corner_0 10 rfl) h (fun v6 s5 h => ?_) (Nat.le_refl _) (Nat.le_refl _)
    obtain ⟨hFs5, h⟩ := h
    have hKs5 : kd s5 = kd σ := hFs5.1.trans hKs3
    have hLs5 : Lay s5 := hLs3.fr hFs5
    refine x_if_ne (tgt := 24) (dxX12_corner_0 11 rfl) (by decide) (fun hc => ?_) (fun hc => ?_)
    · replace h := h.1 hc
      refine x_aload_n (i := 0) (dxX12_corner_0 14 rfl) rfl rfl ?_
      refine x_aload_n (i := 0) (dxX12_corner_0 15 rfl) rfl rfl ?_
      refine gf_12_99 (kd_179 hLs5) (rv_179_45 hLs5) (dxX12_corner_0 16 rfl) ?_
      refine cl_12_382 (kd_179 hLs5) (Nat.le_of_ble_eq_true rfl) (dxX12_corner_0 17 rfl) h (fun v8 s7 h => ?_) (Nat.le_refl _) (Nat.le_refl _)
      obtain ⟨hFs7, h⟩ := h
      have hKs7 : kd s7 = kd σ := hFs7.1.trans hKs5
      have hLs7 : Lay s7 := hLs5.fr hFs7
      refine x_pop (dxX12_corner_0 18 rfl) rfl ?_
      refine x_iconst (v := 0) (dxX12_corner_0 19 rfl) rfl ?_
      refine x_istore_n (i := 3) (dxX12_corner_0 20 rfl) rfl (Nat.le_of_ble_eq_true rfl) rfl rfl ?_
      refine x_iconst (v := 0) (dxX12_corner_0 21 rfl) rfl ?_
      refine x_istore (dxX12_corner_0 22 rfl) (Nat.le_of_ble_eq_true rfl) rfl rfl ?_
      exact h
    · replace h := h.2 hc
      refine x_iconst (v := (-1)) (dxX12_corner_0 12 rfl) rfl ?_
      exact x_iret (ty := .int) rfl rfl (dxX12_corner_0 13 rfl) ⟨_, rfl, h⟩
theorem vcX12_corner_38 {g : GV} {d : Nat} {P : Int32 → PS → Prop} {σ : PS} (hL : Lay σ) (l1 : Int32) (l2 : Int32) (l3 : Int32) (l4 : Int32) (h : ((mi σ 179 38) ≤ l4 → (¬ l2 = 0 → (¬ l2 = 1 → P l3 σ) ∧ (l2 = 1 → CX12_together g d [.ref 179, .int l1] σ (fun (v10 : Int32) (s9 : PS) => Fr σ s9 ∧ P v10 s9))) ∧ (l2 = 0 → vp_in l1 24 ∧ P (mi σ 210 (Int32.toNatClampNeg l1)) σ)) ∧ (¬ (mi σ 179 38) ≤ l4 → vp_in l4 24 ∧ vp_in l1 24 ∧ (¬ (mi σ 210 (Int32.toNatClampNeg l4)) = (mi σ 210 (Int32.toNatClampNeg l1)) → ∀ x14 : Int32, x14 = l3 + 0 → ∀ x16 : Int32, x16 = l4 + 1 → VX12_corner g (d + 1) P 38 [some (.ref 179), some (.int l1), some (.int l2), some (.int x14), some (.int x16)] [] σ) ∧ ((mi σ 210 (Int32.toNatClampNeg l4)) = (mi σ 210 (Int32.toNatClampNeg l1)) → ∀ x18 : Int32, x18 = l3 + 1 → ∀ x20 : Int32, x20 = l4 + 1 → VX12_corner g (d + 1) P 38 [some (.ref 179), some (.int l1), some (.int l2), some (.int x18), some (.int x20)] [] σ))) : VX12_corner g (d + 1) P 38 [some (.ref 179), some (.int l1), some (.int l2), some (.int l3), some (.int l4)] [] σ := by
  refine x_iload (dxX12_corner_0 23 rfl) rfl ?_
  refine x_aload_n (i := 0) (dxX12_corner_0 24 rfl) rfl rfl ?_
  refine gf_12_332 (kd_179 hL) rfl (dxX12_corner_0 25 rfl) ?_
  refine x_icmp_ge (tgt := 77) (dxX12_corner_0 26 rfl) (by decide) (fun hc => ?_) (fun hc => ?_)
  · replace h := h.1 hc
    refine x_iload_n (i := 2) (dxX12_corner_1 12 rfl) rfl rfl ?_
    refine x_if_ne (tgt := 90) (dxX12_corner_1 13 rfl) (by decide) (fun hc => ?_) (fun hc => ?_)
    · replace h := h.1 hc
      refine x_iload_n (i := 2) (dxX12_corner_1 19 rfl) rfl rfl ?_
      refine x_iconst (v := 1) (dxX12_corner_1 20 rfl) rfl ?_
      refine x_icmp_ne (tgt := 103) (dxX12_corner_1 21 rfl) (by decide) (fun hc => ?_) (fun hc => ?_)
      · replace h := h.1 hc
        refine x_iload_n (i := 3) (dxX12_corner_1 26 rfl) rfl rfl ?_
        exact x_iret (ty := .int) rfl rfl (dxX12_corner_1 27 rfl) ⟨_, rfl, h⟩
      · replace h := h.2 hc
        refine x_aload_n (i := 0) (dxX12_corner_1 22 rfl) rfl rfl ?_
        refine x_iload_n (i := 1) (dxX12_corner_1 23 rfl) rfl rfl ?_
        refine cl_12_379 (kd_179 hL) (Nat.le_of_ble_eq_true rfl) (dxX12_corner_1 24 rfl) h (fun v10 s9 h => ?_) (Nat.le_refl _) (Nat.le_refl _)
        obtain ⟨hFs9, h⟩ := h
        have hKs9 : kd s9 = kd σ := hFs9.1.trans (rfl : kd σ = kd σ)
        have hLs9 : Lay s9 := hL.fr hFs9
        refine x_goto (tgt := 104) (dxX12_corner_1 25 rfl) (by decide) ?_
        exact x_iret (ty := .int) rfl rfl (dxX12_corner_1 27 rfl) ⟨_, rfl, h⟩
    · replace h := h.2 hc
      refine x_aload_n (i := 0) (dxX12_corner_1 14 rfl) rfl rfl ?_
      refine gf_12_102 (kd_179 hL) (rv_179_46 hL) (dxX12_corner_1 15 rfl) ?_
      refine x_iload_n (i := 1) (dxX12_corner_1 16 rfl) rfl rfl ?_
      obtain ⟨hi11, h⟩ := h
      refine x_iald (kd_210 hL) hi11 (dxX12_corner_1 17 rfl) ?_
      refine x_goto (tgt := 104) (dxX12_corner_1 18 rfl) (by decide) ?_
      exact x_iret (ty := .int) rfl rfl (dxX12_corner_1 27 rfl) ⟨_, rfl, h⟩
  · replace h := h.2 hc
    refine x_iload_n (i := 3) (dxX12_corner_0 27 rfl) rfl rfl ?_
    refine x_aload_n (i := 0) (dxX12_corner_0 28 rfl) rfl rfl ?_
    refine gf_12_102 (kd_179 hL) (rv_179_46 hL) (dxX12_corner_0 29 rfl) ?_
    refine x_iload (dxX12_corner_0 30 rfl) rfl ?_
    obtain ⟨hi12, h⟩ := h
    refine x_iald (kd_210 hL) hi12 (dxX12_corner_0 31 rfl) ?_
    refine x_aload_n (i := 0) (dxX12_corner_1 0 rfl) rfl rfl ?_
    refine gf_12_102 (kd_179 hL) (rv_179_46 hL) (dxX12_corner_1 1 rfl) ?_
    refine x_iload_n (i := 1) (dxX12_corner_1 2 rfl) rfl rfl ?_
    obtain ⟨hi13, h⟩ := h
    refine x_iald (kd_210 hL) hi13 (dxX12_corner_1 3 rfl) ?_
    refine x_icmp_ne (tgt := 68) (dxX12_corner_1 4 rfl) (by decide) (fun hc => ?_) (fun hc => ?_)
    · replace h := h.1 hc
      refine x_iconst (v := 0) (dxX12_corner_1 7 rfl) rfl ?_
      refine x_iadd (dxX12_corner_1 8 rfl) ?_
      refine x_topi (fun x14 e15 => ?_)
      replace h := h x14 e15
      refine x_istore_n (i := 3) (dxX12_corner_1 9 rfl) rfl (Nat.le_of_ble_eq_true rfl) rfl rfl ?_
      obtain ⟨x16, e17⟩ : ∃ y : Int32, y = l4 + 1 := ⟨_, rfl⟩
      replace h := h x16 e17
      refine x_iinc (v := x16) (dxX12_corner_1 10 rfl) (i := 4) rfl (by rw [e17]; rfl) (Nat.le_of_ble_eq_true rfl) rfl rfl ?_
      refine x_goto (tgt := 38) (dxX12_corner_1 11 rfl) (by decide) ?_
      exact h
    · replace h := h.2 hc
      refine x_iconst (v := 1) (dxX12_corner_1 5 rfl) rfl ?_
      refine x_goto (tgt := 69) (dxX12_corner_1 6 rfl) (by decide) ?_
      refine x_iadd (dxX12_corner_1 8 rfl) ?_
      refine x_topi (fun x18 e19 => ?_)
      replace h := h x18 e19
      refine x_istore_n (i := 3) (dxX12_corner_1 9 rfl) rfl (Nat.le_of_ble_eq_true rfl) rfl rfl ?_
      obtain ⟨x20, e21⟩ : ∃ y : Int32, y = l4 + 1 := ⟨_, rfl⟩
      replace h := h x20 e21
      refine x_iinc (v := x20) (dxX12_corner_1 10 rfl) (i := 4) rfl (by rw [e21]; rfl) (Nat.le_of_ble_eq_true rfl) rfl rfl ?_
      refine x_goto (tgt := 38) (dxX12_corner_1 11 rfl) (by decide) ?_
      exact h
theorem vcX12_crosses {g : GV} {d : Nat} {P : Int32 → PS → Prop} {σ : PS} (hL : Lay σ) (p0 np0 : Nat) (kp0 : kd σ p0 = some (.inr (0, np0))) (p1 : Int32) (p2 : Int32) (h : ∀ x1 : Int32, x1 = p1 + 1 → VX12_crosses g d P 5 [none, some (.ref p0), some (.int p1), some (.int p2), some (.int x1)] [] σ) : CX12_crosses g d [.ref 179, .ref p0, .int p1, .int p2] σ P := by
  refine x_entry (L := [some (.ref 179), some (.ref p0), some (.int p1), some (.int p2), none]) pn_12 (Nat.le_of_ble_eq_true rfl) ⟨1, rfl⟩ ?_
  show VX12_crosses g d P 0 [some (.ref 179), some (.ref p0), some (.int p1), some (.int p2), none] [] σ
  refine x_iload_n (i := 2) (dxX12_crosses_0 0 rfl) rfl rfl ?_
  refine x_iconst (v := 1) (dxX12_crosses_0 1 rfl) rfl ?_
  refine x_iadd (dxX12_crosses_0 2 rfl) ?_
  refine x_topi (fun x1 e2 => ?_)
  replace h := h x1 e2
  refine x_istore (dxX12_crosses_0 3 rfl) (Nat.le_of_ble_eq_true rfl) rfl rfl ?_
  refine x_mask [false, true, true, true, true] (L1 := [none, some (.ref p0), some (.int p1), some (.int p2), some (.int x1)]) rfl ?_
  exact h
theorem vcX12_crosses_5 {g : GV} {d : Nat} {P : Int32 → PS → Prop} {σ : PS} (hL : Lay σ) (l1 nl1 : Nat) (kl1 : kd σ l1 = some (.inr (0, nl1))) (l2 : Int32) (l3 : Int32) (l4 : Int32) (h : (l3 ≤ l4 → P 0 σ) ∧ (¬ l3 ≤ l4 → vp_in l4 nl1 ∧ ((mi σ l1 (Int32.toNatClampNeg l4)) < 0 → ∀ x4 : Int32, x4 = l4 + 1 → VX12_crosses g d P 5 [none, some (.ref l1), some (.int l2), some (.int l3), some (.int x4)] [] σ) ∧ (¬ (mi σ l1 (Int32.toNatClampNeg l4)) < 0 → vp_in l4 nl1 ∧ ((mi σ l1 (Int32.toNatClampNeg l4)) < l2 → P 1 σ) ∧ (¬ (mi σ l1 (Int32.toNatClampNeg l4)) < l2 → vp_in l4 nl1 ∧ ((mi σ l1 (Int32.toNatClampNeg l4)) ≤ l3 → ∀ x8 : Int32, x8 = l4 + 1 → VX12_crosses g d P 5 [none, some (.ref l1), some (.int l2), some (.int l3), some (.int x8)] [] σ) ∧ (¬ (mi σ l1 (Int32.toNatClampNeg l4)) ≤ l3 → P 1 σ))))) : VX12_crosses g d P 5 [none, some (.ref l1), some (.int l2), some (.int l3), some (.int l4)] [] σ := by
  refine x_iload (dxX12_crosses_0 4 rfl) rfl ?_
  refine x_iload_n (i := 3) (dxX12_crosses_0 5 rfl) rfl rfl ?_
  refine x_icmp_ge (tgt := 42) (dxX12_crosses_0 6 rfl) (by decide) (fun hc => ?_) (fun hc => ?_)
  · replace h := h.1 hc
    refine x_iconst (v := 0) (dxX12_crosses_0 25 rfl) rfl ?_
    exact x_iret (ty := .boolean) rfl rfl (dxX12_crosses_0 26 rfl) ⟨_, rfl, h⟩
  · replace h := h.2 hc
    refine x_aload_n (i := 1) (dxX12_crosses_0 7 rfl) rfl rfl ?_
    refine x_iload (dxX12_crosses_0 8 rfl) rfl ?_
    obtain ⟨hi3, h⟩ := h
    refine x_iald ((congrFun (rfl : kd σ = kd σ) _).trans kl1) hi3 (dxX12_crosses_0 9 rfl) ?_
    refine x_if_lt (tgt := 36) (dxX12_crosses_0 10 rfl) (by decide) (fun hc => ?_) (fun hc => ?_)
    · replace h := h.1 hc
      obtain ⟨x4, e5⟩ : ∃ y : Int32, y = l4 + 1 := ⟨_, rfl⟩
      replace h := h x4 e5
      refine x_iinc (v := x4) (dxX12_crosses_0 23 rfl) (i := 4) rfl (by rw [e5]; rfl) (Nat.le_of_ble_eq_true rfl) rfl rfl ?_
      refine x_goto (tgt := 5) (dxX12_crosses_0 24 rfl) (by decide) ?_
      exact h
    · replace h := h.2 hc
      refine x_aload_n (i := 1) (dxX12_crosses_0 11 rfl) rfl rfl ?_
      refine x_iload (dxX12_crosses_0 12 rfl) rfl ?_
      obtain ⟨hi6, h⟩ := h
      refine x_iald ((congrFun (rfl : kd σ = kd σ) _).trans kl1) hi6 (dxX12_crosses_0 13 rfl) ?_
      refine x_iload_n (i := 2) (dxX12_crosses_0 14 rfl) rfl rfl ?_
      refine x_icmp_lt (tgt := 34) (dxX12_crosses_0 15 rfl) (by decide) (fun hc => ?_) (fun hc => ?_)
      · replace h := h.1 hc
        refine x_iconst (v := 1) (dxX12_crosses_0 21 rfl) rfl ?_
        exact x_iret (ty := .boolean) rfl rfl (dxX12_crosses_0 22 rfl) ⟨_, rfl, h⟩
      · replace h := h.2 hc
        refine x_aload_n (i := 1) (dxX12_crosses_0 16 rfl) rfl rfl ?_
        refine x_iload (dxX12_crosses_0 17 rfl) rfl ?_
        obtain ⟨hi7, h⟩ := h
        refine x_iald ((congrFun (rfl : kd σ = kd σ) _).trans kl1) hi7 (dxX12_crosses_0 18 rfl) ?_
        refine x_iload_n (i := 3) (dxX12_crosses_0 19 rfl) rfl rfl ?_
        refine x_icmp_le (tgt := 36) (dxX12_crosses_0 20 rfl) (by decide) (fun hc => ?_) (fun hc => ?_)
        · replace h := h.1 hc
          obtain ⟨x8, e9⟩ : ∃ y : Int32, y = l4 + 1 := ⟨_, rfl⟩
          replace h := h x8 e9
          refine x_iinc (v := x8) (dxX12_crosses_0 23 rfl) (i := 4) rfl (by rw [e9]; rfl) (Nat.le_of_ble_eq_true rfl) rfl rfl ?_
          refine x_goto (tgt := 5) (dxX12_crosses_0 24 rfl) (by decide) ?_
          exact h
        · replace h := h.2 hc
          refine x_iconst (v := 1) (dxX12_crosses_0 21 rfl) rfl ?_
          exact x_iret (ty := .boolean) rfl rfl (dxX12_crosses_0 22 rfl) ⟨_, rfl, h⟩
theorem vcX12_pairs {g : GV} {d : Nat} {P : PS → Prop} {σ : PS} (hL : Lay σ) (p0 : Int32) (h : ((mi σ 179 48) ≤ 2000 → VX12_pairs g (d + 1) P 13 [some (.ref 179), none, some (.int p0), none] [] σ) ∧ (¬ (mi σ 179 48) ≤ 2000 → P σ)) : CX12_pairs g (d + 1) [.ref 179, .int p0] σ P := by
  refine x_entry (L := [some (.ref 179), some (.int p0), none, none]) pn_12 (Nat.le_of_ble_eq_true rfl) ⟨2, rfl⟩ ?_
  show VX12_pairs g (d + 1) P 0 [some (.ref 179), some (.int p0), none, none] [] σ
  refine x_aload_n (i := 0) (dxX12_pairs_0 0 rfl) rfl rfl ?_
  refine gf_12_386 (kd_179 hL) rfl (dxX12_pairs_0 1 rfl) ?_
  refine x_sipush (v := 2000) (dxX12_pairs_0 2 rfl) rfl ?_
  refine x_icmp_le (tgt := 11) (dxX12_pairs_0 3 rfl) (by decide) (fun hc => ?_) (fun hc => ?_)
  · replace h := h.1 hc
    refine x_iload_n (i := 1) (dxX12_pairs_0 5 rfl) rfl rfl ?_
    refine x_istore_n (i := 2) (dxX12_pairs_0 6 rfl) rfl (Nat.le_of_ble_eq_true rfl) rfl rfl ?_
    refine x_mask [true, false, true, false] (L1 := [some (.ref 179), none, some (.int p0), none]) rfl ?_
    exact h
  · replace h := h.2 hc
    exact x_vret rfl (dxX12_pairs_0 4 rfl) ⟨rfl, h⟩
theorem vcX12_pairs_13 {g : GV} {d : Nat} {P : PS → Prop} {σ : PS} (hL : Lay σ) (l2 : Int32) (h : ((mi σ 179 38) ≤ l2 → (¬ l2 = (mi σ 179 38) → ∀ x1 : Int32, x1 = l2 + 1 → VX12_pairs g (d + 1) P 118 [some (.ref 179), none, some (.int l2), some (.int x1)] [] σ) ∧ (l2 = (mi σ 179 38) → CX12_corners g d [.ref 179, .ref 212] σ (fun (v4 : Int32) (s3 : PS) => Fr σ s3 ∧ (¬ v4 = 0 → VX12_pairs g (d + 1) P 58 [some (.ref 179), none, none, some (.int 0)] [] s3) ∧ (v4 = 0 → P s3)))) ∧ (¬ (mi σ 179 38) ≤ l2 → vp_in l2 24 ∧ ((mi σ 212 (Int32.toNatClampNeg l2)) < 0 → (¬ l2 = (mi σ 179 38) → ∀ x6 : Int32, x6 = l2 + 1 → VX12_pairs g (d + 1) P 118 [some (.ref 179), none, some (.int l2), some (.int x6)] [] σ) ∧ (l2 = (mi σ 179 38) → CX12_corners g d [.ref 179, .ref 212] σ (fun (v9 : Int32) (s8 : PS) => Fr σ s8 ∧ (¬ v9 = 0 → VX12_pairs g (d + 1) P 58 [some (.ref 179), none, none, some (.int 0)] [] s8) ∧ (v9 = 0 → P s8)))) ∧ (¬ (mi σ 212 (Int32.toNatClampNeg l2)) < 0 → ∀ x10 : Int32, x10 = l2 + 1 → VX12_pairs g (d + 1) P 13 [some (.ref 179), none, some (.int x10), none] [] σ))) : VX12_pairs g (d + 1) P 13 [some (.ref 179), none, some (.int l2), none] [] σ := by
  refine x_iload_n (i := 2) (dxX12_pairs_0 7 rfl) rfl rfl ?_
  refine x_aload_n (i := 0) (dxX12_pairs_0 8 rfl) rfl rfl ?_
  refine gf_12_332 (kd_179 hL) rfl (dxX12_pairs_0 9 rfl) ?_
  refine x_icmp_ge (tgt := 36) (dxX12_pairs_0 10 rfl) (by decide) (fun hc => ?_) (fun hc => ?_)
  · replace h := h.1 hc
    refine x_iload_n (i := 2) (dxX12_pairs_0 18 rfl) rfl rfl ?_
    refine x_aload_n (i := 0) (dxX12_pairs_0 19 rfl) rfl rfl ?_
    refine gf_12_332 (kd_179 hL) rfl (dxX12_pairs_0 20 rfl) ?_
    refine x_icmp_ne (tgt := 114) (dxX12_pairs_0 21 rfl) (by decide) (fun hc => ?_) (fun hc => ?_)
    · replace h := h.1 hc
      refine x_iload_n (i := 2) (dxX12_pairs_1 29 rfl) rfl rfl ?_
      refine x_iconst (v := 1) (dxX12_pairs_1 30 rfl) rfl ?_
      refine x_iadd (dxX12_pairs_1 31 rfl) ?_
      refine x_topi (fun x1 e2 => ?_)
      replace h := h x1 e2
      refine x_istore_n (i := 3) (dxX12_pairs_2 0 rfl) rfl (Nat.le_of_ble_eq_true rfl) rfl rfl ?_
      exact h
    · replace h := h.2 hc
      refine x_aload_n (i := 0) (dxX12_pairs_0 22 rfl) rfl rfl ?_
      refine x_aload_n (i := 0) (dxX12_pairs_0 23 rfl) rfl rfl ?_
      refine gf_12_110 (kd_179 hL) (rv_179_50 hL) (dxX12_pairs_0 24 rfl) ?_
      refine cl_12_382 (kd_179 hL) (Nat.le_of_ble_eq_true rfl) (dxX12_pairs_0 25 rfl) h (fun v4 s3 h => ?_) (Nat.le_refl _) (Nat.le_refl _)
      obtain ⟨hFs3, h⟩ := h
      have hKs3 : kd s3 = kd σ := hFs3.1.trans (rfl : kd σ = kd σ)
      have hLs3 : Lay s3 := hL.fr hFs3
      refine x_if_ne (tgt := 56) (dxX12_pairs_0 26 rfl) (by decide) (fun hc => ?_) (fun hc => ?_)
      · replace h := h.1 hc
        refine x_iconst (v := 0) (dxX12_pairs_0 28 rfl) rfl ?_
        refine x_istore_n (i := 3) (dxX12_pairs_0 29 rfl) rfl (Nat.le_of_ble_eq_true rfl) rfl rfl ?_
        refine x_mask [true, false, false, true] (L1 := [some (.ref 179), none, none, some (.int 0)]) rfl ?_
        exact h
      · replace h := h.2 hc
        exact x_vret rfl (dxX12_pairs_0 27 rfl) ⟨rfl, h⟩
  · replace h := h.2 hc
    refine x_aload_n (i := 0) (dxX12_pairs_0 11 rfl) rfl rfl ?_
    refine gf_12_110 (kd_179 hL) (rv_179_50 hL) (dxX12_pairs_0 12 rfl) ?_
    refine x_iload_n (i := 2) (dxX12_pairs_0 13 rfl) rfl rfl ?_
    obtain ⟨hi5, h⟩ := h
    refine x_iald (kd_212 hL) hi5 (dxX12_pairs_0 14 rfl) ?_
    refine x_if_lt (tgt := 36) (dxX12_pairs_0 15 rfl) (by decide) (fun hc => ?_) (fun hc => ?_)
    · replace h := h.1 hc
      refine x_iload_n (i := 2) (dxX12_pairs_0 18 rfl) rfl rfl ?_
      refine x_aload_n (i := 0) (dxX12_pairs_0 19 rfl) rfl rfl ?_
      refine gf_12_332 (kd_179 hL) rfl (dxX12_pairs_0 20 rfl) ?_
      refine x_icmp_ne (tgt := 114) (dxX12_pairs_0 21 rfl) (by decide) (fun hc => ?_) (fun hc => ?_)
      · replace h := h.1 hc
        refine x_iload_n (i := 2) (dxX12_pairs_1 29 rfl) rfl rfl ?_
        refine x_iconst (v := 1) (dxX12_pairs_1 30 rfl) rfl ?_
        refine x_iadd (dxX12_pairs_1 31 rfl) ?_
        refine x_topi (fun x6 e7 => ?_)
        replace h := h x6 e7
        refine x_istore_n (i := 3) (dxX12_pairs_2 0 rfl) rfl (Nat.le_of_ble_eq_true rfl) rfl rfl ?_
        exact h
      · replace h := h.2 hc
        refine x_aload_n (i := 0) (dxX12_pairs_0 22 rfl) rfl rfl ?_
        refine x_aload_n (i := 0) (dxX12_pairs_0 23 rfl) rfl rfl ?_
        refine gf_12_110 (kd_179 hL) (rv_179_50 hL) (dxX12_pairs_0 24 rfl) ?_
        refine cl_12_382 (kd_179 hL) (Nat.le_of_ble_eq_true rfl) (dxX12_pairs_0 25 rfl) h (fun v9 s8 h => ?_) (Nat.le_refl _) (Nat.le_refl _)
        obtain ⟨hFs8, h⟩ := h
        have hKs8 : kd s8 = kd σ := hFs8.1.trans (rfl : kd σ = kd σ)
        have hLs8 : Lay s8 := hL.fr hFs8
        refine x_if_ne (tgt := 56) (dxX12_pairs_0 26 rfl) (by decide) (fun hc => ?_) (fun hc => ?_)
        · replace h := h.1 hc
          refine x_iconst (v := 0) (dxX12_pairs_0 28 rfl) rfl ?_
          refine x_istore_n (i := 3) (dxX12_pairs_0 29 rfl) rfl (Nat.le_of_ble_eq_true rfl) rfl rfl ?_
          refine x_mask [true, false, false, true] (L1 := [some (.ref 179), none, none, some (.int 0)]) rfl ?_
          exact h
        · replace h := h.2 hc
          exact x_vret rfl (dxX12_pairs_0 27 rfl) ⟨rfl, h⟩
    · replace h := h.2 hc
      obtain ⟨x10, e11⟩ : ∃ y : Int32, y = l2 + 1 := ⟨_, rfl⟩
      replace h := h x10 e11
      refine x_iinc (v := x10) (dxX12_pairs_0 16 rfl) (i := 2) rfl (by rw [e11]; rfl) (Nat.le_of_ble_eq_true rfl) rfl rfl ?_
      refine x_goto (tgt := 13) (dxX12_pairs_0 17 rfl) (by decide) ?_
      exact h
theorem vcX12_pairs_118 {g : GV} {d : Nat} {P : PS → Prop} {σ : PS} (hL : Lay σ) (l2 : Int32) (l3 : Int32) (h : ((mi σ 179 38) ≤ l3 → P σ) ∧ (¬ (mi σ 179 38) ≤ l3 → vp_in l3 24 ∧ (0 ≤ (mi σ 212 (Int32.toNatClampNeg l3)) → ∀ x13 : Int32, x13 = l3 + 2 → VX12_pairs g (d + 1) P 118 [some (.ref 179), none, some (.int l2), some (.int x13)] [] σ) ∧ (¬ 0 ≤ (mi σ 212 (Int32.toNatClampNeg l3)) → CX12_crosses g d [.ref 179, .ref 212, .int l2, .int l3] σ (fun (v16 : Int32) (s15 : PS) => Fr σ s15 ∧ (v16 = 0 → vp_in l2 24 ∧ ∀ s18 : PS, s18 = si s15 212 (Int32.toNatClampNeg l2) l3 → vp_in l3 24 ∧ ∀ s21 : PS, s21 = si s18 212 (Int32.toNatClampNeg l3) l2 → CX12_pairs g d [.ref 179, .int (l2 + 1)] s21 (fun (s23 : PS) => Fr s21 s23 ∧ vp_in l2 24 ∧ ∀ s26 : PS, s26 = si s23 212 (Int32.toNatClampNeg l2) (-1) → vp_in l3 24 ∧ ∀ s29 : PS, s29 = si s26 212 (Int32.toNatClampNeg l3) (-1) → ∀ x31 : Int32, x31 = l3 + 2 → VX12_pairs g (d + 1) P 118 [some (.ref 179), none, some (.int l2), some (.int x31)] [] s29)) ∧ (¬ v16 = 0 → ∀ x33 : Int32, x33 = l3 + 2 → VX12_pairs g (d + 1) P 118 [some (.ref 179), none, some (.int l2), some (.int x33)] [] s15))))) : VX12_pairs g (d + 1) P 118 [some (.ref 179), none, some (.int l2), some (.int l3)] [] σ := by
  refine x_iload_n (i := 3) (dxX12_pairs_2 1 rfl) rfl rfl ?_
  refine x_aload_n (i := 0) (dxX12_pairs_2 2 rfl) rfl rfl ?_
  refine gf_12_332 (kd_179 hL) rfl (dxX12_pairs_2 3 rfl) ?_
  refine x_icmp_ge (tgt := 192) (dxX12_pairs_2 4 rfl) (by decide) (fun hc => ?_) (fun hc => ?_)
  · replace h := h.1 hc
    exact x_vret rfl (dxX12_pairs_3 13 rfl) ⟨rfl, h⟩
  · replace h := h.2 hc
    refine x_aload_n (i := 0) (dxX12_pairs_2 5 rfl) rfl rfl ?_
    refine gf_12_110 (kd_179 hL) (rv_179_50 hL) (dxX12_pairs_2 6 rfl) ?_
    refine x_iload_n (i := 3) (dxX12_pairs_2 7 rfl) rfl rfl ?_
    obtain ⟨hi12, h⟩ := h
    refine x_iald (kd_212 hL) hi12 (dxX12_pairs_2 8 rfl) ?_
    refine x_if_ge (tgt := 186) (dxX12_pairs_2 9 rfl) (by decide) (fun hc => ?_) (fun hc => ?_)
    · replace h := h.1 hc
      obtain ⟨x13, e14⟩ : ∃ y : Int32, y = l3 + 2 := ⟨_, rfl⟩
      replace h := h x13 e14
      refine x_iinc (v := x13) (dxX12_pairs_3 11 rfl) (i := 3) rfl (by rw [e14]; rfl) (Nat.le_of_ble_eq_true rfl) rfl rfl ?_
      refine x_goto (tgt := 118) (dxX12_pairs_3 12 rfl) (by decide) ?_
      exact h
    · replace h := h.2 hc
      refine x_aload_n (i := 0) (dxX12_pairs_2 10 rfl) rfl rfl ?_
      refine x_aload_n (i := 0) (dxX12_pairs_2 11 rfl) rfl rfl ?_
      refine gf_12_110 (kd_179 hL) (rv_179_50 hL) (dxX12_pairs_2 12 rfl) ?_
      refine x_iload_n (i := 2) (dxX12_pairs_2 13 rfl) rfl rfl ?_
      refine x_iload_n (i := 3) (dxX12_pairs_2 14 rfl) rfl rfl ?_
      refine cl_12_389 (kd_179 hL) (Nat.le_of_ble_eq_true rfl) (dxX12_pairs_2 15 rfl) h (fun v16 s15 h => ?_) (Nat.le_refl _) (Nat.le_refl _)
      obtain ⟨hFs15, h⟩ := h
      have hKs15 : kd s15 = kd σ := hFs15.1.trans (rfl : kd σ = kd σ)
      have hLs15 : Lay s15 := hL.fr hFs15
      refine x_if_eq (tgt := 151) (dxX12_pairs_2 16 rfl) (by decide) (fun hc => ?_) (fun hc => ?_)
      · replace h := h.1 hc
        refine x_aload_n (i := 0) (dxX12_pairs_2 18 rfl) rfl rfl ?_
        refine gf_12_110 (kd_179 hLs15) (rv_179_50 hLs15) (dxX12_pairs_2 19 rfl) ?_
        refine x_iload_n (i := 2) (dxX12_pairs_2 20 rfl) rfl rfl ?_
        refine x_iload_n (i := 3) (dxX12_pairs_2 21 rfl) rfl rfl ?_
        obtain ⟨hi17, h⟩ := h
        refine x_iast (kd_212 hLs15) hi17 (dxX12_pairs_2 22 rfl) ?_
        refine x_sto (fun s18 e19 => ?_)
        replace h := h s18 e19
        have hKs18 : kd s18 = kd σ := by rw [e19]; exact hKs15
        have hLs18 : Lay s18 := by rw [e19]; exact hLs15.si
        refine x_aload_n (i := 0) (dxX12_pairs_2 23 rfl) rfl rfl ?_
        refine gf_12_110 (kd_179 hLs18) (rv_179_50 hLs18) (dxX12_pairs_2 24 rfl) ?_
        refine x_iload_n (i := 3) (dxX12_pairs_2 25 rfl) rfl rfl ?_
        refine x_iload_n (i := 2) (dxX12_pairs_2 26 rfl) rfl rfl ?_
        obtain ⟨hi20, h⟩ := h
        refine x_iast (kd_212 hLs18) hi20 (dxX12_pairs_2 27 rfl) ?_
        refine x_sto (fun s21 e22 => ?_)
        replace h := h s21 e22
        have hKs21 : kd s21 = kd σ := by rw [e22]; exact hKs18
        have hLs21 : Lay s21 := by rw [e22]; exact hLs18.si
        refine x_aload_n (i := 0) (dxX12_pairs_2 28 rfl) rfl rfl ?_
        refine x_iload_n (i := 2) (dxX12_pairs_2 29 rfl) rfl rfl ?_
        refine x_iconst (v := 1) (dxX12_pairs_2 30 rfl) rfl ?_
        refine x_iadd (dxX12_pairs_2 31 rfl) ?_
        refine cl_12_393 (kd_179 hLs21) (Nat.le_of_ble_eq_true rfl) (dxX12_pairs_3 0 rfl) h (fun s23 h => ?_) (Nat.le_refl _) (Nat.le_refl _)
        obtain ⟨hFs23, h⟩ := h
        have hKs23 : kd s23 = kd σ := hFs23.1.trans hKs21
        have hLs23 : Lay s23 := hLs21.fr hFs23
        refine x_aload_n (i := 0) (dxX12_pairs_3 1 rfl) rfl rfl ?_
        refine gf_12_110 (kd_179 hLs23) (rv_179_50 hLs23) (dxX12_pairs_3 2 rfl) ?_
        refine x_iload_n (i := 2) (dxX12_pairs_3 3 rfl) rfl rfl ?_
        refine x_iconst (v := (-1)) (dxX12_pairs_3 4 rfl) rfl ?_
        obtain ⟨hi25, h⟩ := h
        refine x_iast (kd_212 hLs23) hi25 (dxX12_pairs_3 5 rfl) ?_
        refine x_sto (fun s26 e27 => ?_)
        replace h := h s26 e27
        have hKs26 : kd s26 = kd σ := by rw [e27]; exact hKs23
        have hLs26 : Lay s26 := by rw [e27]; exact hLs23.si
        refine x_aload_n (i := 0) (dxX12_pairs_3 6 rfl) rfl rfl ?_
        refine gf_12_110 (kd_179 hLs26) (rv_179_50 hLs26) (dxX12_pairs_3 7 rfl) ?_
        refine x_iload_n (i := 3) (dxX12_pairs_3 8 rfl) rfl rfl ?_
        refine x_iconst (v := (-1)) (dxX12_pairs_3 9 rfl) rfl ?_
        obtain ⟨hi28, h⟩ := h
        refine x_iast (kd_212 hLs26) hi28 (dxX12_pairs_3 10 rfl) ?_
        refine x_sto (fun s29 e30 => ?_)
        replace h := h s29 e30
        have hKs29 : kd s29 = kd σ := by rw [e30]; exact hKs26
        have hLs29 : Lay s29 := by rw [e30]; exact hLs26.si
        obtain ⟨x31, e32⟩ : ∃ y : Int32, y = l3 + 2 := ⟨_, rfl⟩
        replace h := h x31 e32
        refine x_iinc (v := x31) (dxX12_pairs_3 11 rfl) (i := 3) rfl (by rw [e32]; rfl) (Nat.le_of_ble_eq_true rfl) rfl rfl ?_
        refine x_goto (tgt := 118) (dxX12_pairs_3 12 rfl) (by decide) ?_
        exact h
      · replace h := h.2 hc
        refine x_goto (tgt := 186) (dxX12_pairs_2 17 rfl) (by decide) ?_
        obtain ⟨x33, e34⟩ : ∃ y : Int32, y = l3 + 2 := ⟨_, rfl⟩
        replace h := h x33 e34
        refine x_iinc (v := x33) (dxX12_pairs_3 11 rfl) (i := 3) rfl (by rw [e34]; rfl) (Nat.le_of_ble_eq_true rfl) rfl rfl ?_
        refine x_goto (tgt := 118) (dxX12_pairs_3 12 rfl) (by decide) ?_
        exact h
theorem vcX12_pairs_58 {g : GV} {d : Nat} {P : PS → Prop} {σ : PS} (hL : Lay σ) (l3 : Int32) (h : ((mi σ 179 38) ≤ l3 → ∀ s35 : PS, s35 = si σ 179 48 ((mi σ 179 48) + 1) → P s35) ∧ (¬ (mi σ 179 38) ≤ l3 → (2001 ≤ (mi σ 179 48) → ∀ s37 : PS, s37 = si σ 179 48 ((mi σ 179 48) + 1) → P s37) ∧ (¬ 2001 ≤ (mi σ 179 48) → vp_in l3 24 ∧ vp_in ((24 * (mi σ 179 48)) + l3) 48048 ∧ ∀ s41 : PS, s41 = si σ 211 (Int32.toNatClampNeg ((24 * (mi σ 179 48)) + l3)) (vp_nar .byte (ji2b (mi σ 212 (Int32.toNatClampNeg l3)))) → ∀ x43 : Int32, x43 = l3 + 1 → VX12_pairs g (d + 1) P 58 [some (.ref 179), none, none, some (.int x43)] [] s41))) : VX12_pairs g (d + 1) P 58 [some (.ref 179), none, none, some (.int l3)] [] σ := by
  refine x_iload_n (i := 3) (dxX12_pairs_0 30 rfl) rfl rfl ?_
  refine x_aload_n (i := 0) (dxX12_pairs_0 31 rfl) rfl rfl ?_
  refine gf_12_332 (kd_179 hL) rfl (dxX12_pairs_1 0 rfl) ?_
  refine x_icmp_ge (tgt := 103) (dxX12_pairs_1 1 rfl) (by decide) (fun hc => ?_) (fun hc => ?_)
  · replace h := h.1 hc
    refine x_aload_n (i := 0) (dxX12_pairs_1 22 rfl) rfl rfl ?_
    refine x_dup (dxX12_pairs_1 23 rfl) rfl ?_
    refine gf_12_386 (kd_179 hL) rfl (dxX12_pairs_1 24 rfl) ?_
    refine x_iconst (v := 1) (dxX12_pairs_1 25 rfl) rfl ?_
    refine x_iadd (dxX12_pairs_1 26 rfl) ?_
    refine pf_12_386 (kd_179 hL) (dxX12_pairs_1 27 rfl) ?_
    refine x_sto (fun s35 e36 => ?_)
    replace h := h s35 e36
    have hKs35 : kd s35 = kd σ := by rw [e36]; exact (rfl : kd σ = kd σ)
    have hLs35 : Lay s35 := by rw [e36]; exact hL.si
    exact x_vret rfl (dxX12_pairs_1 28 rfl) ⟨rfl, h⟩
  · replace h := h.2 hc
    refine x_aload_n (i := 0) (dxX12_pairs_1 2 rfl) rfl rfl ?_
    refine gf_12_386 (kd_179 hL) rfl (dxX12_pairs_1 3 rfl) ?_
    refine x_sipush (v := 2001) (dxX12_pairs_1 4 rfl) rfl ?_
    refine x_icmp_ge (tgt := 103) (dxX12_pairs_1 5 rfl) (by decide) (fun hc => ?_) (fun hc => ?_)
    · replace h := h.1 hc
      refine x_aload_n (i := 0) (dxX12_pairs_1 22 rfl) rfl rfl ?_
      refine x_dup (dxX12_pairs_1 23 rfl) rfl ?_
      refine gf_12_386 (kd_179 hL) rfl (dxX12_pairs_1 24 rfl) ?_
      refine x_iconst (v := 1) (dxX12_pairs_1 25 rfl) rfl ?_
      refine x_iadd (dxX12_pairs_1 26 rfl) ?_
      refine pf_12_386 (kd_179 hL) (dxX12_pairs_1 27 rfl) ?_
      refine x_sto (fun s37 e38 => ?_)
      replace h := h s37 e38
      have hKs37 : kd s37 = kd σ := by rw [e38]; exact (rfl : kd σ = kd σ)
      have hLs37 : Lay s37 := by rw [e38]; exact hL.si
      exact x_vret rfl (dxX12_pairs_1 28 rfl) ⟨rfl, h⟩
    · replace h := h.2 hc
      refine x_aload_n (i := 0) (dxX12_pairs_1 6 rfl) rfl rfl ?_
      refine gf_12_106 (kd_179 hL) (rv_179_49 hL) (dxX12_pairs_1 7 rfl) ?_
      refine x_bipush (v := 24) (dxX12_pairs_1 8 rfl) rfl ?_
      refine x_aload_n (i := 0) (dxX12_pairs_1 9 rfl) rfl rfl ?_
      refine gf_12_386 (kd_179 hL) rfl (dxX12_pairs_1 10 rfl) ?_
      refine x_imul (dxX12_pairs_1 11 rfl) ?_
      refine x_iload_n (i := 3) (dxX12_pairs_1 12 rfl) rfl rfl ?_
      refine x_iadd (dxX12_pairs_1 13 rfl) ?_
      refine x_aload_n (i := 0) (dxX12_pairs_1 14 rfl) rfl rfl ?_
      refine gf_12_110 (kd_179 hL) (rv_179_50 hL) (dxX12_pairs_1 15 rfl) ?_
      refine x_iload_n (i := 3) (dxX12_pairs_1 16 rfl) rfl rfl ?_
      obtain ⟨hi39, h⟩ := h
      refine x_iald (kd_212 hL) hi39 (dxX12_pairs_1 17 rfl) ?_
      refine x_i2b (dxX12_pairs_1 18 rfl) ?_
      obtain ⟨hi40, h⟩ := h
      refine x_bast (kd_211 hL) hi40 (dxX12_pairs_1 19 rfl) ?_
      refine x_sto (fun s41 e42 => ?_)
      replace h := h s41 e42
      have hKs41 : kd s41 = kd σ := by rw [e42]; exact (rfl : kd σ = kd σ)
      have hLs41 : Lay s41 := by rw [e42]; exact hL.si
      obtain ⟨x43, e44⟩ : ∃ y : Int32, y = l3 + 1 := ⟨_, rfl⟩
      replace h := h x43 e44
      refine x_iinc (v := x43) (dxX12_pairs_1 20 rfl) (i := 3) rfl (by rw [e44]; rfl) (Nat.le_of_ble_eq_true rfl) rfl rfl ?_
      refine x_goto (tgt := 58) (dxX12_pairs_1 21 rfl) (by decide) ?_
      exact h
theorem vcX12_isListed {g : GV} {d : Nat} {P : Int32 → PS → Prop} {σ : PS} (hL : Lay σ)  (h : (¬ (mi σ 179 47) = 0 → (2000 < (mi σ 179 48) → P 0 σ) ∧ (¬ 2000 < (mi σ 179 48) → P 1 σ)) ∧ ((mi σ 179 47) = 0 → ∀ s1 : PS, s1 = si σ 179 47 1 → ∀ s3 : PS, s3 = si s1 179 59 0 → ∀ s5 : PS, s5 = si s3 179 48 0 → VX12_isListed g (d + 1) P 24 [some (.ref 179), some (.int 0)] [] s5)) : CX12_isListed g (d + 1) [.ref 179] σ P := by
  refine x_entry (L := [some (.ref 179), none]) pn_12 (Nat.le_of_ble_eq_true rfl) ⟨1, rfl⟩ ?_
  show VX12_isListed g (d + 1) P 0 [some (.ref 179), none] [] σ
  refine x_aload_n (i := 0) (dxX12_isListed_0 0 rfl) rfl rfl ?_
  refine gf_12_338 (kd_179 hL) rfl (dxX12_isListed_0 1 rfl) ?_
  refine x_if_ne (tgt := 48) (dxX12_isListed_0 2 rfl) (by decide) (fun hc => ?_) (fun hc => ?_)
  · replace h := h.1 hc
    refine x_aload_n (i := 0) (dxX12_isListed_0 27 rfl) rfl rfl ?_
    refine gf_12_386 (kd_179 hL) rfl (dxX12_isListed_0 28 rfl) ?_
    refine x_sipush (v := 2000) (dxX12_isListed_0 29 rfl) rfl ?_
    refine x_icmp_gt (tgt := 62) (dxX12_isListed_0 30 rfl) (by decide) (fun hc => ?_) (fun hc => ?_)
    · replace h := h.1 hc
      refine x_iconst (v := 0) (dxX12_isListed_1 1 rfl) rfl ?_
      exact x_iret (ty := .boolean) rfl rfl (dxX12_isListed_1 2 rfl) ⟨_, rfl, h⟩
    · replace h := h.2 hc
      refine x_iconst (v := 1) (dxX12_isListed_0 31 rfl) rfl ?_
      refine x_goto (tgt := 63) (dxX12_isListed_1 0 rfl) (by decide) ?_
      exact x_iret (ty := .boolean) rfl rfl (dxX12_isListed_1 2 rfl) ⟨_, rfl, h⟩
  · replace h := h.2 hc
    refine x_aload_n (i := 0) (dxX12_isListed_0 3 rfl) rfl rfl ?_
    refine x_iconst (v := 1) (dxX12_isListed_0 4 rfl) rfl ?_
    refine pf_12_338 (Or.inr rfl) (kd_179 hL) (dxX12_isListed_0 5 rfl) ?_
    refine x_sto (fun s1 e2 => ?_)
    replace h := h s1 e2
    have hKs1 : kd s1 = kd σ := by rw [e2]; exact (rfl : kd σ = kd σ)
    have hLs1 : Lay s1 := by rw [e2]; exact hL.si
    refine x_aload_n (i := 0) (dxX12_isListed_0 6 rfl) rfl rfl ?_
    refine x_iconst (v := 0) (dxX12_isListed_0 7 rfl) rfl ?_
    refine pf_12_396 (Or.inl rfl) (kd_179 hLs1) (dxX12_isListed_0 8 rfl) ?_
    refine x_sto (fun s3 e4 => ?_)
    replace h := h s3 e4
    have hKs3 : kd s3 = kd σ := by rw [e4]; exact hKs1
    have hLs3 : Lay s3 := by rw [e4]; exact hLs1.si
    refine x_aload_n (i := 0) (dxX12_isListed_0 9 rfl) rfl rfl ?_
    refine x_iconst (v := 0) (dxX12_isListed_0 10 rfl) rfl ?_
    refine pf_12_386 (kd_179 hLs3) (dxX12_isListed_0 11 rfl) ?_
    refine x_sto (fun s5 e6 => ?_)
    replace h := h s5 e6
    have hKs5 : kd s5 = kd σ := by rw [e6]; exact hKs3
    have hLs5 : Lay s5 := by rw [e6]; exact hLs3.si
    refine x_iconst (v := 0) (dxX12_isListed_0 12 rfl) rfl ?_
    refine x_istore_n (i := 1) (dxX12_isListed_0 13 rfl) rfl (Nat.le_of_ble_eq_true rfl) rfl rfl ?_
    exact h
theorem vcX12_isListed_24 {g : GV} {d : Nat} {P : Int32 → PS → Prop} {σ : PS} (hL : Lay σ) (l1 : Int32) (h : (24 ≤ l1 → CX12_pairs g d [.ref 179, .int 0] σ (fun (s7 : PS) => Fr σ s7 ∧ (2000 < (mi s7 179 48) → P 0 s7) ∧ (¬ 2000 < (mi s7 179 48) → P 1 s7))) ∧ (¬ 24 ≤ l1 → vp_in l1 24 ∧ ∀ s10 : PS, s10 = si σ 212 (Int32.toNatClampNeg l1) (-1) → ∀ x12 : Int32, x12 = l1 + 1 → VX12_isListed g (d + 1) P 24 [some (.ref 179), some (.int x12)] [] s10)) : VX12_isListed g (d + 1) P 24 [some (.ref 179), some (.int l1)] [] σ := by
  refine x_iload_n (i := 1) (dxX12_isListed_0 14 rfl) rfl rfl ?_
  refine x_bipush (v := 24) (dxX12_isListed_0 15 rfl) rfl ?_
  refine x_icmp_ge (tgt := 43) (dxX12_isListed_0 16 rfl) (by decide) (fun hc => ?_) (fun hc => ?_)
  · replace h := h.1 hc
    refine x_aload_n (i := 0) (dxX12_isListed_0 24 rfl) rfl rfl ?_
    refine x_iconst (v := 0) (dxX12_isListed_0 25 rfl) rfl ?_
    refine cl_12_393 (kd_179 hL) (Nat.le_of_ble_eq_true rfl) (dxX12_isListed_0 26 rfl) h (fun s7 h => ?_) (Nat.le_refl _) (Nat.le_refl _)
    obtain ⟨hFs7, h⟩ := h
    have hKs7 : kd s7 = kd σ := hFs7.1.trans (rfl : kd σ = kd σ)
    have hLs7 : Lay s7 := hL.fr hFs7
    refine x_aload_n (i := 0) (dxX12_isListed_0 27 rfl) rfl rfl ?_
    refine gf_12_386 (kd_179 hLs7) rfl (dxX12_isListed_0 28 rfl) ?_
    refine x_sipush (v := 2000) (dxX12_isListed_0 29 rfl) rfl ?_
    refine x_icmp_gt (tgt := 62) (dxX12_isListed_0 30 rfl) (by decide) (fun hc => ?_) (fun hc => ?_)
    · replace h := h.1 hc
      refine x_iconst (v := 0) (dxX12_isListed_1 1 rfl) rfl ?_
      exact x_iret (ty := .boolean) rfl rfl (dxX12_isListed_1 2 rfl) ⟨_, rfl, h⟩
    · replace h := h.2 hc
      refine x_iconst (v := 1) (dxX12_isListed_0 31 rfl) rfl ?_
      refine x_goto (tgt := 63) (dxX12_isListed_1 0 rfl) (by decide) ?_
      exact x_iret (ty := .boolean) rfl rfl (dxX12_isListed_1 2 rfl) ⟨_, rfl, h⟩
  · replace h := h.2 hc
    refine x_aload_n (i := 0) (dxX12_isListed_0 17 rfl) rfl rfl ?_
    refine gf_12_110 (kd_179 hL) (rv_179_50 hL) (dxX12_isListed_0 18 rfl) ?_
    refine x_iload_n (i := 1) (dxX12_isListed_0 19 rfl) rfl rfl ?_
    refine x_iconst (v := (-1)) (dxX12_isListed_0 20 rfl) rfl ?_
    obtain ⟨hi9, h⟩ := h
    refine x_iast (kd_212 hL) hi9 (dxX12_isListed_0 21 rfl) ?_
    refine x_sto (fun s10 e11 => ?_)
    replace h := h s10 e11
    have hKs10 : kd s10 = kd σ := by rw [e11]; exact (rfl : kd σ = kd σ)
    have hLs10 : Lay s10 := by rw [e11]; exact hL.si
    obtain ⟨x12, e13⟩ : ∃ y : Int32, y = l1 + 1 := ⟨_, rfl⟩
    replace h := h x12 e13
    refine x_iinc (v := x12) (dxX12_isListed_0 22 rfl) (i := 1) rfl (by rw [e13]; rfl) (Nat.le_of_ble_eq_true rfl) rfl rfl ?_
    refine x_goto (tgt := 24) (dxX12_isListed_0 23 rfl) (by decide) ?_
    exact h
theorem vcX12_isGluing {g : GV} {d : Nat} {P : Int32 → PS → Prop} {σ : PS} (hL : Lay σ) (p0 : Int32) (h : CX12_isListed g d [.ref 179] σ (fun (v2 : Int32) (s1 : PS) => Fr σ s1 ∧ (v2 = 0 → P 0 s1) ∧ (¬ v2 = 0 → (p0 < 0 → P 0 s1) ∧ (¬ p0 < 0 → ((mi s1 179 48) ≤ p0 → P 0 s1) ∧ (¬ (mi s1 179 48) ≤ p0 → P 1 s1))))) : CX12_isGluing g (d + 1) [.ref 179, .int p0] σ P := by
  refine x_entry (L := [some (.ref 179), some (.int p0)]) pn_12 (Nat.le_of_ble_eq_true rfl) ⟨0, rfl⟩ ?_
  show VX12_isGluing g (d + 1) P 0 [some (.ref 179), some (.int p0)] [] σ
  refine x_aload_n (i := 0) (dxX12_isGluing_0 0 rfl) rfl rfl ?_
  refine cl_12_399 (kd_179 hL) (Nat.le_of_ble_eq_true rfl) (dxX12_isGluing_0 1 rfl) h (fun v2 s1 h => ?_) (Nat.le_refl _) (Nat.le_refl _)
  obtain ⟨hFs1, h⟩ := h
  have hKs1 : kd s1 = kd σ := hFs1.1.trans (rfl : kd σ = kd σ)
  have hLs1 : Lay s1 := hL.fr hFs1
  refine x_if_eq (tgt := 23) (dxX12_isGluing_0 2 rfl) (by decide) (fun hc => ?_) (fun hc => ?_)
  · replace h := h.1 hc
    refine x_iconst (v := 0) (dxX12_isGluing_0 11 rfl) rfl ?_
    exact x_iret (ty := .boolean) rfl rfl (dxX12_isGluing_0 12 rfl) ⟨_, rfl, h⟩
  · replace h := h.2 hc
    refine x_iload_n (i := 1) (dxX12_isGluing_0 3 rfl) rfl rfl ?_
    refine x_if_lt (tgt := 23) (dxX12_isGluing_0 4 rfl) (by decide) (fun hc => ?_) (fun hc => ?_)
    · replace h := h.1 hc
      refine x_iconst (v := 0) (dxX12_isGluing_0 11 rfl) rfl ?_
      exact x_iret (ty := .boolean) rfl rfl (dxX12_isGluing_0 12 rfl) ⟨_, rfl, h⟩
    · replace h := h.2 hc
      refine x_iload_n (i := 1) (dxX12_isGluing_0 5 rfl) rfl rfl ?_
      refine x_aload_n (i := 0) (dxX12_isGluing_0 6 rfl) rfl rfl ?_
      refine gf_12_386 (kd_179 hLs1) rfl (dxX12_isGluing_0 7 rfl) ?_
      refine x_icmp_ge (tgt := 23) (dxX12_isGluing_0 8 rfl) (by decide) (fun hc => ?_) (fun hc => ?_)
      · replace h := h.1 hc
        refine x_iconst (v := 0) (dxX12_isGluing_0 11 rfl) rfl ?_
        exact x_iret (ty := .boolean) rfl rfl (dxX12_isGluing_0 12 rfl) ⟨_, rfl, h⟩
      · replace h := h.2 hc
        refine x_iconst (v := 1) (dxX12_isGluing_0 9 rfl) rfl ?_
        refine x_goto (tgt := 24) (dxX12_isGluing_0 10 rfl) (by decide) ?_
        exact x_iret (ty := .boolean) rfl rfl (dxX12_isGluing_0 12 rfl) ⟨_, rfl, h⟩
theorem vcX12_gluings {g : GV} {d : Nat} {P : Int32 → PS → Prop} {σ : PS} (hL : Lay σ)  (h : ∀ s1 : PS, s1 = si σ 179 0 0 → CX12_isListed g d [.ref 179] s1 (fun (v4 : Int32) (s3 : PS) => Fr s1 s3 ∧ (v4 = 0 → P (-1) s3) ∧ (¬ v4 = 0 → P (mi s3 179 48) s3))) : CX12_gluings g (d + 1) [.ref 179] σ P := by
  refine x_entry (L := [some (.ref 179)]) pn_12 (Nat.le_of_ble_eq_true rfl) ⟨0, rfl⟩ ?_
  show VX12_gluings g (d + 1) P 0 [some (.ref 179)] [] σ
  refine x_aload_n (i := 0) (dxX12_gluings_0 0 rfl) rfl rfl ?_
  refine x_iconst (v := 0) (dxX12_gluings_0 1 rfl) rfl ?_
  refine pf_12_184 (kd_179 hL) (dxX12_gluings_0 2 rfl) ?_
  refine x_sto (fun s1 e2 => ?_)
  replace h := h s1 e2
  have hKs1 : kd s1 = kd σ := by rw [e2]; exact (rfl : kd σ = kd σ)
  have hLs1 : Lay s1 := by rw [e2]; exact hL.si
  refine x_aload_n (i := 0) (dxX12_gluings_0 3 rfl) rfl rfl ?_
  refine cl_12_399 (kd_179 hLs1) (Nat.le_of_ble_eq_true rfl) (dxX12_gluings_0 4 rfl) h (fun v4 s3 h => ?_) (Nat.le_refl _) (Nat.le_refl _)
  obtain ⟨hFs3, h⟩ := h
  have hKs3 : kd s3 = kd σ := hFs3.1.trans hKs1
  have hLs3 : Lay s3 := hLs1.fr hFs3
  refine x_if_eq (tgt := 19) (dxX12_gluings_0 5 rfl) (by decide) (fun hc => ?_) (fun hc => ?_)
  · replace h := h.1 hc
    refine x_iconst (v := (-1)) (dxX12_gluings_0 9 rfl) rfl ?_
    exact x_iret (ty := .int) rfl rfl (dxX12_gluings_0 10 rfl) ⟨_, rfl, h⟩
  · replace h := h.2 hc
    refine x_aload_n (i := 0) (dxX12_gluings_0 6 rfl) rfl rfl ?_
    refine gf_12_386 (kd_179 hLs3) rfl (dxX12_gluings_0 7 rfl) ?_
    refine x_goto (tgt := 20) (dxX12_gluings_0 8 rfl) (by decide) ?_
    exact x_iret (ty := .int) rfl rfl (dxX12_gluings_0 10 rfl) ⟨_, rfl, h⟩
theorem vcX12_partner {g : GV} {d : Nat} {P : Int32 → PS → Prop} {σ : PS} (hL : Lay σ) (p0 : Int32) (p1 : Int32) (h : ∀ s1 : PS, s1 = si σ 179 0 0 → CX12_isGluing g d [.ref 179, .int p0] s1 (fun (v4 : Int32) (s3 : PS) => Fr s1 s3 ∧ (v4 = 0 → P (-1) s3) ∧ (¬ v4 = 0 → CX12_isEdge g d [.ref 179, .int p1] s3 (fun (v6 : Int32) (s5 : PS) => Fr s3 s5 ∧ (v6 = 0 → P (-1) s5) ∧ (¬ v6 = 0 → vp_in ((24 * p0) + p1) 48048 ∧ P (mi s5 211 (Int32.toNatClampNeg ((24 * p0) + p1))) s5))))) : CX12_partner g (d + 1) [.ref 179, .int p0, .int p1] σ P := by
  refine x_entry (L := [some (.ref 179), some (.int p0), some (.int p1)]) pn_12 (Nat.le_of_ble_eq_true rfl) ⟨0, rfl⟩ ?_
  show VX12_partner g (d + 1) P 0 [some (.ref 179), some (.int p0), some (.int p1)] [] σ
  refine x_aload_n (i := 0) (dxX12_partner_0 0 rfl) rfl rfl ?_
  refine x_iconst (v := 0) (dxX12_partner_0 1 rfl) rfl ?_
  refine pf_12_184 (kd_179 hL) (dxX12_partner_0 2 rfl) ?_
  refine x_sto (fun s1 e2 => ?_)
  replace h := h s1 e2
  have hKs1 : kd s1 = kd σ := by rw [e2]; exact (rfl : kd σ = kd σ)
  have hLs1 : Lay s1 := by rw [e2]; exact hL.si
  refine x_aload_n (i := 0) (dxX12_partner_0 3 rfl) rfl rfl ?_
  refine x_iload_n (i := 1) (dxX12_partner_0 4 rfl) rfl rfl ?_
  refine cl_12_401 (kd_179 hLs1) (Nat.le_of_ble_eq_true rfl) (dxX12_partner_0 5 rfl) h (fun v4 s3 h => ?_) (Nat.le_refl _) (Nat.le_refl _)
  obtain ⟨hFs3, h⟩ := h
  have hKs3 : kd s3 = kd σ := hFs3.1.trans hKs1
  have hLs3 : Lay s3 := hLs1.fr hFs3
  refine x_if_eq (tgt := 35) (dxX12_partner_0 6 rfl) (by decide) (fun hc => ?_) (fun hc => ?_)
  · replace h := h.1 hc
    refine x_iconst (v := (-1)) (dxX12_partner_0 20 rfl) rfl ?_
    exact x_iret (ty := .int) rfl rfl (dxX12_partner_0 21 rfl) ⟨_, rfl, h⟩
  · replace h := h.2 hc
    refine x_aload_n (i := 0) (dxX12_partner_0 7 rfl) rfl rfl ?_
    refine x_iload_n (i := 2) (dxX12_partner_0 8 rfl) rfl rfl ?_
    refine cl_12_369 (kd_179 hLs3) (Nat.le_of_ble_eq_true rfl) (dxX12_partner_0 9 rfl) h (fun v6 s5 h => ?_) (Nat.le_refl _) (Nat.le_refl _)
    obtain ⟨hFs5, h⟩ := h
    have hKs5 : kd s5 = kd σ := hFs5.1.trans hKs3
    have hLs5 : Lay s5 := hLs3.fr hFs5
    refine x_if_eq (tgt := 35) (dxX12_partner_0 10 rfl) (by decide) (fun hc => ?_) (fun hc => ?_)
    · replace h := h.1 hc
      refine x_iconst (v := (-1)) (dxX12_partner_0 20 rfl) rfl ?_
      exact x_iret (ty := .int) rfl rfl (dxX12_partner_0 21 rfl) ⟨_, rfl, h⟩
    · replace h := h.2 hc
      refine x_aload_n (i := 0) (dxX12_partner_0 11 rfl) rfl rfl ?_
      refine gf_12_106 (kd_179 hLs5) (rv_179_49 hLs5) (dxX12_partner_0 12 rfl) ?_
      refine x_bipush (v := 24) (dxX12_partner_0 13 rfl) rfl ?_
      refine x_iload_n (i := 1) (dxX12_partner_0 14 rfl) rfl rfl ?_
      refine x_imul (dxX12_partner_0 15 rfl) ?_
      refine x_iload_n (i := 2) (dxX12_partner_0 16 rfl) rfl rfl ?_
      refine x_iadd (dxX12_partner_0 17 rfl) ?_
      obtain ⟨hi7, h⟩ := h
      refine x_bald (kd_211 hLs5) hi7 (dxX12_partner_0 18 rfl) ?_
      refine x_goto (tgt := 36) (dxX12_partner_0 19 rfl) (by decide) ?_
      exact x_iret (ty := .int) rfl rfl (dxX12_partner_0 21 rfl) ⟨_, rfl, h⟩
theorem vcX12_keeps {g : GV} {d : Nat} {P : PS → Prop} {σ : PS} (hL : Lay σ) (p0 np0 : Nat) (kp0 : kd σ p0 = some (.inr (2, np0))) (p1 : Int32) (h : VX12_keeps g d P 2 [some (.ref 179), some (.ref p0), some (.int p1), some (.int 0)] [] σ) : CX12_keeps g d [.ref 179, .ref p0, .int p1] σ P := by
  refine x_entry (L := [some (.ref 179), some (.ref p0), some (.int p1), none]) pn_12 (Nat.le_of_ble_eq_true rfl) ⟨1, rfl⟩ ?_
  show VX12_keeps g d P 0 [some (.ref 179), some (.ref p0), some (.int p1), none] [] σ
  refine x_iconst (v := 0) (dxX12_keeps_0 0 rfl) rfl ?_
  refine x_istore_n (i := 3) (dxX12_keeps_0 1 rfl) rfl (Nat.le_of_ble_eq_true rfl) rfl rfl ?_
  exact h
theorem vcX12_keeps_2 {g : GV} {d : Nat} {P : PS → Prop} {σ : PS} (hL : Lay σ) (l1 nl1 : Nat) (kl1 : kd σ l1 = some (.inr (2, nl1))) (l2 : Int32) (l3 : Int32) (h : (24 ≤ l3 → P σ) ∧ (¬ 24 ≤ l3 → vp_in l3 24 ∧ vp_in ((24 * l2) + l3) nl1 ∧ ∀ s3 : PS, s3 = si σ l1 (Int32.toNatClampNeg ((24 * l2) + l3)) (vp_nar .byte (ji2b (mi σ 209 (Int32.toNatClampNeg l3)))) → ∀ x5 : Int32, x5 = l3 + 1 → VX12_keeps g d P 2 [some (.ref 179), some (.ref l1), some (.int l2), some (.int x5)] [] s3)) : VX12_keeps g d P 2 [some (.ref 179), some (.ref l1), some (.int l2), some (.int l3)] [] σ := by
  refine x_iload_n (i := 3) (dxX12_keeps_0 2 rfl) rfl rfl ?_
  refine x_bipush (v := 24) (dxX12_keeps_0 3 rfl) rfl ?_
  refine x_icmp_ge (tgt := 29) (dxX12_keeps_0 4 rfl) (by decide) (fun hc => ?_) (fun hc => ?_)
  · replace h := h.1 hc
    exact x_vret rfl (dxX12_keeps_0 19 rfl) ⟨rfl, h⟩
  · replace h := h.2 hc
    refine x_aload_n (i := 1) (dxX12_keeps_0 5 rfl) rfl rfl ?_
    refine x_bipush (v := 24) (dxX12_keeps_0 6 rfl) rfl ?_
    refine x_iload_n (i := 2) (dxX12_keeps_0 7 rfl) rfl rfl ?_
    refine x_imul (dxX12_keeps_0 8 rfl) ?_
    refine x_iload_n (i := 3) (dxX12_keeps_0 9 rfl) rfl rfl ?_
    refine x_iadd (dxX12_keeps_0 10 rfl) ?_
    refine x_aload_n (i := 0) (dxX12_keeps_0 11 rfl) rfl rfl ?_
    refine gf_12_99 (kd_179 hL) (rv_179_45 hL) (dxX12_keeps_0 12 rfl) ?_
    refine x_iload_n (i := 3) (dxX12_keeps_0 13 rfl) rfl rfl ?_
    obtain ⟨hi1, h⟩ := h
    refine x_iald (kd_209 hL) hi1 (dxX12_keeps_0 14 rfl) ?_
    refine x_i2b (dxX12_keeps_0 15 rfl) ?_
    obtain ⟨hi2, h⟩ := h
    refine x_bast ((congrFun (rfl : kd σ = kd σ) _).trans kl1) hi2 (dxX12_keeps_0 16 rfl) ?_
    refine x_sto (fun s3 e4 => ?_)
    replace h := h s3 e4
    have hKs3 : kd s3 = kd σ := by rw [e4]; exact (rfl : kd σ = kd σ)
    have hLs3 : Lay s3 := by rw [e4]; exact hL.si
    obtain ⟨x5, e6⟩ : ∃ y : Int32, y = l3 + 1 := ⟨_, rfl⟩
    replace h := h x5 e6
    refine x_iinc (v := x5) (dxX12_keeps_0 17 rfl) (i := 3) rfl (by rw [e6]; rfl) (Nat.le_of_ble_eq_true rfl) rfl rfl ?_
    refine x_goto (tgt := 2) (dxX12_keeps_0 18 rfl) (by decide) ?_
    exact h
theorem vcX12_brings {g : GV} {d : Nat} {P : PS → Prop} {σ : PS} (hL : Lay σ) (p0 np0 : Nat) (kp0 : kd σ p0 = some (.inr (2, np0))) (p1 : Int32) (h : VX12_brings g d P 2 [some (.ref 179), some (.ref p0), some (.int p1), some (.int 0)] [] σ) : CX12_brings g d [.ref 179, .ref p0, .int p1] σ P := by
  refine x_entry (L := [some (.ref 179), some (.ref p0), some (.int p1), none]) pn_12 (Nat.le_of_ble_eq_true rfl) ⟨1, rfl⟩ ?_
  show VX12_brings g d P 0 [some (.ref 179), some (.ref p0), some (.int p1), none] [] σ
  refine x_iconst (v := 0) (dxX12_brings_0 0 rfl) rfl ?_
  refine x_istore_n (i := 3) (dxX12_brings_0 1 rfl) rfl (Nat.le_of_ble_eq_true rfl) rfl rfl ?_
  exact h
theorem vcX12_brings_2 {g : GV} {d : Nat} {P : PS → Prop} {σ : PS} (hL : Lay σ) (l1 nl1 : Nat) (kl1 : kd σ l1 = some (.inr (2, nl1))) (l2 : Int32) (l3 : Int32) (h : (24 ≤ l3 → P σ) ∧ (¬ 24 ≤ l3 → vp_in ((24 * l2) + l3) nl1 ∧ vp_in l3 24 ∧ ∀ s3 : PS, s3 = si σ 209 (Int32.toNatClampNeg l3) (mi σ l1 (Int32.toNatClampNeg ((24 * l2) + l3))) → ∀ x5 : Int32, x5 = l3 + 1 → VX12_brings g d P 2 [some (.ref 179), some (.ref l1), some (.int l2), some (.int x5)] [] s3)) : VX12_brings g d P 2 [some (.ref 179), some (.ref l1), some (.int l2), some (.int l3)] [] σ := by
  refine x_iload_n (i := 3) (dxX12_brings_0 2 rfl) rfl rfl ?_
  refine x_bipush (v := 24) (dxX12_brings_0 3 rfl) rfl ?_
  refine x_icmp_ge (tgt := 28) (dxX12_brings_0 4 rfl) (by decide) (fun hc => ?_) (fun hc => ?_)
  · replace h := h.1 hc
    exact x_vret rfl (dxX12_brings_0 18 rfl) ⟨rfl, h⟩
  · replace h := h.2 hc
    refine x_aload_n (i := 0) (dxX12_brings_0 5 rfl) rfl rfl ?_
    refine gf_12_99 (kd_179 hL) (rv_179_45 hL) (dxX12_brings_0 6 rfl) ?_
    refine x_iload_n (i := 3) (dxX12_brings_0 7 rfl) rfl rfl ?_
    refine x_aload_n (i := 1) (dxX12_brings_0 8 rfl) rfl rfl ?_
    refine x_bipush (v := 24) (dxX12_brings_0 9 rfl) rfl ?_
    refine x_iload_n (i := 2) (dxX12_brings_0 10 rfl) rfl rfl ?_
    refine x_imul (dxX12_brings_0 11 rfl) ?_
    refine x_iload_n (i := 3) (dxX12_brings_0 12 rfl) rfl rfl ?_
    refine x_iadd (dxX12_brings_0 13 rfl) ?_
    obtain ⟨hi1, h⟩ := h
    refine x_bald ((congrFun (rfl : kd σ = kd σ) _).trans kl1) hi1 (dxX12_brings_0 14 rfl) ?_
    obtain ⟨hi2, h⟩ := h
    refine x_iast (kd_209 hL) hi2 (dxX12_brings_0 15 rfl) ?_
    refine x_sto (fun s3 e4 => ?_)
    replace h := h s3 e4
    have hKs3 : kd s3 = kd σ := by rw [e4]; exact (rfl : kd σ = kd σ)
    have hLs3 : Lay s3 := by rw [e4]; exact hL.si
    obtain ⟨x5, e6⟩ : ∃ y : Int32, y = l3 + 1 := ⟨_, rfl⟩
    replace h := h x5 e6
    refine x_iinc (v := x5) (dxX12_brings_0 16 rfl) (i := 3) rfl (by rw [e6]; rfl) (Nat.le_of_ble_eq_true rfl) rfl rfl ?_
    refine x_goto (tgt := 2) (dxX12_brings_0 17 rfl) (by decide) ?_
    exact h
theorem vcX12_remembers {g : GV} {d : Nat} {P : PS → Prop} {σ : PS} (hL : Lay σ)  (h : (¬ (mi σ 179 51) = 40 → CX12_keeps g d [.ref 179, .ref 213, .int (mi σ 179 51)] σ (fun (s1 : PS) => Fr σ s1 ∧ ∀ s3 : PS, s3 = si s1 179 51 ((mi s1 179 51) + 1) → P s3)) ∧ ((mi σ 179 51) = 40 → VX12_remembers g (d + 1) P 11 [some (.ref 179), some (.int 0)] [] σ)) : CX12_remembers g (d + 1) [.ref 179] σ P := by
  refine x_entry (L := [some (.ref 179), none]) pn_12 (Nat.le_of_ble_eq_true rfl) ⟨1, rfl⟩ ?_
  show VX12_remembers g (d + 1) P 0 [some (.ref 179), none] [] σ
  refine x_aload_n (i := 0) (dxX12_remembers_0 0 rfl) rfl rfl ?_
  refine gf_12_342 (kd_179 hL) rfl (dxX12_remembers_0 1 rfl) ?_
  refine x_bipush (v := 40) (dxX12_remembers_0 2 rfl) rfl ?_
  refine x_icmp_ne (tgt := 49) (dxX12_remembers_0 3 rfl) (by decide) (fun hc => ?_) (fun hc => ?_)
  · replace h := h.1 hc
    refine x_aload_n (i := 0) (dxX12_remembers_0 27 rfl) rfl rfl ?_
    refine x_aload_n (i := 0) (dxX12_remembers_0 28 rfl) rfl rfl ?_
    refine gf_12_113 (kd_179 hL) (rv_179_53 hL) (dxX12_remembers_0 29 rfl) ?_
    refine x_aload_n (i := 0) (dxX12_remembers_0 30 rfl) rfl rfl ?_
    refine gf_12_342 (kd_179 hL) rfl (dxX12_remembers_0 31 rfl) ?_
    refine cl_12_404 (kd_179 hL) (Nat.le_of_ble_eq_true rfl) (dxX12_remembers_1 0 rfl) h (fun s1 h => ?_) (Nat.le_refl _) (Nat.le_refl _)
    obtain ⟨hFs1, h⟩ := h
    have hKs1 : kd s1 = kd σ := hFs1.1.trans (rfl : kd σ = kd σ)
    have hLs1 : Lay s1 := hL.fr hFs1
    refine x_aload_n (i := 0) (dxX12_remembers_1 1 rfl) rfl rfl ?_
    refine x_dup (dxX12_remembers_1 2 rfl) rfl ?_
    refine gf_12_342 (kd_179 hLs1) rfl (dxX12_remembers_1 3 rfl) ?_
    refine x_iconst (v := 1) (dxX12_remembers_1 4 rfl) rfl ?_
    refine x_iadd (dxX12_remembers_1 5 rfl) ?_
    refine pf_12_342 (kd_179 hLs1) (dxX12_remembers_1 6 rfl) ?_
    refine x_sto (fun s3 e4 => ?_)
    replace h := h s3 e4
    have hKs3 : kd s3 = kd σ := by rw [e4]; exact hKs1
    have hLs3 : Lay s3 := by rw [e4]; exact hLs1.si
    exact x_vret rfl (dxX12_remembers_1 7 rfl) ⟨rfl, h⟩
  · replace h := h.2 hc
    refine x_iconst (v := 0) (dxX12_remembers_0 4 rfl) rfl ?_
    refine x_istore_n (i := 1) (dxX12_remembers_0 5 rfl) rfl (Nat.le_of_ble_eq_true rfl) rfl rfl ?_
    exact h
theorem vcX12_remembers_11 {g : GV} {d : Nat} {P : PS → Prop} {σ : PS} (hL : Lay σ) (l1 : Int32) (h : (936 ≤ l1 → ∀ s5 : PS, s5 = si σ 179 51 ((mi σ 179 51) - 1) → CX12_keeps g d [.ref 179, .ref 213, .int (mi s5 179 51)] s5 (fun (s7 : PS) => Fr s5 s7 ∧ ∀ s9 : PS, s9 = si s7 179 51 ((mi s7 179 51) + 1) → P s9)) ∧ (¬ 936 ≤ l1 → vp_in (l1 + 24) 960 ∧ vp_in l1 960 ∧ ∀ s13 : PS, s13 = si σ 213 (Int32.toNatClampNeg l1) (vp_nar .byte (mi σ 213 (Int32.toNatClampNeg (l1 + 24)))) → ∀ x15 : Int32, x15 = l1 + 1 → VX12_remembers g (d + 1) P 11 [some (.ref 179), some (.int x15)] [] s13)) : VX12_remembers g (d + 1) P 11 [some (.ref 179), some (.int l1)] [] σ := by
  refine x_iload_n (i := 1) (dxX12_remembers_0 6 rfl) rfl rfl ?_
  refine x_sipush (v := 936) (dxX12_remembers_0 7 rfl) rfl ?_
  refine x_icmp_ge (tgt := 39) (dxX12_remembers_0 8 rfl) (by decide) (fun hc => ?_) (fun hc => ?_)
  · replace h := h.1 hc
    refine x_aload_n (i := 0) (dxX12_remembers_0 21 rfl) rfl rfl ?_
    refine x_dup (dxX12_remembers_0 22 rfl) rfl ?_
    refine gf_12_342 (kd_179 hL) rfl (dxX12_remembers_0 23 rfl) ?_
    refine x_iconst (v := 1) (dxX12_remembers_0 24 rfl) rfl ?_
    refine x_isub (dxX12_remembers_0 25 rfl) ?_
    refine pf_12_342 (kd_179 hL) (dxX12_remembers_0 26 rfl) ?_
    refine x_sto (fun s5 e6 => ?_)
    replace h := h s5 e6
    have hKs5 : kd s5 = kd σ := by rw [e6]; exact (rfl : kd σ = kd σ)
    have hLs5 : Lay s5 := by rw [e6]; exact hL.si
    refine x_aload_n (i := 0) (dxX12_remembers_0 27 rfl) rfl rfl ?_
    refine x_aload_n (i := 0) (dxX12_remembers_0 28 rfl) rfl rfl ?_
    refine gf_12_113 (kd_179 hLs5) (rv_179_53 hLs5) (dxX12_remembers_0 29 rfl) ?_
    refine x_aload_n (i := 0) (dxX12_remembers_0 30 rfl) rfl rfl ?_
    refine gf_12_342 (kd_179 hLs5) rfl (dxX12_remembers_0 31 rfl) ?_
    refine cl_12_404 (kd_179 hLs5) (Nat.le_of_ble_eq_true rfl) (dxX12_remembers_1 0 rfl) h (fun s7 h => ?_) (Nat.le_refl _) (Nat.le_refl _)
    obtain ⟨hFs7, h⟩ := h
    have hKs7 : kd s7 = kd σ := hFs7.1.trans hKs5
    have hLs7 : Lay s7 := hLs5.fr hFs7
    refine x_aload_n (i := 0) (dxX12_remembers_1 1 rfl) rfl rfl ?_
    refine x_dup (dxX12_remembers_1 2 rfl) rfl ?_
    refine gf_12_342 (kd_179 hLs7) rfl (dxX12_remembers_1 3 rfl) ?_
    refine x_iconst (v := 1) (dxX12_remembers_1 4 rfl) rfl ?_
    refine x_iadd (dxX12_remembers_1 5 rfl) ?_
    refine pf_12_342 (kd_179 hLs7) (dxX12_remembers_1 6 rfl) ?_
    refine x_sto (fun s9 e10 => ?_)
    replace h := h s9 e10
    have hKs9 : kd s9 = kd σ := by rw [e10]; exact hKs7
    have hLs9 : Lay s9 := by rw [e10]; exact hLs7.si
    exact x_vret rfl (dxX12_remembers_1 7 rfl) ⟨rfl, h⟩
  · replace h := h.2 hc
    refine x_aload_n (i := 0) (dxX12_remembers_0 9 rfl) rfl rfl ?_
    refine gf_12_113 (kd_179 hL) (rv_179_53 hL) (dxX12_remembers_0 10 rfl) ?_
    refine x_iload_n (i := 1) (dxX12_remembers_0 11 rfl) rfl rfl ?_
    refine x_aload_n (i := 0) (dxX12_remembers_0 12 rfl) rfl rfl ?_
    refine gf_12_113 (kd_179 hL) (rv_179_53 hL) (dxX12_remembers_0 13 rfl) ?_
    refine x_iload_n (i := 1) (dxX12_remembers_0 14 rfl) rfl rfl ?_
    refine x_bipush (v := 24) (dxX12_remembers_0 15 rfl) rfl ?_
    refine x_iadd (dxX12_remembers_0 16 rfl) ?_
    obtain ⟨hi11, h⟩ := h
    refine x_bald (kd_213 hL) hi11 (dxX12_remembers_0 17 rfl) ?_
    obtain ⟨hi12, h⟩ := h
    refine x_bast (kd_213 hL) hi12 (dxX12_remembers_0 18 rfl) ?_
    refine x_sto (fun s13 e14 => ?_)
    replace h := h s13 e14
    have hKs13 : kd s13 = kd σ := by rw [e14]; exact (rfl : kd σ = kd σ)
    have hLs13 : Lay s13 := by rw [e14]; exact hL.si
    obtain ⟨x15, e16⟩ : ∃ y : Int32, y = l1 + 1 := ⟨_, rfl⟩
    replace h := h x15 e16
    refine x_iinc (v := x15) (dxX12_remembers_0 19 rfl) (i := 1) rfl (by rw [e16]; rfl) (Nat.le_of_ble_eq_true rfl) rfl rfl ?_
    refine x_goto (tgt := 11) (dxX12_remembers_0 20 rfl) (by decide) ?_
    exact h
theorem vcX12_refused {g : GV} {d : Nat} {P : Int32 → PS → Prop} {σ : PS} (hL : Lay σ) (p0 : Int32) (p1 : Int32) (h : CX12_isEdge g d [.ref 179, .int p0] σ (fun (v2 : Int32) (s1 : PS) => Fr σ s1 ∧ (v2 = 0 → P 1 s1) ∧ (¬ v2 = 0 → CX12_isEdge g d [.ref 179, .int p1] s1 (fun (v4 : Int32) (s3 : PS) => Fr s1 s3 ∧ (v4 = 0 → P 1 s3) ∧ (¬ v4 = 0 → (¬ p0 = p1 → vp_in p0 24 ∧ (0 ≤ (mi s3 209 (Int32.toNatClampNeg p0)) → P 2 s3) ∧ (¬ 0 ≤ (mi s3 209 (Int32.toNatClampNeg p0)) → vp_in p1 24 ∧ ((mi s3 209 (Int32.toNatClampNeg p1)) < 0 → CX12_crosses g d [.ref 179, .ref 209, .int (jmin p0 p1), .int (jmax p0 p1)] s3 (fun (v8 : Int32) (s7 : PS) => Fr s3 s7 ∧ (v8 = 0 → (¬ (jrem (p0 + p1) 2) = 0 → vp_in p0 24 ∧ ∀ s10 : PS, s10 = si s7 209 (Int32.toNatClampNeg p0) p1 → vp_in p1 24 ∧ ∀ s13 : PS, s13 = si s10 209 (Int32.toNatClampNeg p1) p0 → CX12_corners g d [.ref 179, .ref 209] s13 (fun (v16 : Int32) (s15 : PS) => Fr s13 s15 ∧ vp_in p0 24 ∧ ∀ s18 : PS, s18 = si s15 209 (Int32.toNatClampNeg p0) (-1) → vp_in p1 24 ∧ ∀ s21 : PS, s21 = si s18 209 (Int32.toNatClampNeg p1) (-1) → (v16 = 0 → P 5 s21) ∧ (¬ v16 = 0 → P 0 s21))) ∧ ((jrem (p0 + p1) 2) = 0 → P 4 s7)) ∧ (¬ v8 = 0 → P 3 s7))) ∧ (¬ (mi s3 209 (Int32.toNatClampNeg p1)) < 0 → P 2 s3))) ∧ (p0 = p1 → P 1 s3)))))) : CX12_refused g (d + 1) [.ref 179, .int p0, .int p1] σ P := by
  refine x_entry (L := [some (.ref 179), some (.int p0), some (.int p1), none]) pn_12 (Nat.le_of_ble_eq_true rfl) ⟨1, rfl⟩ ?_
  show VX12_refused g (d + 1) P 0 [some (.ref 179), some (.int p0), some (.int p1), none] [] σ
  refine x_aload_n (i := 0) (dxX12_refused_0 0 rfl) rfl rfl ?_
  refine x_iload_n (i := 1) (dxX12_refused_0 1 rfl) rfl rfl ?_
  refine cl_12_369 (kd_179 hL) (Nat.le_of_ble_eq_true rfl) (dxX12_refused_0 2 rfl) h (fun v2 s1 h => ?_) (Nat.le_refl _) (Nat.le_refl _)
  obtain ⟨hFs1, h⟩ := h
  have hKs1 : kd s1 = kd σ := hFs1.1.trans (rfl : kd σ = kd σ)
  have hLs1 : Lay s1 := hL.fr hFs1
  refine x_if_eq (tgt := 21) (dxX12_refused_0 3 rfl) (by decide) (fun hc => ?_) (fun hc => ?_)
  · replace h := h.1 hc
    refine x_iconst (v := 1) (dxX12_refused_0 11 rfl) rfl ?_
    exact x_iret (ty := .int) rfl rfl (dxX12_refused_0 12 rfl) ⟨_, rfl, h⟩
  · replace h := h.2 hc
    refine x_aload_n (i := 0) (dxX12_refused_0 4 rfl) rfl rfl ?_
    refine x_iload_n (i := 2) (dxX12_refused_0 5 rfl) rfl rfl ?_
    refine cl_12_369 (kd_179 hLs1) (Nat.le_of_ble_eq_true rfl) (dxX12_refused_0 6 rfl) h (fun v4 s3 h => ?_) (Nat.le_refl _) (Nat.le_refl _)
    obtain ⟨hFs3, h⟩ := h
    have hKs3 : kd s3 = kd σ := hFs3.1.trans hKs1
    have hLs3 : Lay s3 := hLs1.fr hFs3
    refine x_if_eq (tgt := 21) (dxX12_refused_0 7 rfl) (by decide) (fun hc => ?_) (fun hc => ?_)
    · replace h := h.1 hc
      refine x_iconst (v := 1) (dxX12_refused_0 11 rfl) rfl ?_
      exact x_iret (ty := .int) rfl rfl (dxX12_refused_0 12 rfl) ⟨_, rfl, h⟩
    · replace h := h.2 hc
      refine x_iload_n (i := 1) (dxX12_refused_0 8 rfl) rfl rfl ?_
      refine x_iload_n (i := 2) (dxX12_refused_0 9 rfl) rfl rfl ?_
      refine x_icmp_ne (tgt := 23) (dxX12_refused_0 10 rfl) (by decide) (fun hc => ?_) (fun hc => ?_)
      · replace h := h.1 hc
        refine x_aload_n (i := 0) (dxX12_refused_0 13 rfl) rfl rfl ?_
        refine gf_12_99 (kd_179 hLs3) (rv_179_45 hLs3) (dxX12_refused_0 14 rfl) ?_
        refine x_iload_n (i := 1) (dxX12_refused_0 15 rfl) rfl rfl ?_
        obtain ⟨hi5, h⟩ := h
        refine x_iald (kd_209 hLs3) hi5 (dxX12_refused_0 16 rfl) ?_
        refine x_if_ge (tgt := 41) (dxX12_refused_0 17 rfl) (by decide) (fun hc => ?_) (fun hc => ?_)
        · replace h := h.1 hc
          refine x_iconst (v := 2) (dxX12_refused_0 23 rfl) rfl ?_
          exact x_iret (ty := .int) rfl rfl (dxX12_refused_0 24 rfl) ⟨_, rfl, h⟩
        · replace h := h.2 hc
          refine x_aload_n (i := 0) (dxX12_refused_0 18 rfl) rfl rfl ?_
          refine gf_12_99 (kd_179 hLs3) (rv_179_45 hLs3) (dxX12_refused_0 19 rfl) ?_
          refine x_iload_n (i := 2) (dxX12_refused_0 20 rfl) rfl rfl ?_
          obtain ⟨hi6, h⟩ := h
          refine x_iald (kd_209 hLs3) hi6 (dxX12_refused_0 21 rfl) ?_
          refine x_if_lt (tgt := 43) (dxX12_refused_0 22 rfl) (by decide) (fun hc => ?_) (fun hc => ?_)
          · replace h := h.1 hc
            refine x_aload_n (i := 0) (dxX12_refused_0 25 rfl) rfl rfl ?_
            refine x_aload_n (i := 0) (dxX12_refused_0 26 rfl) rfl rfl ?_
            refine gf_12_99 (kd_179 hLs3) (rv_179_45 hLs3) (dxX12_refused_0 27 rfl) ?_
            refine x_iload_n (i := 1) (dxX12_refused_0 28 rfl) rfl rfl ?_
            refine x_iload_n (i := 2) (dxX12_refused_0 29 rfl) rfl rfl ?_
            refine cl_12_372 (Nat.le_of_ble_eq_true rfl) (dxX12_refused_0 30 rfl) ?_
            refine x_iload_n (i := 1) (dxX12_refused_0 31 rfl) rfl rfl ?_
            refine x_iload_n (i := 2) (dxX12_refused_1 0 rfl) rfl rfl ?_
            refine cl_12_272 (Nat.le_of_ble_eq_true rfl) (dxX12_refused_1 1 rfl) ?_
            refine cl_12_389 (kd_179 hLs3) (Nat.le_of_ble_eq_true rfl) (dxX12_refused_1 2 rfl) h (fun v8 s7 h => ?_) (Nat.le_refl _) (Nat.le_refl _)
            obtain ⟨hFs7, h⟩ := h
            have hKs7 : kd s7 = kd σ := hFs7.1.trans hKs3
            have hLs7 : Lay s7 := hLs3.fr hFs7
            refine x_if_eq (tgt := 66) (dxX12_refused_1 3 rfl) (by decide) (fun hc => ?_) (fun hc => ?_)
            · replace h := h.1 hc
              refine x_iload_n (i := 1) (dxX12_refused_1 6 rfl) rfl rfl ?_
              refine x_iload_n (i := 2) (dxX12_refused_1 7 rfl) rfl rfl ?_
              refine x_iadd (dxX12_refused_1 8 rfl) ?_
              refine x_iconst (v := 2) (dxX12_refused_1 9 rfl) rfl ?_
              refine x_irem (dxX12_refused_1 10 rfl) (by decide) ?_
              refine x_if_ne (tgt := 76) (dxX12_refused_1 11 rfl) (by decide) (fun hc => ?_) (fun hc => ?_)
              · replace h := h.1 hc
                refine x_aload_n (i := 0) (dxX12_refused_1 14 rfl) rfl rfl ?_
                refine gf_12_99 (kd_179 hLs7) (rv_179_45 hLs7) (dxX12_refused_1 15 rfl) ?_
                refine x_iload_n (i := 1) (dxX12_refused_1 16 rfl) rfl rfl ?_
                refine x_iload_n (i := 2) (dxX12_refused_1 17 rfl) rfl rfl ?_
                obtain ⟨hi9, h⟩ := h
                refine x_iast (kd_209 hLs7) hi9 (dxX12_refused_1 18 rfl) ?_
                refine x_sto (fun s10 e11 => ?_)
                replace h := h s10 e11
                have hKs10 : kd s10 = kd σ := by rw [e11]; exact hKs7
                have hLs10 : Lay s10 := by rw [e11]; exact hLs7.si
                refine x_aload_n (i := 0) (dxX12_refused_1 19 rfl) rfl rfl ?_
                refine gf_12_99 (kd_179 hLs10) (rv_179_45 hLs10) (dxX12_refused_1 20 rfl) ?_
                refine x_iload_n (i := 2) (dxX12_refused_1 21 rfl) rfl rfl ?_
                refine x_iload_n (i := 1) (dxX12_refused_1 22 rfl) rfl rfl ?_
                obtain ⟨hi12, h⟩ := h
                refine x_iast (kd_209 hLs10) hi12 (dxX12_refused_1 23 rfl) ?_
                refine x_sto (fun s13 e14 => ?_)
                replace h := h s13 e14
                have hKs13 : kd s13 = kd σ := by rw [e14]; exact hKs10
                have hLs13 : Lay s13 := by rw [e14]; exact hLs10.si
                refine x_aload_n (i := 0) (dxX12_refused_1 24 rfl) rfl rfl ?_
                refine x_aload_n (i := 0) (dxX12_refused_1 25 rfl) rfl rfl ?_
                refine gf_12_99 (kd_179 hLs13) (rv_179_45 hLs13) (dxX12_refused_1 26 rfl) ?_
                refine cl_12_382 (kd_179 hLs13) (Nat.le_of_ble_eq_true rfl) (dxX12_refused_1 27 rfl) h (fun v16 s15 h => ?_) (Nat.le_refl _) (Nat.le_refl _)
                obtain ⟨hFs15, h⟩ := h
                have hKs15 : kd s15 = kd σ := hFs15.1.trans hKs13
                have hLs15 : Lay s15 := hLs13.fr hFs15
                refine x_istore_n (i := 3) (dxX12_refused_1 28 rfl) rfl (Nat.le_of_ble_eq_true rfl) rfl rfl ?_
                refine x_aload_n (i := 0) (dxX12_refused_1 29 rfl) rfl rfl ?_
                refine gf_12_99 (kd_179 hLs15) (rv_179_45 hLs15) (dxX12_refused_1 30 rfl) ?_
                refine x_iload_n (i := 1) (dxX12_refused_1 31 rfl) rfl rfl ?_
                refine x_iconst (v := (-1)) (dxX12_refused_2 0 rfl) rfl ?_
                obtain ⟨hi17, h⟩ := h
                refine x_iast (kd_209 hLs15) hi17 (dxX12_refused_2 1 rfl) ?_
                refine x_sto (fun s18 e19 => ?_)
                replace h := h s18 e19
                have hKs18 : kd s18 = kd σ := by rw [e19]; exact hKs15
                have hLs18 : Lay s18 := by rw [e19]; exact hLs15.si
                refine x_aload_n (i := 0) (dxX12_refused_2 2 rfl) rfl rfl ?_
                refine gf_12_99 (kd_179 hLs18) (rv_179_45 hLs18) (dxX12_refused_2 3 rfl) ?_
                refine x_iload_n (i := 2) (dxX12_refused_2 4 rfl) rfl rfl ?_
                refine x_iconst (v := (-1)) (dxX12_refused_2 5 rfl) rfl ?_
                obtain ⟨hi20, h⟩ := h
                refine x_iast (kd_209 hLs18) hi20 (dxX12_refused_2 6 rfl) ?_
                refine x_sto (fun s21 e22 => ?_)
                replace h := h s21 e22
                have hKs21 : kd s21 = kd σ := by rw [e22]; exact hKs18
                have hLs21 : Lay s21 := by rw [e22]; exact hLs18.si
                refine x_iload_n (i := 3) (dxX12_refused_2 7 rfl) rfl rfl ?_
                refine x_if_eq (tgt := 121) (dxX12_refused_2 8 rfl) (by decide) (fun hc => ?_) (fun hc => ?_)
                · replace h := h.1 hc
                  refine x_iconst (v := 5) (dxX12_refused_2 11 rfl) rfl ?_
                  exact x_iret (ty := .int) rfl rfl (dxX12_refused_2 12 rfl) ⟨_, rfl, h⟩
                · replace h := h.2 hc
                  refine x_iconst (v := 0) (dxX12_refused_2 9 rfl) rfl ?_
                  refine x_goto (tgt := 122) (dxX12_refused_2 10 rfl) (by decide) ?_
                  exact x_iret (ty := .int) rfl rfl (dxX12_refused_2 12 rfl) ⟨_, rfl, h⟩
              · replace h := h.2 hc
                refine x_iconst (v := 4) (dxX12_refused_1 12 rfl) rfl ?_
                exact x_iret (ty := .int) rfl rfl (dxX12_refused_1 13 rfl) ⟨_, rfl, h⟩
            · replace h := h.2 hc
              refine x_iconst (v := 3) (dxX12_refused_1 4 rfl) rfl ?_
              exact x_iret (ty := .int) rfl rfl (dxX12_refused_1 5 rfl) ⟨_, rfl, h⟩
          · replace h := h.2 hc
            refine x_iconst (v := 2) (dxX12_refused_0 23 rfl) rfl ?_
            exact x_iret (ty := .int) rfl rfl (dxX12_refused_0 24 rfl) ⟨_, rfl, h⟩
      · replace h := h.2 hc
        refine x_iconst (v := 1) (dxX12_refused_0 11 rfl) rfl ?_
        exact x_iret (ty := .int) rfl rfl (dxX12_refused_0 12 rfl) ⟨_, rfl, h⟩
theorem vcX12_glue {g : GV} {d : Nat} {P : Int32 → PS → Prop} {σ : PS} (hL : Lay σ) (p0 : Int32) (p1 : Int32) (h : ∀ s1 : PS, s1 = si σ 179 0 0 → CX12_refused g d [.ref 179, .int p0, .int p1] s1 (fun (v4 : Int32) (s3 : PS) => Fr s1 s3 ∧ (v4 ≤ 0 → CX12_remembers g d [.ref 179] s3 (fun (s5 : PS) => Fr s3 s5 ∧ ∀ s7 : PS, s7 = si s5 179 52 0 → vp_in p0 24 ∧ ∀ s10 : PS, s10 = si s7 209 (Int32.toNatClampNeg p0) p1 → vp_in p1 24 ∧ ∀ s13 : PS, s13 = si s10 209 (Int32.toNatClampNeg p1) p0 → P 0 s13)) ∧ (¬ v4 ≤ 0 → P v4 s3))) : CX12_glue g (d + 1) [.ref 179, .int p0, .int p1] σ P := by
  refine x_entry (L := [some (.ref 179), some (.int p0), some (.int p1), none]) pn_12 (Nat.le_of_ble_eq_true rfl) ⟨1, rfl⟩ ?_
  show VX12_glue g (d + 1) P 0 [some (.ref 179), some (.int p0), some (.int p1), none] [] σ
  refine x_aload_n (i := 0) (dxX12_glue_0 0 rfl) rfl rfl ?_
  refine x_iconst (v := 0) (dxX12_glue_0 1 rfl) rfl ?_
  refine pf_12_184 (kd_179 hL) (dxX12_glue_0 2 rfl) ?_
  refine x_sto (fun s1 e2 => ?_)
  replace h := h s1 e2
  have hKs1 : kd s1 = kd σ := by rw [e2]; exact (rfl : kd σ = kd σ)
  have hLs1 : Lay s1 := by rw [e2]; exact hL.si
  refine x_aload_n (i := 0) (dxX12_glue_0 3 rfl) rfl rfl ?_
  refine x_iload_n (i := 1) (dxX12_glue_0 4 rfl) rfl rfl ?_
  refine x_iload_n (i := 2) (dxX12_glue_0 5 rfl) rfl rfl ?_
  refine cl_12_408 (kd_179 hLs1) (Nat.le_of_ble_eq_true rfl) (dxX12_glue_0 6 rfl) h (fun v4 s3 h => ?_) (Nat.le_refl _) (Nat.le_refl _)
  obtain ⟨hFs3, h⟩ := h
  have hKs3 : kd s3 = kd σ := hFs3.1.trans hKs1
  have hLs3 : Lay s3 := hLs1.fr hFs3
  refine x_istore_n (i := 3) (dxX12_glue_0 7 rfl) rfl (Nat.le_of_ble_eq_true rfl) rfl rfl ?_
  refine x_iload_n (i := 3) (dxX12_glue_0 8 rfl) rfl rfl ?_
  refine x_if_le (tgt := 18) (dxX12_glue_0 9 rfl) (by decide) (fun hc => ?_) (fun hc => ?_)
  · replace h := h.1 hc
    refine x_aload_n (i := 0) (dxX12_glue_0 12 rfl) rfl rfl ?_
    refine cl_12_411 (kd_179 hLs3) (Nat.le_of_ble_eq_true rfl) (dxX12_glue_0 13 rfl) h (fun s5 h => ?_) (Nat.le_refl _) (Nat.le_refl _)
    obtain ⟨hFs5, h⟩ := h
    have hKs5 : kd s5 = kd σ := hFs5.1.trans hKs3
    have hLs5 : Lay s5 := hLs3.fr hFs5
    refine x_aload_n (i := 0) (dxX12_glue_0 14 rfl) rfl rfl ?_
    refine x_iconst (v := 0) (dxX12_glue_0 15 rfl) rfl ?_
    refine pf_12_345 (kd_179 hLs5) (dxX12_glue_0 16 rfl) ?_
    refine x_sto (fun s7 e8 => ?_)
    replace h := h s7 e8
    have hKs7 : kd s7 = kd σ := by rw [e8]; exact hKs5
    have hLs7 : Lay s7 := by rw [e8]; exact hLs5.si
    refine x_aload_n (i := 0) (dxX12_glue_0 17 rfl) rfl rfl ?_
    refine gf_12_99 (kd_179 hLs7) (rv_179_45 hLs7) (dxX12_glue_0 18 rfl) ?_
    refine x_iload_n (i := 1) (dxX12_glue_0 19 rfl) rfl rfl ?_
    refine x_iload_n (i := 2) (dxX12_glue_0 20 rfl) rfl rfl ?_
    obtain ⟨hi9, h⟩ := h
    refine x_iast (kd_209 hLs7) hi9 (dxX12_glue_0 21 rfl) ?_
    refine x_sto (fun s10 e11 => ?_)
    replace h := h s10 e11
    have hKs10 : kd s10 = kd σ := by rw [e11]; exact hKs7
    have hLs10 : Lay s10 := by rw [e11]; exact hLs7.si
    refine x_aload_n (i := 0) (dxX12_glue_0 22 rfl) rfl rfl ?_
    refine gf_12_99 (kd_179 hLs10) (rv_179_45 hLs10) (dxX12_glue_0 23 rfl) ?_
    refine x_iload_n (i := 2) (dxX12_glue_0 24 rfl) rfl rfl ?_
    refine x_iload_n (i := 1) (dxX12_glue_0 25 rfl) rfl rfl ?_
    obtain ⟨hi12, h⟩ := h
    refine x_iast (kd_209 hLs10) hi12 (dxX12_glue_0 26 rfl) ?_
    refine x_sto (fun s13 e14 => ?_)
    replace h := h s13 e14
    have hKs13 : kd s13 = kd σ := by rw [e14]; exact hKs10
    have hLs13 : Lay s13 := by rw [e14]; exact hLs10.si
    refine x_iconst (v := 0) (dxX12_glue_0 27 rfl) rfl ?_
    exact x_iret (ty := .int) rfl rfl (dxX12_glue_0 28 rfl) ⟨_, rfl, h⟩
  · replace h := h.2 hc
    refine x_iload_n (i := 3) (dxX12_glue_0 10 rfl) rfl rfl ?_
    exact x_iret (ty := .int) rfl rfl (dxX12_glue_0 11 rfl) ⟨_, rfl, h⟩
theorem vcX12_choose {g : GV} {d : Nat} {P : Int32 → PS → Prop} {σ : PS} (hL : Lay σ) (p0 : Int32) (h : ∀ s1 : PS, s1 = si σ 179 0 0 → CX12_isGluing g d [.ref 179, .int p0] s1 (fun (v4 : Int32) (s3 : PS) => Fr s1 s3 ∧ (¬ v4 = 0 → CX12_remembers g d [.ref 179] s3 (fun (s5 : PS) => Fr s3 s5 ∧ ∀ s7 : PS, s7 = si s5 179 52 0 → VX12_choose g (d + 1) P 26 [some (.ref 179), some (.int p0), some (.int 0)] [] s7)) ∧ (v4 = 0 → P 0 s3))) : CX12_choose g (d + 1) [.ref 179, .int p0] σ P := by
  refine x_entry (L := [some (.ref 179), some (.int p0), none]) pn_12 (Nat.le_of_ble_eq_true rfl) ⟨1, rfl⟩ ?_
  show VX12_choose g (d + 1) P 0 [some (.ref 179), some (.int p0), none] [] σ
  refine x_aload_n (i := 0) (dxX12_choose_0 0 rfl) rfl rfl ?_
  refine x_iconst (v := 0) (dxX12_choose_0 1 rfl) rfl ?_
  refine pf_12_184 (kd_179 hL) (dxX12_choose_0 2 rfl) ?_
  refine x_sto (fun s1 e2 => ?_)
  replace h := h s1 e2
  have hKs1 : kd s1 = kd σ := by rw [e2]; exact (rfl : kd σ = kd σ)
  have hLs1 : Lay s1 := by rw [e2]; exact hL.si
  refine x_aload_n (i := 0) (dxX12_choose_0 3 rfl) rfl rfl ?_
  refine x_iload_n (i := 1) (dxX12_choose_0 4 rfl) rfl rfl ?_
  refine cl_12_401 (kd_179 hLs1) (Nat.le_of_ble_eq_true rfl) (dxX12_choose_0 5 rfl) h (fun v4 s3 h => ?_) (Nat.le_refl _) (Nat.le_refl _)
  obtain ⟨hFs3, h⟩ := h
  have hKs3 : kd s3 = kd σ := hFs3.1.trans hKs1
  have hLs3 : Lay s3 := hLs1.fr hFs3
  refine x_if_ne (tgt := 15) (dxX12_choose_0 6 rfl) (by decide) (fun hc => ?_) (fun hc => ?_)
  · replace h := h.1 hc
    refine x_aload_n (i := 0) (dxX12_choose_0 9 rfl) rfl rfl ?_
    refine cl_12_411 (kd_179 hLs3) (Nat.le_of_ble_eq_true rfl) (dxX12_choose_0 10 rfl) h (fun s5 h => ?_) (Nat.le_refl _) (Nat.le_refl _)
    obtain ⟨hFs5, h⟩ := h
    have hKs5 : kd s5 = kd σ := hFs5.1.trans hKs3
    have hLs5 : Lay s5 := hLs3.fr hFs5
    refine x_aload_n (i := 0) (dxX12_choose_0 11 rfl) rfl rfl ?_
    refine x_iconst (v := 0) (dxX12_choose_0 12 rfl) rfl ?_
    refine pf_12_345 (kd_179 hLs5) (dxX12_choose_0 13 rfl) ?_
    refine x_sto (fun s7 e8 => ?_)
    replace h := h s7 e8
    have hKs7 : kd s7 = kd σ := by rw [e8]; exact hKs5
    have hLs7 : Lay s7 := by rw [e8]; exact hLs5.si
    refine x_iconst (v := 0) (dxX12_choose_0 14 rfl) rfl ?_
    refine x_istore_n (i := 2) (dxX12_choose_0 15 rfl) rfl (Nat.le_of_ble_eq_true rfl) rfl rfl ?_
    exact h
  · replace h := h.2 hc
    refine x_iconst (v := 0) (dxX12_choose_0 7 rfl) rfl ?_
    exact x_iret (ty := .boolean) rfl rfl (dxX12_choose_0 8 rfl) ⟨_, rfl, h⟩
theorem vcX12_choose_26 {g : GV} {d : Nat} {P : Int32 → PS → Prop} {σ : PS} (hL : Lay σ) (l1 : Int32) (l2 : Int32) (h : ((mi σ 179 38) ≤ l2 → P 1 σ) ∧ (¬ (mi σ 179 38) ≤ l2 → vp_in ((24 * l1) + l2) 48048 ∧ vp_in l2 24 ∧ ∀ s11 : PS, s11 = si σ 209 (Int32.toNatClampNeg l2) (mi σ 211 (Int32.toNatClampNeg ((24 * l1) + l2))) → ∀ x13 : Int32, x13 = l2 + 1 → VX12_choose g (d + 1) P 26 [some (.ref 179), some (.int l1), some (.int x13)] [] s11)) : VX12_choose g (d + 1) P 26 [some (.ref 179), some (.int l1), some (.int l2)] [] σ := by
  refine x_iload_n (i := 2) (dxX12_choose_0 16 rfl) rfl rfl ?_
  refine x_aload_n (i := 0) (dxX12_choose_0 17 rfl) rfl rfl ?_
  refine gf_12_332 (kd_179 hL) rfl (dxX12_choose_0 18 rfl) ?_
  refine x_icmp_ge (tgt := 57) (dxX12_choose_0 19 rfl) (by decide) (fun hc => ?_) (fun hc => ?_)
  · replace h := h.1 hc
    refine x_iconst (v := 1) (dxX12_choose_1 2 rfl) rfl ?_
    exact x_iret (ty := .boolean) rfl rfl (dxX12_choose_1 3 rfl) ⟨_, rfl, h⟩
  · replace h := h.2 hc
    refine x_aload_n (i := 0) (dxX12_choose_0 20 rfl) rfl rfl ?_
    refine gf_12_99 (kd_179 hL) (rv_179_45 hL) (dxX12_choose_0 21 rfl) ?_
    refine x_iload_n (i := 2) (dxX12_choose_0 22 rfl) rfl rfl ?_
    refine x_aload_n (i := 0) (dxX12_choose_0 23 rfl) rfl rfl ?_
    refine gf_12_106 (kd_179 hL) (rv_179_49 hL) (dxX12_choose_0 24 rfl) ?_
    refine x_bipush (v := 24) (dxX12_choose_0 25 rfl) rfl ?_
    refine x_iload_n (i := 1) (dxX12_choose_0 26 rfl) rfl rfl ?_
    refine x_imul (dxX12_choose_0 27 rfl) ?_
    refine x_iload_n (i := 2) (dxX12_choose_0 28 rfl) rfl rfl ?_
    refine x_iadd (dxX12_choose_0 29 rfl) ?_
    obtain ⟨hi9, h⟩ := h
    refine x_bald (kd_211 hL) hi9 (dxX12_choose_0 30 rfl) ?_
    obtain ⟨hi10, h⟩ := h
    refine x_iast (kd_209 hL) hi10 (dxX12_choose_0 31 rfl) ?_
    refine x_sto (fun s11 e12 => ?_)
    replace h := h s11 e12
    have hKs11 : kd s11 = kd σ := by rw [e12]; exact (rfl : kd σ = kd σ)
    have hLs11 : Lay s11 := by rw [e12]; exact hL.si
    obtain ⟨x13, e14⟩ : ∃ y : Int32, y = l2 + 1 := ⟨_, rfl⟩
    replace h := h x13 e14
    refine x_iinc (v := x13) (dxX12_choose_1 0 rfl) (i := 2) rfl (by rw [e14]; rfl) (Nat.le_of_ble_eq_true rfl) rfl rfl ?_
    refine x_goto (tgt := 26) (dxX12_choose_1 1 rfl) (by decide) ?_
    exact h
theorem vcX12_undo {g : GV} {d : Nat} {P : Int32 → PS → Prop} {σ : PS} (hL : Lay σ)  (h : ∀ s1 : PS, s1 = si σ 179 0 0 → (¬ (mi s1 179 51) = 0 → CX12_keeps g d [.ref 179, .ref 214, .int (mi s1 179 52)] s1 (fun (s3 : PS) => Fr s1 s3 ∧ ∀ s5 : PS, s5 = si s3 179 52 ((mi s3 179 52) + 1) → ∀ s7 : PS, s7 = si s5 179 51 ((mi s5 179 51) - 1) → CX12_brings g d [.ref 179, .ref 213, .int (mi s7 179 51)] s7 (fun (s9 : PS) => Fr s7 s9 ∧ P 1 s9))) ∧ ((mi s1 179 51) = 0 → P 0 s1)) : CX12_undo g (d + 1) [.ref 179] σ P := by
  refine x_entry (L := [some (.ref 179)]) pn_12 (Nat.le_of_ble_eq_true rfl) ⟨0, rfl⟩ ?_
  show VX12_undo g (d + 1) P 0 [some (.ref 179)] [] σ
  refine x_aload_n (i := 0) (dxX12_undo_0 0 rfl) rfl rfl ?_
  refine x_iconst (v := 0) (dxX12_undo_0 1 rfl) rfl ?_
  refine pf_12_184 (kd_179 hL) (dxX12_undo_0 2 rfl) ?_
  refine x_sto (fun s1 e2 => ?_)
  replace h := h s1 e2
  have hKs1 : kd s1 = kd σ := by rw [e2]; exact (rfl : kd σ = kd σ)
  have hLs1 : Lay s1 := by rw [e2]; exact hL.si
  refine x_aload_n (i := 0) (dxX12_undo_0 3 rfl) rfl rfl ?_
  refine gf_12_342 (kd_179 hLs1) rfl (dxX12_undo_0 4 rfl) ?_
  refine x_if_ne (tgt := 14) (dxX12_undo_0 5 rfl) (by decide) (fun hc => ?_) (fun hc => ?_)
  · replace h := h.1 hc
    refine x_aload_n (i := 0) (dxX12_undo_0 8 rfl) rfl rfl ?_
    refine x_aload_n (i := 0) (dxX12_undo_0 9 rfl) rfl rfl ?_
    refine gf_12_116 (kd_179 hLs1) (rv_179_54 hLs1) (dxX12_undo_0 10 rfl) ?_
    refine x_aload_n (i := 0) (dxX12_undo_0 11 rfl) rfl rfl ?_
    refine gf_12_345 (kd_179 hLs1) rfl (dxX12_undo_0 12 rfl) ?_
    refine cl_12_404 (kd_179 hLs1) (Nat.le_of_ble_eq_true rfl) (dxX12_undo_0 13 rfl) h (fun s3 h => ?_) (Nat.le_refl _) (Nat.le_refl _)
    obtain ⟨hFs3, h⟩ := h
    have hKs3 : kd s3 = kd σ := hFs3.1.trans hKs1
    have hLs3 : Lay s3 := hLs1.fr hFs3
    refine x_aload_n (i := 0) (dxX12_undo_0 14 rfl) rfl rfl ?_
    refine x_dup (dxX12_undo_0 15 rfl) rfl ?_
    refine gf_12_345 (kd_179 hLs3) rfl (dxX12_undo_0 16 rfl) ?_
    refine x_iconst (v := 1) (dxX12_undo_0 17 rfl) rfl ?_
    refine x_iadd (dxX12_undo_0 18 rfl) ?_
    refine pf_12_345 (kd_179 hLs3) (dxX12_undo_0 19 rfl) ?_
    refine x_sto (fun s5 e6 => ?_)
    replace h := h s5 e6
    have hKs5 : kd s5 = kd σ := by rw [e6]; exact hKs3
    have hLs5 : Lay s5 := by rw [e6]; exact hLs3.si
    refine x_aload_n (i := 0) (dxX12_undo_0 20 rfl) rfl rfl ?_
    refine x_dup (dxX12_undo_0 21 rfl) rfl ?_
    refine gf_12_342 (kd_179 hLs5) rfl (dxX12_undo_0 22 rfl) ?_
    refine x_iconst (v := 1) (dxX12_undo_0 23 rfl) rfl ?_
    refine x_isub (dxX12_undo_0 24 rfl) ?_
    refine pf_12_342 (kd_179 hLs5) (dxX12_undo_0 25 rfl) ?_
    refine x_sto (fun s7 e8 => ?_)
    replace h := h s7 e8
    have hKs7 : kd s7 = kd σ := by rw [e8]; exact hKs5
    have hLs7 : Lay s7 := by rw [e8]; exact hLs5.si
    refine x_aload_n (i := 0) (dxX12_undo_0 26 rfl) rfl rfl ?_
    refine x_aload_n (i := 0) (dxX12_undo_0 27 rfl) rfl rfl ?_
    refine gf_12_113 (kd_179 hLs7) (rv_179_53 hLs7) (dxX12_undo_0 28 rfl) ?_
    refine x_aload_n (i := 0) (dxX12_undo_0 29 rfl) rfl rfl ?_
    refine gf_12_342 (kd_179 hLs7) rfl (dxX12_undo_0 30 rfl) ?_
    refine cl_12_414 (kd_179 hLs7) (Nat.le_of_ble_eq_true rfl) (dxX12_undo_0 31 rfl) h (fun s9 h => ?_) (Nat.le_refl _) (Nat.le_refl _)
    obtain ⟨hFs9, h⟩ := h
    have hKs9 : kd s9 = kd σ := hFs9.1.trans hKs7
    have hLs9 : Lay s9 := hLs7.fr hFs9
    refine x_iconst (v := 1) (dxX12_undo_1 0 rfl) rfl ?_
    exact x_iret (ty := .boolean) rfl rfl (dxX12_undo_1 1 rfl) ⟨_, rfl, h⟩
  · replace h := h.2 hc
    refine x_iconst (v := 0) (dxX12_undo_0 6 rfl) rfl ?_
    exact x_iret (ty := .boolean) rfl rfl (dxX12_undo_0 7 rfl) ⟨_, rfl, h⟩
theorem vcX12_redo {g : GV} {d : Nat} {P : Int32 → PS → Prop} {σ : PS} (hL : Lay σ)  (h : ∀ s1 : PS, s1 = si σ 179 0 0 → (¬ (mi s1 179 52) = 0 → CX12_remembers g d [.ref 179] s1 (fun (s3 : PS) => Fr s1 s3 ∧ ∀ s5 : PS, s5 = si s3 179 52 ((mi s3 179 52) - 1) → CX12_brings g d [.ref 179, .ref 214, .int (mi s5 179 52)] s5 (fun (s7 : PS) => Fr s5 s7 ∧ P 1 s7))) ∧ ((mi s1 179 52) = 0 → P 0 s1)) : CX12_redo g (d + 1) [.ref 179] σ P := by
  refine x_entry (L := [some (.ref 179)]) pn_12 (Nat.le_of_ble_eq_true rfl) ⟨0, rfl⟩ ?_
  show VX12_redo g (d + 1) P 0 [some (.ref 179)] [] σ
  refine x_aload_n (i := 0) (dxX12_redo_0 0 rfl) rfl rfl ?_
  refine x_iconst (v := 0) (dxX12_redo_0 1 rfl) rfl ?_
  refine pf_12_184 (kd_179 hL) (dxX12_redo_0 2 rfl) ?_
  refine x_sto (fun s1 e2 => ?_)
  replace h := h s1 e2
  have hKs1 : kd s1 = kd σ := by rw [e2]; exact (rfl : kd σ = kd σ)
  have hLs1 : Lay s1 := by rw [e2]; exact hL.si
  refine x_aload_n (i := 0) (dxX12_redo_0 3 rfl) rfl rfl ?_
  refine gf_12_345 (kd_179 hLs1) rfl (dxX12_redo_0 4 rfl) ?_
  refine x_if_ne (tgt := 14) (dxX12_redo_0 5 rfl) (by decide) (fun hc => ?_) (fun hc => ?_)
  · replace h := h.1 hc
    refine x_aload_n (i := 0) (dxX12_redo_0 8 rfl) rfl rfl ?_
    refine cl_12_411 (kd_179 hLs1) (Nat.le_of_ble_eq_true rfl) (dxX12_redo_0 9 rfl) h (fun s3 h => ?_) (Nat.le_refl _) (Nat.le_refl _)
    obtain ⟨hFs3, h⟩ := h
    have hKs3 : kd s3 = kd σ := hFs3.1.trans hKs1
    have hLs3 : Lay s3 := hLs1.fr hFs3
    refine x_aload_n (i := 0) (dxX12_redo_0 10 rfl) rfl rfl ?_
    refine x_dup (dxX12_redo_0 11 rfl) rfl ?_
    refine gf_12_345 (kd_179 hLs3) rfl (dxX12_redo_0 12 rfl) ?_
    refine x_iconst (v := 1) (dxX12_redo_0 13 rfl) rfl ?_
    refine x_isub (dxX12_redo_0 14 rfl) ?_
    refine pf_12_345 (kd_179 hLs3) (dxX12_redo_0 15 rfl) ?_
    refine x_sto (fun s5 e6 => ?_)
    replace h := h s5 e6
    have hKs5 : kd s5 = kd σ := by rw [e6]; exact hKs3
    have hLs5 : Lay s5 := by rw [e6]; exact hLs3.si
    refine x_aload_n (i := 0) (dxX12_redo_0 16 rfl) rfl rfl ?_
    refine x_aload_n (i := 0) (dxX12_redo_0 17 rfl) rfl rfl ?_
    refine gf_12_116 (kd_179 hLs5) (rv_179_54 hLs5) (dxX12_redo_0 18 rfl) ?_
    refine x_aload_n (i := 0) (dxX12_redo_0 19 rfl) rfl rfl ?_
    refine gf_12_345 (kd_179 hLs5) rfl (dxX12_redo_0 20 rfl) ?_
    refine cl_12_414 (kd_179 hLs5) (Nat.le_of_ble_eq_true rfl) (dxX12_redo_0 21 rfl) h (fun s7 h => ?_) (Nat.le_refl _) (Nat.le_refl _)
    obtain ⟨hFs7, h⟩ := h
    have hKs7 : kd s7 = kd σ := hFs7.1.trans hKs5
    have hLs7 : Lay s7 := hLs5.fr hFs7
    refine x_iconst (v := 1) (dxX12_redo_0 22 rfl) rfl ?_
    exact x_iret (ty := .boolean) rfl rfl (dxX12_redo_0 23 rfl) ⟨_, rfl, h⟩
  · replace h := h.2 hc
    refine x_iconst (v := 0) (dxX12_redo_0 6 rfl) rfl ?_
    exact x_iret (ty := .boolean) rfl rfl (dxX12_redo_0 7 rfl) ⟨_, rfl, h⟩
theorem vcX12_pairsNow {g : GV} {d : Nat} {P : Int32 → PS → Prop} {σ : PS} (hL : Lay σ)  (h : VX12_pairsNow g d P 4 [some (.ref 179), some (.int 0), some (.int 0)] [] σ) : CX12_pairsNow g d [.ref 179] σ P := by
  refine x_entry (L := [some (.ref 179), none, none]) pn_12 (Nat.le_of_ble_eq_true rfl) ⟨2, rfl⟩ ?_
  show VX12_pairsNow g d P 0 [some (.ref 179), none, none] [] σ
  refine x_iconst (v := 0) (dxX12_pairsNow_0 0 rfl) rfl ?_
  refine x_istore_n (i := 1) (dxX12_pairsNow_0 1 rfl) rfl (Nat.le_of_ble_eq_true rfl) rfl rfl ?_
  refine x_iconst (v := 0) (dxX12_pairsNow_0 2 rfl) rfl ?_
  refine x_istore_n (i := 2) (dxX12_pairsNow_0 3 rfl) rfl (Nat.le_of_ble_eq_true rfl) rfl rfl ?_
  exact h
theorem vcX12_pairsNow_4 {g : GV} {d : Nat} {P : Int32 → PS → Prop} {σ : PS} (hL : Lay σ) (l1 : Int32) (l2 : Int32) (h : ((mi σ 179 38) ≤ l2 → P (l1 / 2) σ) ∧ (¬ (mi σ 179 38) ≤ l2 → vp_in l2 24 ∧ ((mi σ 209 (Int32.toNatClampNeg l2)) < 0 → ∀ x2 : Int32, x2 = l1 + 0 → ∀ x4 : Int32, x4 = l2 + 1 → VX12_pairsNow g d P 4 [some (.ref 179), some (.int x2), some (.int x4)] [] σ) ∧ (¬ (mi σ 209 (Int32.toNatClampNeg l2)) < 0 → ∀ x6 : Int32, x6 = l1 + 1 → ∀ x8 : Int32, x8 = l2 + 1 → VX12_pairsNow g d P 4 [some (.ref 179), some (.int x6), some (.int x8)] [] σ))) : VX12_pairsNow g d P 4 [some (.ref 179), some (.int l1), some (.int l2)] [] σ := by
  refine x_iload_n (i := 2) (dxX12_pairsNow_0 4 rfl) rfl rfl ?_
  refine x_aload_n (i := 0) (dxX12_pairsNow_0 5 rfl) rfl rfl ?_
  refine gf_12_332 (kd_179 hL) rfl (dxX12_pairsNow_0 6 rfl) ?_
  refine x_icmp_ge (tgt := 35) (dxX12_pairsNow_0 7 rfl) (by decide) (fun hc => ?_) (fun hc => ?_)
  · replace h := h.1 hc
    refine x_iload_n (i := 1) (dxX12_pairsNow_0 21 rfl) rfl rfl ?_
    refine x_iconst (v := 2) (dxX12_pairsNow_0 22 rfl) rfl ?_
    refine x_idiv (dxX12_pairsNow_0 23 rfl) (by decide) ?_
    exact x_iret (ty := .int) rfl rfl (dxX12_pairsNow_0 24 rfl) ⟨_, rfl, h⟩
  · replace h := h.2 hc
    refine x_iload_n (i := 1) (dxX12_pairsNow_0 8 rfl) rfl rfl ?_
    refine x_aload_n (i := 0) (dxX12_pairsNow_0 9 rfl) rfl rfl ?_
    refine gf_12_99 (kd_179 hL) (rv_179_45 hL) (dxX12_pairsNow_0 10 rfl) ?_
    refine x_iload_n (i := 2) (dxX12_pairsNow_0 11 rfl) rfl rfl ?_
    obtain ⟨hi1, h⟩ := h
    refine x_iald (kd_209 hL) hi1 (dxX12_pairsNow_0 12 rfl) ?_
    refine x_if_lt (tgt := 26) (dxX12_pairsNow_0 13 rfl) (by decide) (fun hc => ?_) (fun hc => ?_)
    · replace h := h.1 hc
      refine x_iconst (v := 0) (dxX12_pairsNow_0 16 rfl) rfl ?_
      refine x_iadd (dxX12_pairsNow_0 17 rfl) ?_
      refine x_topi (fun x2 e3 => ?_)
      replace h := h x2 e3
      refine x_istore_n (i := 1) (dxX12_pairsNow_0 18 rfl) rfl (Nat.le_of_ble_eq_true rfl) rfl rfl ?_
      obtain ⟨x4, e5⟩ : ∃ y : Int32, y = l2 + 1 := ⟨_, rfl⟩
      replace h := h x4 e5
      refine x_iinc (v := x4) (dxX12_pairsNow_0 19 rfl) (i := 2) rfl (by rw [e5]; rfl) (Nat.le_of_ble_eq_true rfl) rfl rfl ?_
      refine x_goto (tgt := 4) (dxX12_pairsNow_0 20 rfl) (by decide) ?_
      exact h
    · replace h := h.2 hc
      refine x_iconst (v := 1) (dxX12_pairsNow_0 14 rfl) rfl ?_
      refine x_goto (tgt := 27) (dxX12_pairsNow_0 15 rfl) (by decide) ?_
      refine x_iadd (dxX12_pairsNow_0 17 rfl) ?_
      refine x_topi (fun x6 e7 => ?_)
      replace h := h x6 e7
      refine x_istore_n (i := 1) (dxX12_pairsNow_0 18 rfl) rfl (Nat.le_of_ble_eq_true rfl) rfl rfl ?_
      obtain ⟨x8, e9⟩ : ∃ y : Int32, y = l2 + 1 := ⟨_, rfl⟩
      replace h := h x8 e9
      refine x_iinc (v := x8) (dxX12_pairsNow_0 19 rfl) (i := 2) rfl (by rw [e9]; rfl) (Nat.le_of_ble_eq_true rfl) rfl rfl ?_
      refine x_goto (tgt := 4) (dxX12_pairsNow_0 20 rfl) (by decide) ?_
      exact h
theorem vcX12_isBody {g : GV} {d : Nat} {P : Int32 → PS → Prop} {σ : PS} (hL : Lay σ)  (h : CX12_pairsNow g d [.ref 179] σ (fun (v2 : Int32) (s1 : PS) => Fr σ s1 ∧ (¬ (2 * v2) = (mi s1 179 38) → P 0 s1) ∧ ((2 * v2) = (mi s1 179 38) → P 1 s1))) : CX12_isBody g (d + 1) [.ref 179] σ P := by
  refine x_entry (L := [some (.ref 179)]) pn_12 (Nat.le_of_ble_eq_true rfl) ⟨0, rfl⟩ ?_
  show VX12_isBody g (d + 1) P 0 [some (.ref 179)] [] σ
  refine x_iconst (v := 2) (dxX12_isBody_0 0 rfl) rfl ?_
  refine x_aload_n (i := 0) (dxX12_isBody_0 1 rfl) rfl rfl ?_
  refine cl_12_417 (kd_179 hL) (Nat.le_of_ble_eq_true rfl) (dxX12_isBody_0 2 rfl) h (fun v2 s1 h => ?_) (Nat.le_refl _) (Nat.le_refl _)
  obtain ⟨hFs1, h⟩ := h
  have hKs1 : kd s1 = kd σ := hFs1.1.trans (rfl : kd σ = kd σ)
  have hLs1 : Lay s1 := hL.fr hFs1
  refine x_imul (dxX12_isBody_0 3 rfl) ?_
  refine x_aload_n (i := 0) (dxX12_isBody_0 4 rfl) rfl rfl ?_
  refine gf_12_332 (kd_179 hLs1) rfl (dxX12_isBody_0 5 rfl) ?_
  refine x_icmp_ne (tgt := 17) (dxX12_isBody_0 6 rfl) (by decide) (fun hc => ?_) (fun hc => ?_)
  · replace h := h.1 hc
    refine x_iconst (v := 0) (dxX12_isBody_0 9 rfl) rfl ?_
    exact x_iret (ty := .boolean) rfl rfl (dxX12_isBody_0 10 rfl) ⟨_, rfl, h⟩
  · replace h := h.2 hc
    refine x_iconst (v := 1) (dxX12_isBody_0 7 rfl) rfl ?_
    refine x_goto (tgt := 18) (dxX12_isBody_0 8 rfl) (by decide) ?_
    exact x_iret (ty := .boolean) rfl rfl (dxX12_isBody_0 10 rfl) ⟨_, rfl, h⟩
theorem vcX12_laysBody {g : GV} {d : Nat} {P : PS → Prop} {σ : PS} (hL : Lay σ) (p0 : Int32) (p1 : Int32) (h : VX12_laysBody g (d + 1) P 2 [some (.ref 179), some (.int p0), some (.int p1), some (.int 0), none, none, none] [] σ) : CX12_laysBody g (d + 1) [.ref 179, .int p0, .int p1] σ P := by
  refine x_entry (L := [some (.ref 179), some (.int p0), some (.int p1), none, none, none, none]) pn_12 (Nat.le_of_ble_eq_true rfl) ⟨4, rfl⟩ ?_
  show VX12_laysBody g (d + 1) P 0 [some (.ref 179), some (.int p0), some (.int p1), none, none, none, none] [] σ
  refine x_iconst (v := 0) (dxX12_laysBody_0 0 rfl) rfl ?_
  refine x_istore_n (i := 3) (dxX12_laysBody_0 1 rfl) rfl (Nat.le_of_ble_eq_true rfl) rfl rfl ?_
  exact h
theorem vcX12_laysBody_2 {g : GV} {d : Nat} {P : PS → Prop} {σ : PS} (hL : Lay σ) (l1 : Int32) (l2 : Int32) (l3 : Int32) (h : ((mi σ 179 35) ≤ l3 → P σ) ∧ (¬ (mi σ 179 35) ≤ l3 → VX12_laysBody g (d + 1) P 13 [some (.ref 179), some (.int l1), some (.int l2), some (.int l3), some (.int 0), none, none] [] σ)) : VX12_laysBody g (d + 1) P 2 [some (.ref 179), some (.int l1), some (.int l2), some (.int l3), none, none, none] [] σ := by
  refine x_iload_n (i := 3) (dxX12_laysBody_0 2 rfl) rfl rfl ?_
  refine x_aload_n (i := 0) (dxX12_laysBody_0 3 rfl) rfl rfl ?_
  refine gf_12_177 (kd_179 hL) rfl (dxX12_laysBody_0 4 rfl) ?_
  refine x_icmp_ge (tgt := 135) (dxX12_laysBody_0 5 rfl) (by decide) (fun hc => ?_) (fun hc => ?_)
  · replace h := h.1 hc
    exact x_vret rfl (dxX12_laysBody_2 16 rfl) ⟨rfl, h⟩
  · replace h := h.2 hc
    refine x_iconst (v := 0) (dxX12_laysBody_0 6 rfl) rfl ?_
    refine x_istore (dxX12_laysBody_0 7 rfl) (Nat.le_of_ble_eq_true rfl) rfl rfl ?_
    exact h
theorem vcX12_laysBody_13 {g : GV} {d : Nat} {P : PS → Prop} {σ : PS} (hL : Lay σ) (l1 : Int32) (l2 : Int32) (l3 : Int32) (l4 : Int32) (h : (4 ≤ l4 → ∀ x1 : Int32, x1 = l3 + 1 → VX12_laysBody g (d + 1) P 2 [some (.ref 179), some (.int l1), some (.int l2), some (.int x1), none, none, none] [] σ) ∧ (¬ 4 ≤ l4 → vp_in ((4 * l3) + l4) 40 ∧ ∀ x4 : Int32, x4 = mi σ 206 (Int32.toNatClampNeg ((4 * l3) + l4)) → (0 ≤ x4 → (0 ≤ l2 → vp_in ((24 * l2) + x4) 48048 ∧ ∀ x7 : Int32, x7 = mi σ 211 (Int32.toNatClampNeg ((24 * l2) + x4)) → (0 ≤ x4 → vp_in x7 24 ∧ vp_in x7 24 ∧ vp_in ((l1 + (4 * l3)) + l4) 80 ∧ ∀ s12 : PS, s12 = si σ 215 (Int32.toNatClampNeg ((l1 + (4 * l3)) + l4)) ((4 * (mi σ 203 (Int32.toNatClampNeg x7))) + (mi σ 204 (Int32.toNatClampNeg x7))) → ∀ x14 : Int32, x14 = l4 + 1 → VX12_laysBody g (d + 1) P 13 [some (.ref 179), some (.int l1), some (.int l2), some (.int l3), some (.int x14), none, none] [] s12) ∧ (¬ 0 ≤ x4 → CX12_behind g d [.ref 179, .int l3, .int l4] σ (fun (v17 : Int32) (s16 : PS) => Fr σ s16 ∧ vp_in ((l1 + (4 * l3)) + l4) 80 ∧ ∀ s19 : PS, s19 = si s16 215 (Int32.toNatClampNeg ((l1 + (4 * l3)) + l4)) ((4 * v17) + (jrem (l4 + 2) 4)) → ∀ x21 : Int32, x21 = l4 + 1 → VX12_laysBody g (d + 1) P 13 [some (.ref 179), some (.int l1), some (.int l2), some (.int l3), some (.int x21), none, none] [] s19))) ∧ (¬ 0 ≤ l2 → vp_in x4 24 ∧ ∀ x24 : Int32, x24 = mi σ 209 (Int32.toNatClampNeg x4) → (0 ≤ x4 → vp_in x24 24 ∧ vp_in x24 24 ∧ vp_in ((l1 + (4 * l3)) + l4) 80 ∧ ∀ s29 : PS, s29 = si σ 215 (Int32.toNatClampNeg ((l1 + (4 * l3)) + l4)) ((4 * (mi σ 203 (Int32.toNatClampNeg x24))) + (mi σ 204 (Int32.toNatClampNeg x24))) → ∀ x31 : Int32, x31 = l4 + 1 → VX12_laysBody g (d + 1) P 13 [some (.ref 179), some (.int l1), some (.int l2), some (.int l3), some (.int x31), none, none] [] s29) ∧ (¬ 0 ≤ x4 → CX12_behind g d [.ref 179, .int l3, .int l4] σ (fun (v34 : Int32) (s33 : PS) => Fr σ s33 ∧ vp_in ((l1 + (4 * l3)) + l4) 80 ∧ ∀ s36 : PS, s36 = si s33 215 (Int32.toNatClampNeg ((l1 + (4 * l3)) + l4)) ((4 * v34) + (jrem (l4 + 2) 4)) → ∀ x38 : Int32, x38 = l4 + 1 → VX12_laysBody g (d + 1) P 13 [some (.ref 179), some (.int l1), some (.int l2), some (.int l3), some (.int x38), none, none] [] s36)))) ∧ (¬ 0 ≤ x4 → (0 ≤ x4 → vp_in (-1) 24 ∧ vp_in (-1) 24 ∧ vp_in ((l1 + (4 * l3)) + l4) 80 ∧ ∀ s43 : PS, s43 = si σ 215 (Int32.toNatClampNeg ((l1 + (4 * l3)) + l4)) ((4 * (mi σ 203 (Int32.toNatClampNeg (-1)))) + (mi σ 204 (Int32.toNatClampNeg (-1)))) → ∀ x45 : Int32, x45 = l4 + 1 → VX12_laysBody g (d + 1) P 13 [some (.ref 179), some (.int l1), some (.int l2), some (.int l3), some (.int x45), none, none] [] s43) ∧ (¬ 0 ≤ x4 → CX12_behind g d [.ref 179, .int l3, .int l4] σ (fun (v48 : Int32) (s47 : PS) => Fr σ s47 ∧ vp_in ((l1 + (4 * l3)) + l4) 80 ∧ ∀ s50 : PS, s50 = si s47 215 (Int32.toNatClampNeg ((l1 + (4 * l3)) + l4)) ((4 * v48) + (jrem (l4 + 2) 4)) → ∀ x52 : Int32, x52 = l4 + 1 → VX12_laysBody g (d + 1) P 13 [some (.ref 179), some (.int l1), some (.int l2), some (.int l3), some (.int x52), none, none] [] s50))))) : VX12_laysBody g (d + 1) P 13 [some (.ref 179), some (.int l1), some (.int l2), some (.int l3), some (.int l4), none, none] [] σ := by
  refine x_iload (dxX12_laysBody_0 8 rfl) rfl ?_
  refine x_iconst (v := 4) (dxX12_laysBody_0 9 rfl) rfl ?_
  refine x_icmp_ge (tgt := 129) (dxX12_laysBody_0 10 rfl) (by decide) (fun hc => ?_) (fun hc => ?_)
  · replace h := h.1 hc
    obtain ⟨x1, e2⟩ : ∃ y : Int32, y = l3 + 1 := ⟨_, rfl⟩
    replace h := h x1 e2
    refine x_iinc (v := x1) (dxX12_laysBody_2 14 rfl) (i := 3) rfl (by rw [e2]; rfl) (Nat.le_of_ble_eq_true rfl) rfl rfl ?_
    refine x_goto (tgt := 2) (dxX12_laysBody_2 15 rfl) (by decide) ?_
    refine x_mask [true, true, true, true, false, false, false] (L1 := [some (.ref 179), some (.int l1), some (.int l2), some (.int x1), none, none, none]) rfl ?_
    exact h
  · replace h := h.2 hc
    refine x_aload_n (i := 0) (dxX12_laysBody_0 11 rfl) rfl rfl ?_
    refine gf_12_90 (kd_179 hL) (rv_179_42 hL) (dxX12_laysBody_0 12 rfl) ?_
    refine x_iconst (v := 4) (dxX12_laysBody_0 13 rfl) rfl ?_
    refine x_iload_n (i := 3) (dxX12_laysBody_0 14 rfl) rfl rfl ?_
    refine x_imul (dxX12_laysBody_0 15 rfl) ?_
    refine x_iload (dxX12_laysBody_0 16 rfl) rfl ?_
    refine x_iadd (dxX12_laysBody_0 17 rfl) ?_
    obtain ⟨hi3, h⟩ := h
    refine x_iald (kd_206 hL) hi3 (dxX12_laysBody_0 18 rfl) ?_
    refine x_topi (fun x4 e5 => ?_)
    replace h := h x4 e5
    refine x_istore (dxX12_laysBody_0 19 rfl) (Nat.le_of_ble_eq_true rfl) rfl rfl ?_
    refine x_iload (dxX12_laysBody_0 20 rfl) rfl ?_
    refine x_if_ge (tgt := 41) (dxX12_laysBody_0 21 rfl) (by decide) (fun hc => ?_) (fun hc => ?_)
    · replace h := h.1 hc
      refine x_iload_n (i := 2) (dxX12_laysBody_0 24 rfl) rfl rfl ?_
      refine x_if_ge (tgt := 55) (dxX12_laysBody_0 25 rfl) (by decide) (fun hc => ?_) (fun hc => ?_)
      · replace h := h.1 hc
        refine x_aload_n (i := 0) (dxX12_laysBody_0 31 rfl) rfl rfl ?_
        refine gf_12_106 (kd_179 hL) (rv_179_49 hL) (dxX12_laysBody_1 0 rfl) ?_
        refine x_bipush (v := 24) (dxX12_laysBody_1 1 rfl) rfl ?_
        refine x_iload_n (i := 2) (dxX12_laysBody_1 2 rfl) rfl rfl ?_
        refine x_imul (dxX12_laysBody_1 3 rfl) ?_
        refine x_iload (dxX12_laysBody_1 4 rfl) rfl ?_
        refine x_iadd (dxX12_laysBody_1 5 rfl) ?_
        obtain ⟨hi6, h⟩ := h
        refine x_bald (kd_211 hL) hi6 (dxX12_laysBody_1 6 rfl) ?_
        refine x_topi (fun x7 e8 => ?_)
        replace h := h x7 e8
        refine x_istore (dxX12_laysBody_1 7 rfl) (Nat.le_of_ble_eq_true rfl) rfl rfl ?_
        refine x_aload_n (i := 0) (dxX12_laysBody_1 8 rfl) rfl rfl ?_
        refine gf_12_119 (kd_179 hL) (rv_179_55 hL) (dxX12_laysBody_1 9 rfl) ?_
        refine x_iload_n (i := 1) (dxX12_laysBody_1 10 rfl) rfl rfl ?_
        refine x_iconst (v := 4) (dxX12_laysBody_1 11 rfl) rfl ?_
        refine x_iload_n (i := 3) (dxX12_laysBody_1 12 rfl) rfl rfl ?_
        refine x_imul (dxX12_laysBody_1 13 rfl) ?_
        refine x_iadd (dxX12_laysBody_1 14 rfl) ?_
        refine x_iload (dxX12_laysBody_1 15 rfl) rfl ?_
        refine x_iadd (dxX12_laysBody_1 16 rfl) ?_
        refine x_iload (dxX12_laysBody_1 17 rfl) rfl ?_
        refine x_if_ge (tgt := 105) (dxX12_laysBody_1 18 rfl) (by decide) (fun hc => ?_) (fun hc => ?_)
        · replace h := h.1 hc
          refine x_iconst (v := 4) (dxX12_laysBody_2 0 rfl) rfl ?_
          refine x_aload_n (i := 0) (dxX12_laysBody_2 1 rfl) rfl rfl ?_
          refine gf_12_81 (kd_179 hL) (rv_179_39 hL) (dxX12_laysBody_2 2 rfl) ?_
          refine x_iload (dxX12_laysBody_2 3 rfl) rfl ?_
          obtain ⟨hi9, h⟩ := h
          refine x_iald (kd_203 hL) hi9 (dxX12_laysBody_2 4 rfl) ?_
          refine x_imul (dxX12_laysBody_2 5 rfl) ?_
          refine x_aload_n (i := 0) (dxX12_laysBody_2 6 rfl) rfl rfl ?_
          refine gf_12_84 (kd_179 hL) (rv_179_40 hL) (dxX12_laysBody_2 7 rfl) ?_
          refine x_iload (dxX12_laysBody_2 8 rfl) rfl ?_
          obtain ⟨hi10, h⟩ := h
          refine x_iald (kd_204 hL) hi10 (dxX12_laysBody_2 9 rfl) ?_
          refine x_iadd (dxX12_laysBody_2 10 rfl) ?_
          obtain ⟨hi11, h⟩ := h
          refine x_iast (kd_215 hL) hi11 (dxX12_laysBody_2 11 rfl) ?_
          refine x_sto (fun s12 e13 => ?_)
          replace h := h s12 e13
          have hKs12 : kd s12 = kd σ := by rw [e13]; exact (rfl : kd σ = kd σ)
          have hLs12 : Lay s12 := by rw [e13]; exact hL.si
          obtain ⟨x14, e15⟩ : ∃ y : Int32, y = l4 + 1 := ⟨_, rfl⟩
          replace h := h x14 e15
          refine x_iinc (v := x14) (dxX12_laysBody_2 12 rfl) (i := 4) rfl (by rw [e15]; rfl) (Nat.le_of_ble_eq_true rfl) rfl rfl ?_
          refine x_goto (tgt := 13) (dxX12_laysBody_2 13 rfl) (by decide) ?_
          refine x_mask [true, true, true, true, true, false, false] (L1 := [some (.ref 179), some (.int l1), some (.int l2), some (.int l3), some (.int x14), none, none]) rfl ?_
          exact h
        · replace h := h.2 hc
          refine x_iconst (v := 4) (dxX12_laysBody_1 19 rfl) rfl ?_
          refine x_aload_n (i := 0) (dxX12_laysBody_1 20 rfl) rfl rfl ?_
          refine x_iload_n (i := 3) (dxX12_laysBody_1 21 rfl) rfl rfl ?_
          refine x_iload (dxX12_laysBody_1 22 rfl) rfl ?_
          refine cl_12_335 (kd_179 hL) (Nat.le_of_ble_eq_true rfl) (dxX12_laysBody_1 23 rfl) h (fun v17 s16 h => ?_) (Nat.le_refl _) (Nat.le_refl _)
          obtain ⟨hFs16, h⟩ := h
          have hKs16 : kd s16 = kd σ := hFs16.1.trans (rfl : kd σ = kd σ)
          have hLs16 : Lay s16 := hL.fr hFs16
          refine x_imul (dxX12_laysBody_1 24 rfl) ?_
          refine x_iload (dxX12_laysBody_1 25 rfl) rfl ?_
          refine x_iconst (v := 2) (dxX12_laysBody_1 26 rfl) rfl ?_
          refine x_iadd (dxX12_laysBody_1 27 rfl) ?_
          refine x_iconst (v := 4) (dxX12_laysBody_1 28 rfl) rfl ?_
          refine x_irem (dxX12_laysBody_1 29 rfl) (by decide) ?_
          refine x_iadd (dxX12_laysBody_1 30 rfl) ?_
          refine x_goto (tgt := 122) (dxX12_laysBody_1 31 rfl) (by decide) ?_
          obtain ⟨hi18, h⟩ := h
          refine x_iast (kd_215 hLs16) hi18 (dxX12_laysBody_2 11 rfl) ?_
          refine x_sto (fun s19 e20 => ?_)
          replace h := h s19 e20
          have hKs19 : kd s19 = kd σ := by rw [e20]; exact hKs16
          have hLs19 : Lay s19 := by rw [e20]; exact hLs16.si
          obtain ⟨x21, e22⟩ : ∃ y : Int32, y = l4 + 1 := ⟨_, rfl⟩
          replace h := h x21 e22
          refine x_iinc (v := x21) (dxX12_laysBody_2 12 rfl) (i := 4) rfl (by rw [e22]; rfl) (Nat.le_of_ble_eq_true rfl) rfl rfl ?_
          refine x_goto (tgt := 13) (dxX12_laysBody_2 13 rfl) (by decide) ?_
          refine x_mask [true, true, true, true, true, false, false] (L1 := [some (.ref 179), some (.int l1), some (.int l2), some (.int l3), some (.int x21), none, none]) rfl ?_
          exact h
      · replace h := h.2 hc
        refine x_aload_n (i := 0) (dxX12_laysBody_0 26 rfl) rfl rfl ?_
        refine gf_12_99 (kd_179 hL) (rv_179_45 hL) (dxX12_laysBody_0 27 rfl) ?_
        refine x_iload (dxX12_laysBody_0 28 rfl) rfl ?_
        obtain ⟨hi23, h⟩ := h
        refine x_iald (kd_209 hL) hi23 (dxX12_laysBody_0 29 rfl) ?_
        refine x_goto (tgt := 67) (dxX12_laysBody_0 30 rfl) (by decide) ?_
        refine x_topi (fun x24 e25 => ?_)
        replace h := h x24 e25
        refine x_istore (dxX12_laysBody_1 7 rfl) (Nat.le_of_ble_eq_true rfl) rfl rfl ?_
        refine x_aload_n (i := 0) (dxX12_laysBody_1 8 rfl) rfl rfl ?_
        refine gf_12_119 (kd_179 hL) (rv_179_55 hL) (dxX12_laysBody_1 9 rfl) ?_
        refine x_iload_n (i := 1) (dxX12_laysBody_1 10 rfl) rfl rfl ?_
        refine x_iconst (v := 4) (dxX12_laysBody_1 11 rfl) rfl ?_
        refine x_iload_n (i := 3) (dxX12_laysBody_1 12 rfl) rfl rfl ?_
        refine x_imul (dxX12_laysBody_1 13 rfl) ?_
        refine x_iadd (dxX12_laysBody_1 14 rfl) ?_
        refine x_iload (dxX12_laysBody_1 15 rfl) rfl ?_
        refine x_iadd (dxX12_laysBody_1 16 rfl) ?_
        refine x_iload (dxX12_laysBody_1 17 rfl) rfl ?_
        refine x_if_ge (tgt := 105) (dxX12_laysBody_1 18 rfl) (by decide) (fun hc => ?_) (fun hc => ?_)
        · replace h := h.1 hc
          refine x_iconst (v := 4) (dxX12_laysBody_2 0 rfl) rfl ?_
          refine x_aload_n (i := 0) (dxX12_laysBody_2 1 rfl) rfl rfl ?_
          refine gf_12_81 (kd_179 hL) (rv_179_39 hL) (dxX12_laysBody_2 2 rfl) ?_
          refine x_iload (dxX12_laysBody_2 3 rfl) rfl ?_
          obtain ⟨hi26, h⟩ := h
          refine x_iald (kd_203 hL) hi26 (dxX12_laysBody_2 4 rfl) ?_
          refine x_imul (dxX12_laysBody_2 5 rfl) ?_
          refine x_aload_n (i := 0) (dxX12_laysBody_2 6 rfl) rfl rfl ?_
          refine gf_12_84 (kd_179 hL) (rv_179_40 hL) (dxX12_laysBody_2 7 rfl) ?_
          refine x_iload (dxX12_laysBody_2 8 rfl) rfl ?_
          obtain ⟨hi27, h⟩ := h
          refine x_iald (kd_204 hL) hi27 (dxX12_laysBody_2 9 rfl) ?_
          refine x_iadd (dxX12_laysBody_2 10 rfl) ?_
          obtain ⟨hi28, h⟩ := h
          refine x_iast (kd_215 hL) hi28 (dxX12_laysBody_2 11 rfl) ?_
          refine x_sto (fun s29 e30 => ?_)
          replace h := h s29 e30
          have hKs29 : kd s29 = kd σ := by rw [e30]; exact (rfl : kd σ = kd σ)
          have hLs29 : Lay s29 := by rw [e30]; exact hL.si
          obtain ⟨x31, e32⟩ : ∃ y : Int32, y = l4 + 1 := ⟨_, rfl⟩
          replace h := h x31 e32
          refine x_iinc (v := x31) (dxX12_laysBody_2 12 rfl) (i := 4) rfl (by rw [e32]; rfl) (Nat.le_of_ble_eq_true rfl) rfl rfl ?_
          refine x_goto (tgt := 13) (dxX12_laysBody_2 13 rfl) (by decide) ?_
          refine x_mask [true, true, true, true, true, false, false] (L1 := [some (.ref 179), some (.int l1), some (.int l2), some (.int l3), some (.int x31), none, none]) rfl ?_
          exact h
        · replace h := h.2 hc
          refine x_iconst (v := 4) (dxX12_laysBody_1 19 rfl) rfl ?_
          refine x_aload_n (i := 0) (dxX12_laysBody_1 20 rfl) rfl rfl ?_
          refine x_iload_n (i := 3) (dxX12_laysBody_1 21 rfl) rfl rfl ?_
          refine x_iload (dxX12_laysBody_1 22 rfl) rfl ?_
          refine cl_12_335 (kd_179 hL) (Nat.le_of_ble_eq_true rfl) (dxX12_laysBody_1 23 rfl) h (fun v34 s33 h => ?_) (Nat.le_refl _) (Nat.le_refl _)
          obtain ⟨hFs33, h⟩ := h
          have hKs33 : kd s33 = kd σ := hFs33.1.trans (rfl : kd σ = kd σ)
          have hLs33 : Lay s33 := hL.fr hFs33
          refine x_imul (dxX12_laysBody_1 24 rfl) ?_
          refine x_iload (dxX12_laysBody_1 25 rfl) rfl ?_
          refine x_iconst (v := 2) (dxX12_laysBody_1 26 rfl) rfl ?_
          refine x_iadd (dxX12_laysBody_1 27 rfl) ?_
          refine x_iconst (v := 4) (dxX12_laysBody_1 28 rfl) rfl ?_
          refine x_irem (dxX12_laysBody_1 29 rfl) (by decide) ?_
          refine x_iadd (dxX12_laysBody_1 30 rfl) ?_
          refine x_goto (tgt := 122) (dxX12_laysBody_1 31 rfl) (by decide) ?_
          obtain ⟨hi35, h⟩ := h
          refine x_iast (kd_215 hLs33) hi35 (dxX12_laysBody_2 11 rfl) ?_
          refine x_sto (fun s36 e37 => ?_)
          replace h := h s36 e37
          have hKs36 : kd s36 = kd σ := by rw [e37]; exact hKs33
          have hLs36 : Lay s36 := by rw [e37]; exact hLs33.si
          obtain ⟨x38, e39⟩ : ∃ y : Int32, y = l4 + 1 := ⟨_, rfl⟩
          replace h := h x38 e39
          refine x_iinc (v := x38) (dxX12_laysBody_2 12 rfl) (i := 4) rfl (by rw [e39]; rfl) (Nat.le_of_ble_eq_true rfl) rfl rfl ?_
          refine x_goto (tgt := 13) (dxX12_laysBody_2 13 rfl) (by decide) ?_
          refine x_mask [true, true, true, true, true, false, false] (L1 := [some (.ref 179), some (.int l1), some (.int l2), some (.int l3), some (.int x38), none, none]) rfl ?_
          exact h
    · replace h := h.2 hc
      refine x_iconst (v := (-1)) (dxX12_laysBody_0 22 rfl) rfl ?_
      refine x_goto (tgt := 67) (dxX12_laysBody_0 23 rfl) (by decide) ?_
      refine x_istore (dxX12_laysBody_1 7 rfl) (Nat.le_of_ble_eq_true rfl) rfl rfl ?_
      refine x_aload_n (i := 0) (dxX12_laysBody_1 8 rfl) rfl rfl ?_
      refine gf_12_119 (kd_179 hL) (rv_179_55 hL) (dxX12_laysBody_1 9 rfl) ?_
      refine x_iload_n (i := 1) (dxX12_laysBody_1 10 rfl) rfl rfl ?_
      refine x_iconst (v := 4) (dxX12_laysBody_1 11 rfl) rfl ?_
      refine x_iload_n (i := 3) (dxX12_laysBody_1 12 rfl) rfl rfl ?_
      refine x_imul (dxX12_laysBody_1 13 rfl) ?_
      refine x_iadd (dxX12_laysBody_1 14 rfl) ?_
      refine x_iload (dxX12_laysBody_1 15 rfl) rfl ?_
      refine x_iadd (dxX12_laysBody_1 16 rfl) ?_
      refine x_iload (dxX12_laysBody_1 17 rfl) rfl ?_
      refine x_if_ge (tgt := 105) (dxX12_laysBody_1 18 rfl) (by decide) (fun hc => ?_) (fun hc => ?_)
      · replace h := h.1 hc
        refine x_iconst (v := 4) (dxX12_laysBody_2 0 rfl) rfl ?_
        refine x_aload_n (i := 0) (dxX12_laysBody_2 1 rfl) rfl rfl ?_
        refine gf_12_81 (kd_179 hL) (rv_179_39 hL) (dxX12_laysBody_2 2 rfl) ?_
        refine x_iload (dxX12_laysBody_2 3 rfl) rfl ?_
        obtain ⟨hi40, h⟩ := h
        refine x_iald (kd_203 hL) hi40 (dxX12_laysBody_2 4 rfl) ?_
        refine x_imul (dxX12_laysBody_2 5 rfl) ?_
        refine x_aload_n (i := 0) (dxX12_laysBody_2 6 rfl) rfl rfl ?_
        refine gf_12_84 (kd_179 hL) (rv_179_40 hL) (dxX12_laysBody_2 7 rfl) ?_
        refine x_iload (dxX12_laysBody_2 8 rfl) rfl ?_
        obtain ⟨hi41, h⟩ := h
        refine x_iald (kd_204 hL) hi41 (dxX12_laysBody_2 9 rfl) ?_
        refine x_iadd (dxX12_laysBody_2 10 rfl) ?_
        obtain ⟨hi42, h⟩ := h
        refine x_iast (kd_215 hL) hi42 (dxX12_laysBody_2 11 rfl) ?_
        refine x_sto (fun s43 e44 => ?_)
        replace h := h s43 e44
        have hKs43 : kd s43 = kd σ := by rw [e44]; exact (rfl : kd σ = kd σ)
        have hLs43 : Lay s43 := by rw [e44]; exact hL.si
        obtain ⟨x45, e46⟩ : ∃ y : Int32, y = l4 + 1 := ⟨_, rfl⟩
        replace h := h x45 e46
        refine x_iinc (v := x45) (dxX12_laysBody_2 12 rfl) (i := 4) rfl (by rw [e46]; rfl) (Nat.le_of_ble_eq_true rfl) rfl rfl ?_
        refine x_goto (tgt := 13) (dxX12_laysBody_2 13 rfl) (by decide) ?_
        refine x_mask [true, true, true, true, true, false, false] (L1 := [some (.ref 179), some (.int l1), some (.int l2), some (.int l3), some (.int x45), none, none]) rfl ?_
        exact h
      · replace h := h.2 hc
        refine x_iconst (v := 4) (dxX12_laysBody_1 19 rfl) rfl ?_
        refine x_aload_n (i := 0) (dxX12_laysBody_1 20 rfl) rfl rfl ?_
        refine x_iload_n (i := 3) (dxX12_laysBody_1 21 rfl) rfl rfl ?_
        refine x_iload (dxX12_laysBody_1 22 rfl) rfl ?_
        refine cl_12_335 (kd_179 hL) (Nat.le_of_ble_eq_true rfl) (dxX12_laysBody_1 23 rfl) h (fun v48 s47 h => ?_) (Nat.le_refl _) (Nat.le_refl _)
        obtain ⟨hFs47, h⟩ := h
        have hKs47 : kd s47 = kd σ := hFs47.1.trans (rfl : kd σ = kd σ)
        have hLs47 : Lay s47 := hL.fr hFs47
        refine x_imul (dxX12_laysBody_1 24 rfl) ?_
        refine x_iload (dxX12_laysBody_1 25 rfl) rfl ?_
        refine x_iconst (v := 2) (dxX12_laysBody_1 26 rfl) rfl ?_
        refine x_iadd (dxX12_laysBody_1 27 rfl) ?_
        refine x_iconst (v := 4) (dxX12_laysBody_1 28 rfl) rfl ?_
        refine x_irem (dxX12_laysBody_1 29 rfl) (by decide) ?_
        refine x_iadd (dxX12_laysBody_1 30 rfl) ?_
        refine x_goto (tgt := 122) (dxX12_laysBody_1 31 rfl) (by decide) ?_
        obtain ⟨hi49, h⟩ := h
        refine x_iast (kd_215 hLs47) hi49 (dxX12_laysBody_2 11 rfl) ?_
        refine x_sto (fun s50 e51 => ?_)
        replace h := h s50 e51
        have hKs50 : kd s50 = kd σ := by rw [e51]; exact hKs47
        have hLs50 : Lay s50 := by rw [e51]; exact hLs47.si
        obtain ⟨x52, e53⟩ : ∃ y : Int32, y = l4 + 1 := ⟨_, rfl⟩
        replace h := h x52 e53
        refine x_iinc (v := x52) (dxX12_laysBody_2 12 rfl) (i := 4) rfl (by rw [e53]; rfl) (Nat.le_of_ble_eq_true rfl) rfl rfl ?_
        refine x_goto (tgt := 13) (dxX12_laysBody_2 13 rfl) (by decide) ?_
        refine x_mask [true, true, true, true, true, false, false] (L1 := [some (.ref 179), some (.int l1), some (.int l2), some (.int l3), some (.int x52), none, none]) rfl ?_
        exact h
theorem vcX12_turnAt {g : GV} {d : Nat} {P : Int32 → PS → Prop} {σ : PS} (hL : Lay σ) (p0 : Int32) (p1 : Int32) (h : VX12_turnAt g d P 5 [some (.ref 179), some (.int p0), some (.int p1), some (.int 0), some (.int p1)] [] σ) : CX12_turnAt g d [.ref 179, .int p0, .int p1] σ P := by
  refine x_entry (L := [some (.ref 179), some (.int p0), some (.int p1), none, none]) pn_12 (Nat.le_of_ble_eq_true rfl) ⟨2, rfl⟩ ?_
  show VX12_turnAt g d P 0 [some (.ref 179), some (.int p0), some (.int p1), none, none] [] σ
  refine x_iconst (v := 0) (dxX12_turnAt_0 0 rfl) rfl ?_
  refine x_istore_n (i := 3) (dxX12_turnAt_0 1 rfl) rfl (Nat.le_of_ble_eq_true rfl) rfl rfl ?_
  refine x_iload_n (i := 2) (dxX12_turnAt_0 2 rfl) rfl rfl ?_
  refine x_istore (dxX12_turnAt_0 3 rfl) (Nat.le_of_ble_eq_true rfl) rfl rfl ?_
  exact h
theorem vcX12_turnAt_5 {g : GV} {d : Nat} {P : Int32 → PS → Prop} {σ : PS} (hL : Lay σ) (l1 : Int32) (l2 : Int32) (l3 : Int32) (l4 : Int32) (h : vp_in ((l1 + (4 * (l4 / 4))) + (jrem (l4 + 1) 4)) 80 ∧ ∀ x2 : Int32, x2 = mi σ 215 (Int32.toNatClampNeg ((l1 + (4 * (l4 / 4))) + (jrem (l4 + 1) 4))) → ∀ x4 : Int32, x4 = l3 + 1 → (¬ x2 = l2 → VX12_turnAt g d P 5 [some (.ref 179), some (.int l1), some (.int l2), some (.int x4), some (.int x2)] [] σ) ∧ (x2 = l2 → P x4 σ)) : VX12_turnAt g d P 5 [some (.ref 179), some (.int l1), some (.int l2), some (.int l3), some (.int l4)] [] σ := by
  refine x_aload_n (i := 0) (dxX12_turnAt_0 4 rfl) rfl rfl ?_
  refine gf_12_119 (kd_179 hL) (rv_179_55 hL) (dxX12_turnAt_0 5 rfl) ?_
  refine x_iload_n (i := 1) (dxX12_turnAt_0 6 rfl) rfl rfl ?_
  refine x_iconst (v := 4) (dxX12_turnAt_0 7 rfl) rfl ?_
  refine x_iload (dxX12_turnAt_0 8 rfl) rfl ?_
  refine x_iconst (v := 4) (dxX12_turnAt_0 9 rfl) rfl ?_
  refine x_idiv (dxX12_turnAt_0 10 rfl) (by decide) ?_
  refine x_imul (dxX12_turnAt_0 11 rfl) ?_
  refine x_iadd (dxX12_turnAt_0 12 rfl) ?_
  refine x_iload (dxX12_turnAt_0 13 rfl) rfl ?_
  refine x_iconst (v := 1) (dxX12_turnAt_0 14 rfl) rfl ?_
  refine x_iadd (dxX12_turnAt_0 15 rfl) ?_
  refine x_iconst (v := 4) (dxX12_turnAt_0 16 rfl) rfl ?_
  refine x_irem (dxX12_turnAt_0 17 rfl) (by decide) ?_
  refine x_iadd (dxX12_turnAt_0 18 rfl) ?_
  obtain ⟨hi1, h⟩ := h
  refine x_iald (kd_215 hL) hi1 (dxX12_turnAt_0 19 rfl) ?_
  refine x_topi (fun x2 e3 => ?_)
  replace h := h x2 e3
  refine x_istore (dxX12_turnAt_0 20 rfl) (Nat.le_of_ble_eq_true rfl) rfl rfl ?_
  obtain ⟨x4, e5⟩ : ∃ y : Int32, y = l3 + 1 := ⟨_, rfl⟩
  replace h := h x4 e5
  refine x_iinc (v := x4) (dxX12_turnAt_0 21 rfl) (i := 3) rfl (by rw [e5]; rfl) (Nat.le_of_ble_eq_true rfl) rfl rfl ?_
  refine x_iload (dxX12_turnAt_0 22 rfl) rfl ?_
  refine x_iload_n (i := 2) (dxX12_turnAt_0 23 rfl) rfl rfl ?_
  refine x_icmp_ne (tgt := 5) (dxX12_turnAt_0 24 rfl) (by decide) (fun hc => ?_) (fun hc => ?_)
  · replace h := h.1 hc
    exact h
  · replace h := h.2 hc
    refine x_iload_n (i := 3) (dxX12_turnAt_0 25 rfl) rfl rfl ?_
    exact x_iret (ty := .int) rfl rfl (dxX12_turnAt_0 26 rfl) ⟨_, rfl, h⟩
theorem vcX12_lacking {g : GV} {d : Nat} {P : Int32 → PS → Prop} {σ : PS} (hL : Lay σ) (p0 : Int32) (h : ∀ s1 : PS, s1 = si σ 179 0 0 → CX12_within g d [.int p0, .int 1, .int 3] s1 (fun (v4 : Int32) (s3 : PS) => Fr s1 s3 ∧ (v4 = 0 → P (-1) s3) ∧ (¬ v4 = 0 → CX12_isBody g d [.ref 179] s3 (fun (v6 : Int32) (s5 : PS) => Fr s3 s5 ∧ (¬ v6 = 0 → CX12_laysBody g d [.ref 179, .int 0, .int (-1)] s5 (fun (s7 : PS) => Fr s5 s7 ∧ VX12_lacking g (d + 1) P 33 [some (.ref 179), some (.int p0), some (.int 0), some (.int 0)] [] s7)) ∧ (v6 = 0 → P (-1) s5))))) : CX12_lacking g (d + 1) [.ref 179, .int p0] σ P := by
  refine x_entry (L := [some (.ref 179), some (.int p0), none, none]) pn_12 (Nat.le_of_ble_eq_true rfl) ⟨2, rfl⟩ ?_
  show VX12_lacking g (d + 1) P 0 [some (.ref 179), some (.int p0), none, none] [] σ
  refine x_aload_n (i := 0) (dxX12_lacking_0 0 rfl) rfl rfl ?_
  refine x_iconst (v := 0) (dxX12_lacking_0 1 rfl) rfl ?_
  refine pf_12_184 (kd_179 hL) (dxX12_lacking_0 2 rfl) ?_
  refine x_sto (fun s1 e2 => ?_)
  replace h := h s1 e2
  have hKs1 : kd s1 = kd σ := by rw [e2]; exact (rfl : kd σ = kd σ)
  have hLs1 : Lay s1 := by rw [e2]; exact hL.si
  refine x_iload_n (i := 1) (dxX12_lacking_0 3 rfl) rfl rfl ?_
  refine x_iconst (v := 1) (dxX12_lacking_0 4 rfl) rfl ?_
  refine x_iconst (v := 3) (dxX12_lacking_0 5 rfl) rfl ?_
  refine cl_12_307 (Nat.le_of_ble_eq_true rfl) (dxX12_lacking_0 6 rfl) h (fun v4 s3 h => ?_) (Nat.le_refl _) (Nat.le_refl _)
  obtain ⟨hFs3, h⟩ := h
  have hKs3 : kd s3 = kd σ := hFs3.1.trans hKs1
  have hLs3 : Lay s3 := hLs1.fr hFs3
  refine x_if_eq (tgt := 21) (dxX12_lacking_0 7 rfl) (by decide) (fun hc => ?_) (fun hc => ?_)
  · replace h := h.1 hc
    refine x_iconst (v := (-1)) (dxX12_lacking_0 11 rfl) rfl ?_
    exact x_iret (ty := .int) rfl rfl (dxX12_lacking_0 12 rfl) ⟨_, rfl, h⟩
  · replace h := h.2 hc
    refine x_aload_n (i := 0) (dxX12_lacking_0 8 rfl) rfl rfl ?_
    refine cl_12_420 (kd_179 hLs3) (Nat.le_of_ble_eq_true rfl) (dxX12_lacking_0 9 rfl) h (fun v6 s5 h => ?_) (Nat.le_refl _) (Nat.le_refl _)
    obtain ⟨hFs5, h⟩ := h
    have hKs5 : kd s5 = kd σ := hFs5.1.trans hKs3
    have hLs5 : Lay s5 := hLs3.fr hFs5
    refine x_if_ne (tgt := 23) (dxX12_lacking_0 10 rfl) (by decide) (fun hc => ?_) (fun hc => ?_)
    · replace h := h.1 hc
      refine x_aload_n (i := 0) (dxX12_lacking_0 13 rfl) rfl rfl ?_
      refine x_iconst (v := 0) (dxX12_lacking_0 14 rfl) rfl ?_
      refine x_iconst (v := (-1)) (dxX12_lacking_0 15 rfl) rfl ?_
      refine cl_12_423 (kd_179 hLs5) (Nat.le_of_ble_eq_true rfl) (dxX12_lacking_0 16 rfl) h (fun s7 h => ?_) (Nat.le_refl _) (Nat.le_refl _)
      obtain ⟨hFs7, h⟩ := h
      have hKs7 : kd s7 = kd σ := hFs7.1.trans hKs5
      have hLs7 : Lay s7 := hLs5.fr hFs7
      refine x_iconst (v := 0) (dxX12_lacking_0 17 rfl) rfl ?_
      refine x_istore_n (i := 2) (dxX12_lacking_0 18 rfl) rfl (Nat.le_of_ble_eq_true rfl) rfl rfl ?_
      refine x_iconst (v := 0) (dxX12_lacking_0 19 rfl) rfl ?_
      refine x_istore_n (i := 3) (dxX12_lacking_0 20 rfl) rfl (Nat.le_of_ble_eq_true rfl) rfl rfl ?_
      exact h
    · replace h := h.2 hc
      refine x_iconst (v := (-1)) (dxX12_lacking_0 11 rfl) rfl ?_
      exact x_iret (ty := .int) rfl rfl (dxX12_lacking_0 12 rfl) ⟨_, rfl, h⟩
theorem vcX12_lacking_33 {g : GV} {d : Nat} {P : Int32 → PS → Prop} {σ : PS} (hL : Lay σ) (l1 : Int32) (l2 : Int32) (l3 : Int32) (h : ((4 * (mi σ 179 35)) ≤ l3 → ¬ (4 - l1) = 0 ∧ P (l2 / (4 - l1)) σ) ∧ (¬ (4 * (mi σ 179 35)) ≤ l3 → CX12_turnAt g d [.ref 179, .int 0, .int l3] σ (fun (v11 : Int32) (s10 : PS) => Fr σ s10 ∧ (¬ v11 = (4 - l1) → ∀ x12 : Int32, x12 = l2 + 0 → ∀ x14 : Int32, x14 = l3 + 1 → VX12_lacking g (d + 1) P 33 [some (.ref 179), some (.int l1), some (.int x12), some (.int x14)] [] s10) ∧ (v11 = (4 - l1) → ∀ x16 : Int32, x16 = l2 + 1 → ∀ x18 : Int32, x18 = l3 + 1 → VX12_lacking g (d + 1) P 33 [some (.ref 179), some (.int l1), some (.int x16), some (.int x18)] [] s10)))) : VX12_lacking g (d + 1) P 33 [some (.ref 179), some (.int l1), some (.int l2), some (.int l3)] [] σ := by
  refine x_iload_n (i := 3) (dxX12_lacking_0 21 rfl) rfl rfl ?_
  refine x_iconst (v := 4) (dxX12_lacking_0 22 rfl) rfl ?_
  refine x_aload_n (i := 0) (dxX12_lacking_0 23 rfl) rfl rfl ?_
  refine gf_12_177 (kd_179 hL) rfl (dxX12_lacking_0 24 rfl) ?_
  refine x_imul (dxX12_lacking_0 25 rfl) ?_
  refine x_icmp_ge (tgt := 69) (dxX12_lacking_0 26 rfl) (by decide) (fun hc => ?_) (fun hc => ?_)
  · replace h := h.1 hc
    refine x_iload_n (i := 2) (dxX12_lacking_1 11 rfl) rfl rfl ?_
    refine x_iconst (v := 4) (dxX12_lacking_1 12 rfl) rfl ?_
    refine x_iload_n (i := 1) (dxX12_lacking_1 13 rfl) rfl rfl ?_
    refine x_isub (dxX12_lacking_1 14 rfl) ?_
    obtain ⟨hz9, h⟩ := h
    refine x_idiv (dxX12_lacking_1 15 rfl) hz9 ?_
    exact x_iret (ty := .int) rfl rfl (dxX12_lacking_1 16 rfl) ⟨_, rfl, h⟩
  · replace h := h.2 hc
    refine x_iload_n (i := 2) (dxX12_lacking_0 27 rfl) rfl rfl ?_
    refine x_aload_n (i := 0) (dxX12_lacking_0 28 rfl) rfl rfl ?_
    refine x_iconst (v := 0) (dxX12_lacking_0 29 rfl) rfl ?_
    refine x_iload_n (i := 3) (dxX12_lacking_0 30 rfl) rfl rfl ?_
    refine cl_12_426 (kd_179 hL) (Nat.le_of_ble_eq_true rfl) (dxX12_lacking_0 31 rfl) h (fun v11 s10 h => ?_) (Nat.le_refl _) (Nat.le_refl _)
    obtain ⟨hFs10, h⟩ := h
    have hKs10 : kd s10 = kd σ := hFs10.1.trans (rfl : kd σ = kd σ)
    have hLs10 : Lay s10 := hL.fr hFs10
    refine x_iconst (v := 4) (dxX12_lacking_1 0 rfl) rfl ?_
    refine x_iload_n (i := 1) (dxX12_lacking_1 1 rfl) rfl rfl ?_
    refine x_isub (dxX12_lacking_1 2 rfl) ?_
    refine x_icmp_ne (tgt := 60) (dxX12_lacking_1 3 rfl) (by decide) (fun hc => ?_) (fun hc => ?_)
    · replace h := h.1 hc
      refine x_iconst (v := 0) (dxX12_lacking_1 6 rfl) rfl ?_
      refine x_iadd (dxX12_lacking_1 7 rfl) ?_
      refine x_topi (fun x12 e13 => ?_)
      replace h := h x12 e13
      refine x_istore_n (i := 2) (dxX12_lacking_1 8 rfl) rfl (Nat.le_of_ble_eq_true rfl) rfl rfl ?_
      obtain ⟨x14, e15⟩ : ∃ y : Int32, y = l3 + 1 := ⟨_, rfl⟩
      replace h := h x14 e15
      refine x_iinc (v := x14) (dxX12_lacking_1 9 rfl) (i := 3) rfl (by rw [e15]; rfl) (Nat.le_of_ble_eq_true rfl) rfl rfl ?_
      refine x_goto (tgt := 33) (dxX12_lacking_1 10 rfl) (by decide) ?_
      exact h
    · replace h := h.2 hc
      refine x_iconst (v := 1) (dxX12_lacking_1 4 rfl) rfl ?_
      refine x_goto (tgt := 61) (dxX12_lacking_1 5 rfl) (by decide) ?_
      refine x_iadd (dxX12_lacking_1 7 rfl) ?_
      refine x_topi (fun x16 e17 => ?_)
      replace h := h x16 e17
      refine x_istore_n (i := 2) (dxX12_lacking_1 8 rfl) rfl (Nat.le_of_ble_eq_true rfl) rfl rfl ?_
      obtain ⟨x18, e19⟩ : ∃ y : Int32, y = l3 + 1 := ⟨_, rfl⟩
      replace h := h x18 e19
      refine x_iinc (v := x18) (dxX12_lacking_1 9 rfl) (i := 3) rfl (by rw [e19]; rfl) (Nat.le_of_ble_eq_true rfl) rfl rfl ?_
      refine x_goto (tgt := 33) (dxX12_lacking_1 10 rfl) (by decide) ?_
      exact h
