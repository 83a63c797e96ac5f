theorem vcX12_does_234 {g : GV} {d : Nat} {P : Int32 → PS → Prop} {σ : PS} (hL : Lay σ) (l1 : Int32) (l2 : Int32) (l3 : Int32) (l4 : Int32) (l5 : Int32) (l6 : Int32) (h : ((l3 + l5) ≤ l6 → ((mi σ 179 34) ≤ 10 → P 1 σ) ∧ (¬ (mi σ 179 34) ≤ 10 → vp_in l1 200 ∧ CX12_wrongAt g d [.ref 179, .int 7, .int (mi σ 183 (Int32.toNatClampNeg l1))] σ (fun (v64 : Int32) (s63 : PS) => Fr σ s63 ∧ (v64 = 0 → P 0 s63) ∧ (¬ v64 = 0 → P 1 s63)))) ∧ (¬ (l3 + l5) ≤ l6 → VX12_does g (d + 1) P 246 [some (.ref 179), some (.int l1), some (.int l2), some (.int l3), some (.int l4), some (.int l5), some (.int l6), some (.int l2)] [] σ)) : VX12_does g (d + 1) P 234 [some (.ref 179), some (.int l1), some (.int l2), some (.int l3), some (.int l4), some (.int l5), some (.int l6), none] [] σ := by
  refine x_iload (dxX12_does_4 16 rfl) rfl ?_
  refine x_iload_n (i := 3) (dxX12_does_4 17 rfl) rfl rfl ?_
  refine x_iload (dxX12_does_4 18 rfl) rfl ?_
  refine x_iadd (dxX12_does_4 19 rfl) ?_
  refine x_icmp_ge (tgt := 311) (dxX12_does_4 20 rfl) (by decide) (fun hc => ?_) (fun hc => ?_)
  · replace h := h.1 hc
    refine x_aload_n (i := 0) (dxX12_does_5 26 rfl) rfl rfl ?_
    refine gf_12_315 (kd_179 hL) rfl (dxX12_does_5 27 rfl) ?_
    refine x_bipush (v := 10) (dxX12_does_5 28 rfl) rfl ?_
    refine x_icmp_le (tgt := 335) (dxX12_does_5 29 rfl) (by decide) (fun hc => ?_) (fun hc => ?_)
    · replace h := h.1 hc
      refine x_iconst (v := 1) (dxX12_does_6 6 rfl) rfl ?_
      refine x_goto (tgt := 340) (dxX12_does_6 7 rfl) (by decide) ?_
      exact x_iret (ty := .boolean) rfl rfl (dxX12_does_6 9 rfl) ⟨_, rfl, h⟩
    · replace h := h.2 hc
      refine x_aload_n (i := 0) (dxX12_does_5 30 rfl) rfl rfl ?_
      refine x_bipush (v := 7) (dxX12_does_5 31 rfl) rfl ?_
      refine x_aload_n (i := 0) (dxX12_does_6 0 rfl) rfl rfl ?_
      refine gf_12_19 (kd_179 hL) (rv_179_13 hL) (dxX12_does_6 1 rfl) ?_
      refine x_iload_n (i := 1) (dxX12_does_6 2 rfl) rfl rfl ?_
      obtain ⟨hi62, h⟩ := h
      refine x_iald (kd_183 hL) hi62 (dxX12_does_6 3 rfl) ?_
      refine cl_12_311 (kd_179 hL) (Nat.le_of_ble_eq_true rfl) (dxX12_does_6 4 rfl) h (fun v64 s63 h => ?_) (Nat.le_refl _) (Nat.le_refl _)
      obtain ⟨hFs63, h⟩ := h
      have hKs63 : kd s63 = kd σ := hFs63.1.trans (rfl : kd σ = kd σ)
      have hLs63 : Lay s63 := hL.fr hFs63
      refine x_if_eq (tgt := 339) (dxX12_does_6 5 rfl) (by decide) (fun hc => ?_) (fun hc => ?_)
      · replace h := h.1 hc
        refine x_iconst (v := 0) (dxX12_does_6 8 rfl) rfl ?_
        exact x_iret (ty := .boolean) rfl rfl (dxX12_does_6 9 rfl) ⟨_, rfl, h⟩
      · replace h := h.2 hc
        refine x_iconst (v := 1) (dxX12_does_6 6 rfl) rfl ?_
        refine x_goto (tgt := 340) (dxX12_does_6 7 rfl) (by decide) ?_
        exact x_iret (ty := .boolean) rfl rfl (dxX12_does_6 9 rfl) ⟨_, rfl, h⟩
  · replace h := h.2 hc
    refine x_iload_n (i := 2) (dxX12_does_4 21 rfl) rfl rfl ?_
    refine x_istore (dxX12_does_4 22 rfl) (Nat.le_of_ble_eq_true rfl) rfl rfl ?_
    exact h
theorem vcX12_does_246 {g : GV} {d : Nat} {P : Int32 → PS → Prop} {σ : PS} (hL : Lay σ) (l1 : Int32) (l2 : Int32) (l3 : Int32) (l4 : Int32) (l5 : Int32) (l6 : Int32) (l7 : Int32) (h : ((l2 + l4) ≤ l7 → ∀ x65 : Int32, x65 = l6 + 1 → VX12_does g (d + 1) P 234 [some (.ref 179), some (.int l1), some (.int l2), some (.int l3), some (.int l4), some (.int l5), some (.int x65), none] [] σ) ∧ (¬ (l2 + l4) ≤ l7 → vp_in ((16 * l6) + l7) 256 ∧ ((mi σ 200 (Int32.toNatClampNeg ((16 * l6) + l7))) = 0 → ∀ s68 : PS, s68 = si σ 179 34 ((mi σ 179 34) + 1) → vp_in ((16 * l6) + l7) 256 ∧ ∀ s71 : PS, s71 = si s68 200 (Int32.toNatClampNeg ((16 * l6) + l7)) (vp_nar .boolean 1) → ∀ x73 : Int32, x73 = l7 + 1 → VX12_does g (d + 1) P 246 [some (.ref 179), some (.int l1), some (.int l2), some (.int l3), some (.int l4), some (.int l5), some (.int l6), some (.int x73)] [] s71) ∧ (¬ (mi σ 200 (Int32.toNatClampNeg ((16 * l6) + l7))) = 0 → ∀ s75 : PS, s75 = si σ 179 34 ((mi σ 179 34) + 0) → vp_in ((16 * l6) + l7) 256 ∧ ∀ s78 : PS, s78 = si s75 200 (Int32.toNatClampNeg ((16 * l6) + l7)) (vp_nar .boolean 1) → ∀ x80 : Int32, x80 = l7 + 1 → VX12_does g (d + 1) P 246 [some (.ref 179), some (.int l1), some (.int l2), some (.int l3), some (.int l4), some (.int l5), some (.int l6), some (.int x80)] [] s78))) : VX12_does g (d + 1) P 246 [some (.ref 179), some (.int l1), some (.int l2), some (.int l3), some (.int l4), some (.int l5), some (.int l6), some (.int l7)] [] σ := by
  refine x_iload (dxX12_does_4 23 rfl) rfl ?_
  refine x_iload_n (i := 2) (dxX12_does_4 24 rfl) rfl rfl ?_
  refine x_iload (dxX12_does_4 25 rfl) rfl ?_
  refine x_iadd (dxX12_does_4 26 rfl) ?_
  refine x_icmp_ge (tgt := 305) (dxX12_does_4 27 rfl) (by decide) (fun hc => ?_) (fun hc => ?_)
  · replace h := h.1 hc
    obtain ⟨x65, e66⟩ : ∃ y : Int32, y = l6 + 1 := ⟨_, rfl⟩
    replace h := h x65 e66
    refine x_iinc (v := x65) (dxX12_does_5 24 rfl) (i := 6) rfl (by rw [e66]; rfl) (Nat.le_of_ble_eq_true rfl) rfl rfl ?_
    refine x_goto (tgt := 234) (dxX12_does_5 25 rfl) (by decide) ?_
    refine x_mask [true, true, true, true, true, true, true, false] (L1 := [some (.ref 179), some (.int l1), some (.int l2), some (.int l3), some (.int l4), some (.int l5), some (.int x65), none]) rfl ?_
    exact h
  · replace h := h.2 hc
    refine x_aload_n (i := 0) (dxX12_does_4 28 rfl) rfl rfl ?_
    refine x_dup (dxX12_does_4 29 rfl) rfl ?_
    refine gf_12_315 (kd_179 hL) rfl (dxX12_does_4 30 rfl) ?_
    refine x_aload_n (i := 0) (dxX12_does_4 31 rfl) rfl rfl ?_
    refine gf_12_71 (kd_179 hL) (rv_179_33 hL) (dxX12_does_5 0 rfl) ?_
    refine x_bipush (v := 16) (dxX12_does_5 1 rfl) rfl ?_
    refine x_iload (dxX12_does_5 2 rfl) rfl ?_
    refine x_imul (dxX12_does_5 3 rfl) ?_
    refine x_iload (dxX12_does_5 4 rfl) rfl ?_
    refine x_iadd (dxX12_does_5 5 rfl) ?_
    obtain ⟨hi67, h⟩ := h
    refine x_zald (kd_200 hL) hi67 (dxX12_does_5 6 rfl) ?_
    refine x_if_eq (tgt := 280) (dxX12_does_5 7 rfl) (by decide) (fun hc => ?_) (fun hc => ?_)
    · replace h := h.1 hc
      refine x_iconst (v := 1) (dxX12_does_5 10 rfl) rfl ?_
      refine x_iadd (dxX12_does_5 11 rfl) ?_
      refine pf_12_315 (kd_179 hL) (dxX12_does_5 12 rfl) ?_
      refine x_sto (fun s68 e69 => ?_)
      replace h := h s68 e69
      have hKs68 : kd s68 = kd σ := by rw [e69]; exact (rfl : kd σ = kd σ)
      have hLs68 : Lay s68 := by rw [e69]; exact hL.si
      refine x_aload_n (i := 0) (dxX12_does_5 13 rfl) rfl rfl ?_
      refine gf_12_71 (kd_179 hLs68) (rv_179_33 hLs68) (dxX12_does_5 14 rfl) ?_
      refine x_bipush (v := 16) (dxX12_does_5 15 rfl) rfl ?_
      refine x_iload (dxX12_does_5 16 rfl) rfl ?_
      refine x_imul (dxX12_does_5 17 rfl) ?_
      refine x_iload (dxX12_does_5 18 rfl) rfl ?_
      refine x_iadd (dxX12_does_5 19 rfl) ?_
      refine x_iconst (v := 1) (dxX12_does_5 20 rfl) rfl ?_
      obtain ⟨hi70, h⟩ := h
      refine x_zast (kd_200 hLs68) hi70 (dxX12_does_5 21 rfl) ?_
      refine x_sto (fun s71 e72 => ?_)
      replace h := h s71 e72
      have hKs71 : kd s71 = kd σ := by rw [e72]; exact hKs68
      have hLs71 : Lay s71 := by rw [e72]; exact hLs68.si
      obtain ⟨x73, e74⟩ : ∃ y : Int32, y = l7 + 1 := ⟨_, rfl⟩
      replace h := h x73 e74
      refine x_iinc (v := x73) (dxX12_does_5 22 rfl) (i := 7) rfl (by rw [e74]; rfl) (Nat.le_of_ble_eq_true rfl) rfl rfl ?_
      refine x_goto (tgt := 246) (dxX12_does_5 23 rfl) (by decide) ?_
      exact h
    · replace h := h.2 hc
      refine x_iconst (v := 0) (dxX12_does_5 8 rfl) rfl ?_
      refine x_goto (tgt := 281) (dxX12_does_5 9 rfl) (by decide) ?_
      refine x_iadd (dxX12_does_5 11 rfl) ?_
      refine pf_12_315 (kd_179 hL) (dxX12_does_5 12 rfl) ?_
      refine x_sto (fun s75 e76 => ?_)
      replace h := h s75 e76
      have hKs75 : kd s75 = kd σ := by rw [e76]; exact (rfl : kd σ = kd σ)
      have hLs75 : Lay s75 := by rw [e76]; exact hL.si
      refine x_aload_n (i := 0) (dxX12_does_5 13 rfl) rfl rfl ?_
      refine gf_12_71 (kd_179 hLs75) (rv_179_33 hLs75) (dxX12_does_5 14 rfl) ?_
      refine x_bipush (v := 16) (dxX12_does_5 15 rfl) rfl ?_
      refine x_iload (dxX12_does_5 16 rfl) rfl ?_
      refine x_imul (dxX12_does_5 17 rfl) ?_
      refine x_iload (dxX12_does_5 18 rfl) rfl ?_
      refine x_iadd (dxX12_does_5 19 rfl) ?_
      refine x_iconst (v := 1) (dxX12_does_5 20 rfl) rfl ?_
      obtain ⟨hi77, h⟩ := h
      refine x_zast (kd_200 hLs75) hi77 (dxX12_does_5 21 rfl) ?_
      refine x_sto (fun s78 e79 => ?_)
      replace h := h s78 e79
      have hKs78 : kd s78 = kd σ := by rw [e79]; exact hKs75
      have hLs78 : Lay s78 := by rw [e79]; exact hLs75.si
      obtain ⟨x80, e81⟩ : ∃ y : Int32, y = l7 + 1 := ⟨_, rfl⟩
      replace h := h x80 e81
      refine x_iinc (v := x80) (dxX12_does_5 22 rfl) (i := 7) rfl (by rw [e81]; rfl) (Nat.le_of_ble_eq_true rfl) rfl rfl ?_
      refine x_goto (tgt := 246) (dxX12_does_5 23 rfl) (by decide) ?_
      exact h
theorem vcX12_works {g : GV} {d : Nat} {P : Int32 → PS → Prop} {σ : PS} (hL : Lay σ)  (h : ∀ s1 : PS, s1 = si σ 179 34 0 → VX12_works g (d + 1) P 7 [some (.ref 179), some (.int 0), none, none, none, none] [] s1) : CX12_works g (d + 1) [.ref 179] σ P := by
  refine x_entry (L := [some (.ref 179), none, none, none, none, none]) pn_12 (Nat.le_of_ble_eq_true rfl) ⟨5, rfl⟩ ?_
  show VX12_works g (d + 1) P 0 [some (.ref 179), none, none, none, none, none] [] σ
  refine x_aload_n (i := 0) (dxX12_works_0 0 rfl) rfl rfl ?_
  refine x_iconst (v := 0) (dxX12_works_0 1 rfl) rfl ?_
  refine pf_12_315 (kd_179 hL) (dxX12_works_0 2 rfl) ?_
  refine x_sto (fun s1 e2 => ?_)
  replace h := h s1 e2
  have hKs1 : kd s1 = kd σ := by rw [e2]; exact (rfl : kd σ = kd σ)
  have hLs1 : Lay s1 := by rw [e2]; exact hL.si
  refine x_iconst (v := 0) (dxX12_works_0 3 rfl) rfl ?_
  refine x_istore_n (i := 1) (dxX12_works_0 4 rfl) rfl (Nat.le_of_ble_eq_true rfl) rfl rfl ?_
  exact h
theorem vcX12_works_7 {g : GV} {d : Nat} {P : Int32 → PS → Prop} {σ : PS} (hL : Lay σ) (l1 : Int32) (h : (256 ≤ l1 → VX12_works g (d + 1) P 29 [some (.ref 179), some (.int 0), none, none, none, none] [] σ) ∧ (¬ 256 ≤ l1 → vp_in l1 256 ∧ ∀ s4 : PS, s4 = si σ 200 (Int32.toNatClampNeg l1) (vp_nar .boolean 0) → ∀ x6 : Int32, x6 = l1 + 1 → VX12_works g (d + 1) P 7 [some (.ref 179), some (.int x6), none, none, none, none] [] s4)) : VX12_works g (d + 1) P 7 [some (.ref 179), some (.int l1), none, none, none, none] [] σ := by
  refine x_iload_n (i := 1) (dxX12_works_0 5 rfl) rfl rfl ?_
  refine x_sipush (v := 256) (dxX12_works_0 6 rfl) rfl ?_
  refine x_icmp_ge (tgt := 27) (dxX12_works_0 7 rfl) (by decide) (fun hc => ?_) (fun hc => ?_)
  · replace h := h.1 hc
    refine x_iconst (v := 0) (dxX12_works_0 15 rfl) rfl ?_
    refine x_istore_n (i := 1) (dxX12_works_0 16 rfl) rfl (Nat.le_of_ble_eq_true rfl) rfl rfl ?_
    exact h
  · replace h := h.2 hc
    refine x_aload_n (i := 0) (dxX12_works_0 8 rfl) rfl rfl ?_
    refine gf_12_71 (kd_179 hL) (rv_179_33 hL) (dxX12_works_0 9 rfl) ?_
    refine x_iload_n (i := 1) (dxX12_works_0 10 rfl) rfl rfl ?_
    refine x_iconst (v := 0) (dxX12_works_0 11 rfl) rfl ?_
    obtain ⟨hi3, h⟩ := h
    refine x_zast (kd_200 hL) hi3 (dxX12_works_0 12 rfl) ?_
    refine x_sto (fun s4 e5 => ?_)
    replace h := h s4 e5
    have hKs4 : kd s4 = kd σ := by rw [e5]; exact (rfl : kd σ = kd σ)
    have hLs4 : Lay s4 := by rw [e5]; exact hL.si
    obtain ⟨x6, e7⟩ : ∃ y : Int32, y = l1 + 1 := ⟨_, rfl⟩
    replace h := h x6 e7
    refine x_iinc (v := x6) (dxX12_works_0 13 rfl) (i := 1) rfl (by rw [e7]; rfl) (Nat.le_of_ble_eq_true rfl) rfl rfl ?_
    refine x_goto (tgt := 7) (dxX12_works_0 14 rfl) (by decide) ?_
    exact h
theorem vcX12_works_29 {g : GV} {d : Nat} {P : Int32 → PS → Prop} {σ : PS} (hL : Lay σ) (l1 : Int32) (h : (9 ≤ l1 → VX12_works g (d + 1) P 50 [some (.ref 179), some (.int 0), none, none, none, none] [] σ) ∧ (¬ 9 ≤ l1 → vp_in l1 20 ∧ ∀ s9 : PS, s9 = si σ 199 (Int32.toNatClampNeg l1) 0 → ∀ x11 : Int32, x11 = l1 + 1 → VX12_works g (d + 1) P 29 [some (.ref 179), some (.int x11), none, none, none, none] [] s9)) : VX12_works g (d + 1) P 29 [some (.ref 179), some (.int l1), none, none, none, none] [] σ := by
  refine x_iload_n (i := 1) (dxX12_works_0 17 rfl) rfl rfl ?_
  refine x_bipush (v := 9) (dxX12_works_0 18 rfl) rfl ?_
  refine x_icmp_ge (tgt := 48) (dxX12_works_0 19 rfl) (by decide) (fun hc => ?_) (fun hc => ?_)
  · replace h := h.1 hc
    refine x_iconst (v := 0) (dxX12_works_0 27 rfl) rfl ?_
    refine x_istore_n (i := 1) (dxX12_works_0 28 rfl) rfl (Nat.le_of_ble_eq_true rfl) rfl rfl ?_
    exact h
  · replace h := h.2 hc
    refine x_aload_n (i := 0) (dxX12_works_0 20 rfl) rfl rfl ?_
    refine gf_12_68 (kd_179 hL) (rv_179_31 hL) (dxX12_works_0 21 rfl) ?_
    refine x_iload_n (i := 1) (dxX12_works_0 22 rfl) rfl rfl ?_
    refine x_iconst (v := 0) (dxX12_works_0 23 rfl) rfl ?_
    obtain ⟨hi8, h⟩ := h
    refine x_iast (kd_199 hL) hi8 (dxX12_works_0 24 rfl) ?_
    refine x_sto (fun s9 e10 => ?_)
    replace h := h s9 e10
    have hKs9 : kd s9 = kd σ := by rw [e10]; exact (rfl : kd σ = kd σ)
    have hLs9 : Lay s9 := by rw [e10]; exact hL.si
    obtain ⟨x11, e12⟩ : ∃ y : Int32, y = l1 + 1 := ⟨_, rfl⟩
    replace h := h x11 e12
    refine x_iinc (v := x11) (dxX12_works_0 25 rfl) (i := 1) rfl (by rw [e12]; rfl) (Nat.le_of_ble_eq_true rfl) rfl rfl ?_
    refine x_goto (tgt := 29) (dxX12_works_0 26 rfl) (by decide) ?_
    exact h
theorem vcX12_works_50 {g : GV} {d : Nat} {P : Int32 → PS → Prop} {σ : PS} (hL : Lay σ) (l1 : Int32) (h : ((mi σ 179 10) ≤ l1 → P 1 σ) ∧ (¬ (mi σ 179 10) ≤ l1 → vp_in l1 200 ∧ (0 ≤ (mi σ 184 (Int32.toNatClampNeg l1)) → CX12_worked g d [.ref 179, .int ((6 * l1) + 4)] σ (fun (v15 : Int32) (s14 : PS) => Fr σ s14 ∧ CX12_worked g d [.ref 179, .int ((6 * l1) + 5)] s14 (fun (v17 : Int32) (s16 : PS) => Fr s14 s16 ∧ ∀ x18 : Int64, x18 = ((Int32.toInt64 v17) - (Int32.toInt64 v15)) + 1 → ((lg_cmp x18 64) ≤ 0 → VX12_works g (d + 1) P 128 [some (.ref 179), some (.int l1), some (.int v15), some (.long x18), none, some (.int 0)] [] s16) ∧ (¬ (lg_cmp x18 64) ≤ 0 → vp_in l1 200 ∧ CX12_wrongAt g d [.ref 179, .int 4, .int (mi s16 185 (Int32.toNatClampNeg l1))] s16 (fun (v22 : Int32) (s21 : PS) => Fr s16 s21 ∧ (v22 = 0 ∨ v22 = 1) ∧ P v22 s21))))) ∧ (¬ 0 ≤ (mi σ 184 (Int32.toNatClampNeg l1)) → CX12_does g d [.ref 179, .int l1] σ (fun (v25 : Int32) (s24 : PS) => Fr σ s24 ∧ (¬ v25 = 0 → ∀ x26 : Int32, x26 = l1 + 1 → VX12_works g (d + 1) P 50 [some (.ref 179), some (.int x26), none, none, none, none] [] s24) ∧ (v25 = 0 → P 0 s24))))) : VX12_works g (d + 1) P 50 [some (.ref 179), some (.int l1), none, none, none, none] [] σ := by
  refine x_iload_n (i := 1) (dxX12_works_0 29 rfl) rfl rfl ?_
  refine x_aload_n (i := 0) (dxX12_works_0 30 rfl) rfl rfl ?_
  refine gf_12_282 (kd_179 hL) rfl (dxX12_works_0 31 rfl) ?_
  refine x_icmp_ge (tgt := 175) (dxX12_works_1 0 rfl) (by decide) (fun hc => ?_) (fun hc => ?_)
  · replace h := h.1 hc
    refine x_iconst (v := 1) (dxX12_works_3 11 rfl) rfl ?_
    exact x_iret (ty := .boolean) rfl rfl (dxX12_works_3 12 rfl) ⟨_, rfl, h⟩
  · replace h := h.2 hc
    refine x_aload_n (i := 0) (dxX12_works_1 1 rfl) rfl rfl ?_
    refine gf_12_22 (kd_179 hL) (rv_179_14 hL) (dxX12_works_1 2 rfl) ?_
    refine x_iload_n (i := 1) (dxX12_works_1 3 rfl) rfl rfl ?_
    obtain ⟨hi13, h⟩ := h
    refine x_iald (kd_184 hL) hi13 (dxX12_works_1 4 rfl) ?_
    refine x_if_ge (tgt := 77) (dxX12_works_1 5 rfl) (by decide) (fun hc => ?_) (fun hc => ?_)
    · replace h := h.1 hc
      refine x_aload_n (i := 0) (dxX12_works_1 12 rfl) rfl rfl ?_
      refine x_bipush (v := 6) (dxX12_works_1 13 rfl) rfl ?_
      refine x_iload_n (i := 1) (dxX12_works_1 14 rfl) rfl rfl ?_
      refine x_imul (dxX12_works_1 15 rfl) ?_
      refine x_iconst (v := 4) (dxX12_works_1 16 rfl) rfl ?_
      refine x_iadd (dxX12_works_1 17 rfl) ?_
      refine cl_12_304 (kd_179 hL) (Nat.le_of_ble_eq_true rfl) (dxX12_works_1 18 rfl) h (fun v15 s14 h => ?_) (Nat.le_refl _) (Nat.le_refl _)
      obtain ⟨hFs14, h⟩ := h
      have hKs14 : kd s14 = kd σ := hFs14.1.trans (rfl : kd σ = kd σ)
      have hLs14 : Lay s14 := hL.fr hFs14
      refine x_istore_n (i := 2) (dxX12_works_1 19 rfl) rfl (Nat.le_of_ble_eq_true rfl) rfl rfl ?_
      refine x_aload_n (i := 0) (dxX12_works_1 20 rfl) rfl rfl ?_
      refine x_bipush (v := 6) (dxX12_works_1 21 rfl) rfl ?_
      refine x_iload_n (i := 1) (dxX12_works_1 22 rfl) rfl rfl ?_
      refine x_imul (dxX12_works_1 23 rfl) ?_
      refine x_iconst (v := 5) (dxX12_works_1 24 rfl) rfl ?_
      refine x_iadd (dxX12_works_1 25 rfl) ?_
      refine cl_12_304 (kd_179 hLs14) (Nat.le_of_ble_eq_true rfl) (dxX12_works_1 26 rfl) h (fun v17 s16 h => ?_) (Nat.le_refl _) (Nat.le_refl _)
      obtain ⟨hFs16, h⟩ := h
      have hKs16 : kd s16 = kd σ := hFs16.1.trans hKs14
      have hLs16 : Lay s16 := hLs14.fr hFs16
      refine x_i2l (dxX12_works_1 27 rfl) ?_
      refine x_iload_n (i := 2) (dxX12_works_1 28 rfl) rfl rfl ?_
      refine x_i2l (dxX12_works_1 29 rfl) ?_
      refine x_lsub (dxX12_works_1 30 rfl) ?_
      refine x_lconst (v := 1) (dxX12_works_1 31 rfl) rfl ?_
      refine x_ladd (dxX12_works_2 0 rfl) ?_
      refine x_topl (fun x18 e19 => ?_)
      replace h := h x18 e19
      refine x_lstore_n (i := 3) (dxX12_works_2 1 rfl) rfl (Nat.le_of_ble_eq_true rfl) rfl rfl ?_
      refine x_lload_n (i := 3) (dxX12_works_2 2 rfl) rfl rfl ?_
      refine x_ldc2 (dxX12_works_2 3 rfl) gw_1595 ?_
      refine x_lcmp (dxX12_works_2 4 rfl) ?_
      refine x_if_le (tgt := 125) (dxX12_works_2 5 rfl) (by decide) (fun hc => ?_) (fun hc => ?_)
      · replace h := h.1 hc
        refine x_iconst (v := 0) (dxX12_works_2 14 rfl) rfl ?_
        refine x_istore (dxX12_works_2 15 rfl) (Nat.le_of_ble_eq_true rfl) rfl rfl ?_
        exact h
      · replace h := h.2 hc
        refine x_aload_n (i := 0) (dxX12_works_2 6 rfl) rfl rfl ?_
        refine x_iconst (v := 4) (dxX12_works_2 7 rfl) rfl ?_
        refine x_aload_n (i := 0) (dxX12_works_2 8 rfl) rfl rfl ?_
        refine gf_12_25 (kd_179 hLs16) (rv_179_15 hLs16) (dxX12_works_2 9 rfl) ?_
        refine x_iload_n (i := 1) (dxX12_works_2 10 rfl) rfl rfl ?_
        obtain ⟨hi20, h⟩ := h
        refine x_iald (kd_185 hLs16) hi20 (dxX12_works_2 11 rfl) ?_
        refine cl_12_311 (kd_179 hLs16) (Nat.le_of_ble_eq_true rfl) (dxX12_works_2 12 rfl) h (fun v22 s21 h => ?_) (Nat.le_refl _) (Nat.le_refl _)
        obtain ⟨hFs21, h⟩ := h
        have hKs21 : kd s21 = kd σ := hFs21.1.trans hKs16
        have hLs21 : Lay s21 := hLs16.fr hFs21
        obtain ⟨hb23, h⟩ := h
        exact x_iret (ty := .boolean) rfl (nb01 hb23) (dxX12_works_2 13 rfl) ⟨_, rfl, h⟩
    · replace h := h.2 hc
      refine x_aload_n (i := 0) (dxX12_works_1 6 rfl) rfl rfl ?_
      refine x_iload_n (i := 1) (dxX12_works_1 7 rfl) rfl rfl ?_
      refine cl_12_318 (kd_179 hL) (Nat.le_of_ble_eq_true rfl) (dxX12_works_1 8 rfl) h (fun v25 s24 h => ?_) (Nat.le_refl _) (Nat.le_refl _)
      obtain ⟨hFs24, h⟩ := h
      have hKs24 : kd s24 = kd σ := hFs24.1.trans (rfl : kd σ = kd σ)
      have hLs24 : Lay s24 := hL.fr hFs24
      refine x_if_ne (tgt := 169) (dxX12_works_1 9 rfl) (by decide) (fun hc => ?_) (fun hc => ?_)
      · replace h := h.1 hc
        obtain ⟨x26, e27⟩ : ∃ y : Int32, y = l1 + 1 := ⟨_, rfl⟩
        replace h := h x26 e27
        refine x_iinc (v := x26) (dxX12_works_3 9 rfl) (i := 1) rfl (by rw [e27]; rfl) (Nat.le_of_ble_eq_true rfl) rfl rfl ?_
        refine x_goto (tgt := 50) (dxX12_works_3 10 rfl) (by decide) ?_
        exact h
      · replace h := h.2 hc
        refine x_iconst (v := 0) (dxX12_works_1 10 rfl) rfl ?_
        exact x_iret (ty := .boolean) rfl rfl (dxX12_works_1 11 rfl) ⟨_, rfl, h⟩
theorem vcX12_works_128 {g : GV} {d : Nat} {P : Int32 → PS → Prop} {σ : PS} (hL : Lay σ) (l1 : Int32) (l2 : Int32) (l3 : Int64) (l5 : Int32) (h : (0 ≤ (lg_cmp (Int32.toInt64 l5) l3) → ∀ x28 : Int32, x28 = l1 + 1 → VX12_works g (d + 1) P 50 [some (.ref 179), some (.int x28), none, none, none, none] [] σ) ∧ (¬ 0 ≤ (lg_cmp (Int32.toInt64 l5) l3) → vp_in l1 200 ∧ vp_in (1 + (mi σ 184 (Int32.toNatClampNeg l1))) 20 ∧ ∀ s32 : PS, s32 = si σ 199 (Int32.toNatClampNeg (1 + (mi σ 184 (Int32.toNatClampNeg l1)))) (l2 + l5) → CX12_does g d [.ref 179, .int l1] s32 (fun (v35 : Int32) (s34 : PS) => Fr s32 s34 ∧ (¬ v35 = 0 → ∀ x36 : Int32, x36 = l5 + 1 → VX12_works g (d + 1) P 128 [some (.ref 179), some (.int l1), some (.int l2), some (.long l3), none, some (.int x36)] [] s34) ∧ (v35 = 0 → P 0 s34)))) : VX12_works g (d + 1) P 128 [some (.ref 179), some (.int l1), some (.int l2), some (.long l3), none, some (.int l5)] [] σ := by
  refine x_iload (dxX12_works_2 16 rfl) rfl ?_
  refine x_i2l (dxX12_works_2 17 rfl) ?_
  refine x_lload_n (i := 3) (dxX12_works_2 18 rfl) rfl rfl ?_
  refine x_lcmp (dxX12_works_2 19 rfl) ?_
  refine x_if_ge (tgt := 169) (dxX12_works_2 20 rfl) (by decide) (fun hc => ?_) (fun hc => ?_)
  · replace h := h.1 hc
    obtain ⟨x28, e29⟩ : ∃ y : Int32, y = l1 + 1 := ⟨_, rfl⟩
    replace h := h x28 e29
    refine x_iinc (v := x28) (dxX12_works_3 9 rfl) (i := 1) rfl (by rw [e29]; rfl) (Nat.le_of_ble_eq_true rfl) rfl rfl ?_
    refine x_goto (tgt := 50) (dxX12_works_3 10 rfl) (by decide) ?_
    refine x_mask [true, true, false, false, false, false] (L1 := [some (.ref 179), some (.int x28), none, none, none, none]) rfl ?_
    exact h
  · replace h := h.2 hc
    refine x_aload_n (i := 0) (dxX12_works_2 21 rfl) rfl rfl ?_
    refine gf_12_68 (kd_179 hL) (rv_179_31 hL) (dxX12_works_2 22 rfl) ?_
    refine x_iconst (v := 1) (dxX12_works_2 23 rfl) rfl ?_
    refine x_aload_n (i := 0) (dxX12_works_2 24 rfl) rfl rfl ?_
    refine gf_12_22 (kd_179 hL) (rv_179_14 hL) (dxX12_works_2 25 rfl) ?_
    refine x_iload_n (i := 1) (dxX12_works_2 26 rfl) rfl rfl ?_
    obtain ⟨hi30, h⟩ := h
    refine x_iald (kd_184 hL) hi30 (dxX12_works_2 27 rfl) ?_
    refine x_iadd (dxX12_works_2 28 rfl) ?_
    refine x_iload_n (i := 2) (dxX12_works_2 29 rfl) rfl rfl ?_
    refine x_iload (dxX12_works_2 30 rfl) rfl ?_
    refine x_iadd (dxX12_works_2 31 rfl) ?_
    obtain ⟨hi31, h⟩ := h
    refine x_iast (kd_199 hL) hi31 (dxX12_works_3 0 rfl) ?_
    refine x_sto (fun s32 e33 => ?_)
    replace h := h s32 e33
    have hKs32 : kd s32 = kd σ := by rw [e33]; exact (rfl : kd σ = kd σ)
    have hLs32 : Lay s32 := by rw [e33]; exact hL.si
    refine x_aload_n (i := 0) (dxX12_works_3 1 rfl) rfl rfl ?_
    refine x_iload_n (i := 1) (dxX12_works_3 2 rfl) rfl rfl ?_
    refine cl_12_318 (kd_179 hLs32) (Nat.le_of_ble_eq_true rfl) (dxX12_works_3 3 rfl) h (fun v35 s34 h => ?_) (Nat.le_refl _) (Nat.le_refl _)
    obtain ⟨hFs34, h⟩ := h
    have hKs34 : kd s34 = kd σ := hFs34.1.trans hKs32
    have hLs34 : Lay s34 := hLs32.fr hFs34
    refine x_if_ne (tgt := 163) (dxX12_works_3 4 rfl) (by decide) (fun hc => ?_) (fun hc => ?_)
    · replace h := h.1 hc
      obtain ⟨x36, e37⟩ : ∃ y : Int32, y = l5 + 1 := ⟨_, rfl⟩
      replace h := h x36 e37
      refine x_iinc (v := x36) (dxX12_works_3 7 rfl) (i := 5) rfl (by rw [e37]; rfl) (Nat.le_of_ble_eq_true rfl) rfl rfl ?_
      refine x_goto (tgt := 128) (dxX12_works_3 8 rfl) (by decide) ?_
      exact h
    · replace h := h.2 hc
      refine x_iconst (v := 0) (dxX12_works_3 5 rfl) rfl ?_
      exact x_iret (ty := .boolean) rfl rfl (dxX12_works_3 6 rfl) ⟨_, rfl, h⟩
theorem vcX12_cellAt {g : GV} {d : Nat} {P : Int32 → PS → Prop} {σ : PS} (hL : Lay σ) (p0 : Int32) (p1 : Int32) (h : VX12_cellAt g d P 2 [some (.ref 179), some (.int p0), some (.int p1), some (.int 0)] [] σ) : CX12_cellAt g d [.ref 179, .int p0, .int p1] σ P := by
  refine x_entry (L := [some (.ref 179), some (.int p0), some (.int p1), none]) pn_12 (Nat.le_of_ble_eq_true rfl) ⟨1, rfl⟩ ?_
  show VX12_cellAt g d P 0 [some (.ref 179), some (.int p0), some (.int p1), none] [] σ
  refine x_iconst (v := 0) (dxX12_cellAt_0 0 rfl) rfl ?_
  refine x_istore_n (i := 3) (dxX12_cellAt_0 1 rfl) rfl (Nat.le_of_ble_eq_true rfl) rfl rfl ?_
  exact h
theorem vcX12_cellAt_2 {g : GV} {d : Nat} {P : Int32 → PS → Prop} {σ : PS} (hL : Lay σ) (l1 : Int32) (l2 : Int32) (l3 : Int32) (h : ((mi σ 179 35) ≤ l3 → P (-1) σ) ∧ (¬ (mi σ 179 35) ≤ l3 → vp_in l3 10 ∧ (¬ (mi σ 201 (Int32.toNatClampNeg l3)) = l1 → ∀ x2 : Int32, x2 = l3 + 1 → VX12_cellAt g d P 2 [some (.ref 179), some (.int l1), some (.int l2), some (.int x2)] [] σ) ∧ ((mi σ 201 (Int32.toNatClampNeg l3)) = l1 → vp_in l3 10 ∧ (¬ (mi σ 202 (Int32.toNatClampNeg l3)) = l2 → ∀ x5 : Int32, x5 = l3 + 1 → VX12_cellAt g d P 2 [some (.ref 179), some (.int l1), some (.int l2), some (.int x5)] [] σ) ∧ ((mi σ 202 (Int32.toNatClampNeg l3)) = l2 → P l3 σ)))) : VX12_cellAt g d P 2 [some (.ref 179), some (.int l1), some (.int l2), some (.int l3)] [] σ := by
  refine x_iload_n (i := 3) (dxX12_cellAt_0 2 rfl) rfl rfl ?_
  refine x_aload_n (i := 0) (dxX12_cellAt_0 3 rfl) rfl rfl ?_
  refine gf_12_177 (kd_179 hL) rfl (dxX12_cellAt_0 4 rfl) ?_
  refine x_icmp_ge (tgt := 38) (dxX12_cellAt_0 5 rfl) (by decide) (fun hc => ?_) (fun hc => ?_)
  · replace h := h.1 hc
    refine x_iconst (v := (-1)) (dxX12_cellAt_0 22 rfl) rfl ?_
    exact x_iret (ty := .int) rfl rfl (dxX12_cellAt_0 23 rfl) ⟨_, rfl, h⟩
  · replace h := h.2 hc
    refine x_aload_n (i := 0) (dxX12_cellAt_0 6 rfl) rfl rfl ?_
    refine gf_12_75 (kd_179 hL) (rv_179_36 hL) (dxX12_cellAt_0 7 rfl) ?_
    refine x_iload_n (i := 3) (dxX12_cellAt_0 8 rfl) rfl rfl ?_
    obtain ⟨hi1, h⟩ := h
    refine x_iald (kd_201 hL) hi1 (dxX12_cellAt_0 9 rfl) ?_
    refine x_iload_n (i := 1) (dxX12_cellAt_0 10 rfl) rfl rfl ?_
    refine x_icmp_ne (tgt := 32) (dxX12_cellAt_0 11 rfl) (by decide) (fun hc => ?_) (fun hc => ?_)
    · replace h := h.1 hc
      obtain ⟨x2, e3⟩ : ∃ y : Int32, y = l3 + 1 := ⟨_, rfl⟩
      replace h := h x2 e3
      refine x_iinc (v := x2) (dxX12_cellAt_0 20 rfl) (i := 3) rfl (by rw [e3]; rfl) (Nat.le_of_ble_eq_true rfl) rfl rfl ?_
      refine x_goto (tgt := 2) (dxX12_cellAt_0 21 rfl) (by decide) ?_
      exact h
    · replace h := h.2 hc
      refine x_aload_n (i := 0) (dxX12_cellAt_0 12 rfl) rfl rfl ?_
      refine gf_12_78 (kd_179 hL) (rv_179_37 hL) (dxX12_cellAt_0 13 rfl) ?_
      refine x_iload_n (i := 3) (dxX12_cellAt_0 14 rfl) rfl rfl ?_
      obtain ⟨hi4, h⟩ := h
      refine x_iald (kd_202 hL) hi4 (dxX12_cellAt_0 15 rfl) ?_
      refine x_iload_n (i := 2) (dxX12_cellAt_0 16 rfl) rfl rfl ?_
      refine x_icmp_ne (tgt := 32) (dxX12_cellAt_0 17 rfl) (by decide) (fun hc => ?_) (fun hc => ?_)
      · replace h := h.1 hc
        obtain ⟨x5, e6⟩ : ∃ y : Int32, y = l3 + 1 := ⟨_, rfl⟩
        replace h := h x5 e6
        refine x_iinc (v := x5) (dxX12_cellAt_0 20 rfl) (i := 3) rfl (by rw [e6]; rfl) (Nat.le_of_ble_eq_true rfl) rfl rfl ?_
        refine x_goto (tgt := 2) (dxX12_cellAt_0 21 rfl) (by decide) ?_
        exact h
      · replace h := h.2 hc
        refine x_iload_n (i := 3) (dxX12_cellAt_0 18 rfl) rfl rfl ?_
        exact x_iret (ty := .int) rfl rfl (dxX12_cellAt_0 19 rfl) ⟨_, rfl, h⟩
theorem vcX12_east {g : GV} {d : Nat} {P : Int32 → PS → Prop} {σ : PS} (hL : Lay σ) (p0 : Int32) (h : (¬ p0 = 1 → (¬ p0 = 3 → P 0 σ) ∧ (p0 = 3 → P (-1) σ)) ∧ (p0 = 1 → P 1 σ)) : CX12_east g d [.int p0] σ P := by
  refine x_entry (L := [some (.int p0)]) pn_12 (Nat.le_of_ble_eq_true rfl) ⟨0, rfl⟩ ?_
  show VX12_east g d P 0 [some (.int p0)] [] σ
  refine x_iload_n (i := 0) (dxX12_east_0 0 rfl) rfl rfl ?_
  refine x_iconst (v := 1) (dxX12_east_0 1 rfl) rfl ?_
  refine x_icmp_ne (tgt := 9) (dxX12_east_0 2 rfl) (by decide) (fun hc => ?_) (fun hc => ?_)
  · replace h := h.1 hc
    refine x_iload_n (i := 0) (dxX12_east_0 5 rfl) rfl rfl ?_
    refine x_iconst (v := 3) (dxX12_east_0 6 rfl) rfl ?_
    refine x_icmp_ne (tgt := 18) (dxX12_east_0 7 rfl) (by decide) (fun hc => ?_) (fun hc => ?_)
    · replace h := h.1 hc
      refine x_iconst (v := 0) (dxX12_east_0 10 rfl) rfl ?_
      exact x_iret (ty := .int) rfl rfl (dxX12_east_0 11 rfl) ⟨_, rfl, h⟩
    · replace h := h.2 hc
      refine x_iconst (v := (-1)) (dxX12_east_0 8 rfl) rfl ?_
      refine x_goto (tgt := 19) (dxX12_east_0 9 rfl) (by decide) ?_
      exact x_iret (ty := .int) rfl rfl (dxX12_east_0 11 rfl) ⟨_, rfl, h⟩
  · replace h := h.2 hc
    refine x_iconst (v := 1) (dxX12_east_0 3 rfl) rfl ?_
    refine x_goto (tgt := 19) (dxX12_east_0 4 rfl) (by decide) ?_
    exact x_iret (ty := .int) rfl rfl (dxX12_east_0 11 rfl) ⟨_, rfl, h⟩
theorem vcX12_north {g : GV} {d : Nat} {P : Int32 → PS → Prop} {σ : PS} (hL : Lay σ) (p0 : Int32) (h : (¬ p0 = 2 → (¬ p0 = 0 → P 0 σ) ∧ (p0 = 0 → P (-1) σ)) ∧ (p0 = 2 → P 1 σ)) : CX12_north g d [.int p0] σ P := by
  refine x_entry (L := [some (.int p0)]) pn_12 (Nat.le_of_ble_eq_true rfl) ⟨0, rfl⟩ ?_
  show VX12_north g d P 0 [some (.int p0)] [] σ
  refine x_iload_n (i := 0) (dxX12_north_0 0 rfl) rfl rfl ?_
  refine x_iconst (v := 2) (dxX12_north_0 1 rfl) rfl ?_
  refine x_icmp_ne (tgt := 9) (dxX12_north_0 2 rfl) (by decide) (fun hc => ?_) (fun hc => ?_)
  · replace h := h.1 hc
    refine x_iload_n (i := 0) (dxX12_north_0 5 rfl) rfl rfl ?_
    refine x_if_ne (tgt := 17) (dxX12_north_0 6 rfl) (by decide) (fun hc => ?_) (fun hc => ?_)
    · replace h := h.1 hc
      refine x_iconst (v := 0) (dxX12_north_0 9 rfl) rfl ?_
      exact x_iret (ty := .int) rfl rfl (dxX12_north_0 10 rfl) ⟨_, rfl, h⟩
    · replace h := h.2 hc
      refine x_iconst (v := (-1)) (dxX12_north_0 7 rfl) rfl ?_
      refine x_goto (tgt := 18) (dxX12_north_0 8 rfl) (by decide) ?_
      exact x_iret (ty := .int) rfl rfl (dxX12_north_0 10 rfl) ⟨_, rfl, h⟩
  · replace h := h.2 hc
    refine x_iconst (v := 1) (dxX12_north_0 3 rfl) rfl ?_
    refine x_goto (tgt := 18) (dxX12_north_0 4 rfl) (by decide) ?_
    exact x_iret (ty := .int) rfl rfl (dxX12_north_0 10 rfl) ⟨_, rfl, h⟩
theorem vcX12_behind {g : GV} {d : Nat} {P : Int32 → PS → Prop} {σ : PS} (hL : Lay σ) (p0 : Int32) (p1 : Int32) (h : vp_in p0 10 ∧ CX12_east g d [.int p1] σ (fun (v3 : Int32) (s2 : PS) => Fr σ s2 ∧ vp_in p0 10 ∧ CX12_north g d [.int p1] s2 (fun (v6 : Int32) (s5 : PS) => Fr s2 s5 ∧ CX12_cellAt g d [.ref 179, .int ((mi σ 201 (Int32.toNatClampNeg p0)) + v3), .int ((mi s2 202 (Int32.toNatClampNeg p0)) + v6)] s5 (fun (v8 : Int32) (s7 : PS) => Fr s5 s7 ∧ P v8 s7)))) : CX12_behind g (d + 1) [.ref 179, .int p0, .int p1] σ P := by
  refine x_entry (L := [some (.ref 179), some (.int p0), some (.int p1)]) pn_12 (Nat.le_of_ble_eq_true rfl) ⟨0, rfl⟩ ?_
  show VX12_behind g (d + 1) P 0 [some (.ref 179), some (.int p0), some (.int p1)] [] σ
  refine x_aload_n (i := 0) (dxX12_behind_0 0 rfl) rfl rfl ?_
  refine x_aload_n (i := 0) (dxX12_behind_0 1 rfl) rfl rfl ?_
  refine gf_12_75 (kd_179 hL) (rv_179_36 hL) (dxX12_behind_0 2 rfl) ?_
  refine x_iload_n (i := 1) (dxX12_behind_0 3 rfl) rfl rfl ?_
  obtain ⟨hi1, h⟩ := h
  refine x_iald (kd_201 hL) hi1 (dxX12_behind_0 4 rfl) ?_
  refine x_iload_n (i := 2) (dxX12_behind_0 5 rfl) rfl rfl ?_
  refine cl_12_323 (Nat.le_of_ble_eq_true rfl) (dxX12_behind_0 6 rfl) h (fun v3 s2 h => ?_) (Nat.le_refl _) (Nat.le_refl _)
  obtain ⟨hFs2, h⟩ := h
  have hKs2 : kd s2 = kd σ := hFs2.1.trans (rfl : kd σ = kd σ)
  have hLs2 : Lay s2 := hL.fr hFs2
  refine x_iadd (dxX12_behind_0 7 rfl) ?_
  refine x_aload_n (i := 0) (dxX12_behind_0 8 rfl) rfl rfl ?_
  refine gf_12_78 (kd_179 hLs2) (rv_179_37 hLs2) (dxX12_behind_0 9 rfl) ?_
  refine x_iload_n (i := 1) (dxX12_behind_0 10 rfl) rfl rfl ?_
  obtain ⟨hi4, h⟩ := h
  refine x_iald (kd_202 hLs2) hi4 (dxX12_behind_0 11 rfl) ?_
  refine x_iload_n (i := 2) (dxX12_behind_0 12 rfl) rfl rfl ?_
  refine cl_12_326 (Nat.le_of_ble_eq_true rfl) (dxX12_behind_0 13 rfl) h (fun v6 s5 h => ?_) (Nat.le_refl _) (Nat.le_refl _)
  obtain ⟨hFs5, h⟩ := h
  have hKs5 : kd s5 = kd σ := hFs5.1.trans hKs2
  have hLs5 : Lay s5 := hLs2.fr hFs5
  refine x_iadd (dxX12_behind_0 14 rfl) ?_
  refine cl_12_329 (kd_179 hLs5) (Nat.le_of_ble_eq_true rfl) (dxX12_behind_0 15 rfl) h (fun v8 s7 h => ?_) (Nat.le_refl _) (Nat.le_refl _)
  obtain ⟨hFs7, h⟩ := h
  have hKs7 : kd s7 = kd σ := hFs7.1.trans hKs5
  have hLs7 : Lay s7 := hLs5.fr hFs7
  exact x_iret (ty := .int) rfl rfl (dxX12_behind_0 16 rfl) ⟨_, rfl, h⟩
theorem vcX12_shapes {g : GV} {d : Nat} {P : PS → Prop} {σ : PS} (hL : Lay σ)  (h : VX12_shapes g (d + 1) P 2 [some (.ref 179), some (.int 0), none, none, none, none] [] σ) : CX12_shapes g (d + 1) [.ref 179] σ P := by
  refine x_entry (L := [some (.ref 179), none, none, none, none, none]) pn_12 (Nat.le_of_ble_eq_true rfl) ⟨5, rfl⟩ ?_
  show VX12_shapes g (d + 1) P 0 [some (.ref 179), none, none, none, none, none] [] σ
  refine x_iconst (v := 0) (dxX12_shapes_0 0 rfl) rfl ?_
  refine x_istore_n (i := 1) (dxX12_shapes_0 1 rfl) rfl (Nat.le_of_ble_eq_true rfl) rfl rfl ?_
  exact h
theorem vcX12_shapes_2 {g : GV} {d : Nat} {P : PS → Prop} {σ : PS} (hL : Lay σ) (l1 : Int32) (h : (40 ≤ l1 → ∀ s1 : PS, s1 = si σ 179 38 0 → VX12_shapes g (d + 1) P 32 [some (.ref 179), some (.int 0), some (.int 0), some (.int 0), none, none] [] s1) ∧ (¬ 40 ≤ l1 → vp_in l1 40 ∧ ∀ s4 : PS, s4 = si σ 206 (Int32.toNatClampNeg l1) (-1) → ∀ x6 : Int32, x6 = l1 + 1 → VX12_shapes g (d + 1) P 2 [some (.ref 179), some (.int x6), none, none, none, none] [] s4)) : VX12_shapes g (d + 1) P 2 [some (.ref 179), some (.int l1), none, none, none, none] [] σ := by
  refine x_iload_n (i := 1) (dxX12_shapes_0 2 rfl) rfl rfl ?_
  refine x_bipush (v := 40) (dxX12_shapes_0 3 rfl) rfl ?_
  refine x_icmp_ge (tgt := 21) (dxX12_shapes_0 4 rfl) (by decide) (fun hc => ?_) (fun hc => ?_)
  · replace h := h.1 hc
    refine x_aload_n (i := 0) (dxX12_shapes_0 12 rfl) rfl rfl ?_
    refine x_iconst (v := 0) (dxX12_shapes_0 13 rfl) rfl ?_
    refine pf_12_332 (kd_179 hL) (dxX12_shapes_0 14 rfl) ?_
    refine x_sto (fun s1 e2 => ?_)
    replace h := h s1 e2
    have hKs1 : kd s1 = kd σ := by rw [e2]; exact (rfl : kd σ = kd σ)
    have hLs1 : Lay s1 := by rw [e2]; exact hL.si
    refine x_iconst (v := 0) (dxX12_shapes_0 15 rfl) rfl ?_
    refine x_istore_n (i := 1) (dxX12_shapes_0 16 rfl) rfl (Nat.le_of_ble_eq_true rfl) rfl rfl ?_
    refine x_iconst (v := 0) (dxX12_shapes_0 17 rfl) rfl ?_
    refine x_istore_n (i := 2) (dxX12_shapes_0 18 rfl) rfl (Nat.le_of_ble_eq_true rfl) rfl rfl ?_
    refine x_iconst (v := 0) (dxX12_shapes_0 19 rfl) rfl ?_
    refine x_istore_n (i := 3) (dxX12_shapes_0 20 rfl) rfl (Nat.le_of_ble_eq_true rfl) rfl rfl ?_
    exact h
  · replace h := h.2 hc
    refine x_aload_n (i := 0) (dxX12_shapes_0 5 rfl) rfl rfl ?_
    refine gf_12_90 (kd_179 hL) (rv_179_42 hL) (dxX12_shapes_0 6 rfl) ?_
    refine x_iload_n (i := 1) (dxX12_shapes_0 7 rfl) rfl rfl ?_
    refine x_iconst (v := (-1)) (dxX12_shapes_0 8 rfl) rfl ?_
    obtain ⟨hi3, h⟩ := h
    refine x_iast (kd_206 hL) hi3 (dxX12_shapes_0 9 rfl) ?_
    refine x_sto (fun s4 e5 => ?_)
    replace h := h s4 e5
    have hKs4 : kd s4 = kd σ := by rw [e5]; exact (rfl : kd σ = kd σ)
    have hLs4 : Lay s4 := by rw [e5]; exact hL.si
    obtain ⟨x6, e7⟩ : ∃ y : Int32, y = l1 + 1 := ⟨_, rfl⟩
    replace h := h x6 e7
    refine x_iinc (v := x6) (dxX12_shapes_0 10 rfl) (i := 1) rfl (by rw [e7]; rfl) (Nat.le_of_ble_eq_true rfl) rfl rfl ?_
    refine x_goto (tgt := 2) (dxX12_shapes_0 11 rfl) (by decide) ?_
    exact h
theorem vcX12_shapes_32 {g : GV} {d : Nat} {P : PS → Prop} {σ : PS} (hL : Lay σ) (l1 : Int32) (l2 : Int32) (l3 : Int32) (h : ((mi σ 179 38) = 0 → VX12_shapes g (d + 1) P 47 [some (.ref 179), some (.int l1), some (.int l2), some (.int l3), none, none] [] σ) ∧ (¬ (mi σ 179 38) = 0 → (¬ l1 = 0 → VX12_shapes g (d + 1) P 47 [some (.ref 179), some (.int l1), some (.int l2), some (.int l3), none, none] [] σ) ∧ (l1 = 0 → (l2 = 0 → ∀ s8 : PS, s8 = si σ 205 (Int32.toNatClampNeg 0) l3 → ∀ s10 : PS, s10 = si s8 179 47 0 → VX12_shapes g (d + 1) P 219 [some (.ref 179), none, none, none, some (.int 0), none] [] s10) ∧ (¬ l2 = 0 → VX12_shapes g (d + 1) P 47 [some (.ref 179), some (.int l1), some (.int l2), some (.int l3), none, none] [] σ)))) : VX12_shapes g (d + 1) P 32 [some (.ref 179), some (.int l1), some (.int l2), some (.int l3), none, none] [] σ := by
  refine x_aload_n (i := 0) (dxX12_shapes_0 21 rfl) rfl rfl ?_
  refine gf_12_332 (kd_179 hL) rfl (dxX12_shapes_0 22 rfl) ?_
  refine x_if_eq (tgt := 47) (dxX12_shapes_0 23 rfl) (by decide) (fun hc => ?_) (fun hc => ?_)
  · replace h := h.1 hc
    exact h
  · replace h := h.2 hc
    refine x_iload_n (i := 1) (dxX12_shapes_0 24 rfl) rfl rfl ?_
    refine x_if_ne (tgt := 47) (dxX12_shapes_0 25 rfl) (by decide) (fun hc => ?_) (fun hc => ?_)
    · replace h := h.1 hc
      exact h
    · replace h := h.2 hc
      refine x_iload_n (i := 2) (dxX12_shapes_0 26 rfl) rfl rfl ?_
      refine x_if_eq (tgt := 204) (dxX12_shapes_0 27 rfl) (by decide) (fun hc => ?_) (fun hc => ?_)
      · replace h := h.1 hc
        refine x_aload_n (i := 0) (dxX12_shapes_3 27 rfl) rfl rfl ?_
        refine gf_12_87 (kd_179 hL) (rv_179_41 hL) (dxX12_shapes_3 28 rfl) ?_
        refine x_iconst (v := 0) (dxX12_shapes_3 29 rfl) rfl ?_
        refine x_iload_n (i := 3) (dxX12_shapes_3 30 rfl) rfl rfl ?_
        refine x_iast (kd_205 hL) (vpl 24 0 rfl) (dxX12_shapes_3 31 rfl) ?_
        refine x_sto (fun s8 e9 => ?_)
        replace h := h s8 e9
        have hKs8 : kd s8 = kd σ := by rw [e9]; exact (rfl : kd σ = kd σ)
        have hLs8 : Lay s8 := by rw [e9]; exact hL.si
        refine x_aload_n (i := 0) (dxX12_shapes_4 0 rfl) rfl rfl ?_
        refine x_iconst (v := 0) (dxX12_shapes_4 1 rfl) rfl ?_
        refine pf_12_338 (Or.inl rfl) (kd_179 hLs8) (dxX12_shapes_4 2 rfl) ?_
        refine x_sto (fun s10 e11 => ?_)
        replace h := h s10 e11
        have hKs10 : kd s10 = kd σ := by rw [e11]; exact hKs8
        have hLs10 : Lay s10 := by rw [e11]; exact hLs8.si
        refine x_iconst (v := 0) (dxX12_shapes_4 3 rfl) rfl ?_
        refine x_istore (dxX12_shapes_4 4 rfl) (Nat.le_of_ble_eq_true rfl) rfl rfl ?_
        refine x_mask [true, false, false, false, true, false] (L1 := [some (.ref 179), none, none, none, some (.int 0), none]) rfl ?_
        exact h
      · replace h := h.2 hc
        exact h
theorem vcX12_shapes_47 {g : GV} {d : Nat} {P : PS → Prop} {σ : PS} (hL : Lay σ) (l1 : Int32) (l2 : Int32) (l3 : Int32) (h : vp_in (mi σ 179 38) 24 ∧ ∀ s13 : PS, s13 = si σ 203 (Int32.toNatClampNeg (mi σ 179 38)) l1 → vp_in (mi s13 179 38) 24 ∧ ∀ s16 : PS, s16 = si s13 204 (Int32.toNatClampNeg (mi s13 179 38)) l2 → vp_in (mi s16 179 38) 24 ∧ ∀ s19 : PS, s19 = si s16 205 (Int32.toNatClampNeg (mi s16 179 38)) l3 → vp_in ((4 * l1) + l2) 40 ∧ ∀ s22 : PS, s22 = si s19 206 (Int32.toNatClampNeg ((4 * l1) + l2)) (mi s19 179 38) → ∀ s24 : PS, s24 = si s22 179 38 ((mi s22 179 38) + 1) → CX12_behind g d [.ref 179, .int l1, .int (jrem (l2 + 1) 4)] s24 (fun (v27 : Int32) (s26 : PS) => Fr s24 s26 ∧ (0 ≤ v27 → CX12_behind g d [.ref 179, .int v27, .int l2] s26 (fun (v29 : Int32) (s28 : PS) => Fr s26 s28 ∧ (0 ≤ v27 → (0 ≤ v29 → VX12_shapes g (d + 1) P 150 [some (.ref 179), some (.int l1), some (.int l2), none, some (.int v27), some (.int v29)] [.int 3] s28) ∧ (¬ 0 ≤ v29 → VX12_shapes g (d + 1) P 150 [some (.ref 179), some (.int l1), some (.int l2), none, some (.int v27), some (.int v29)] [.int 2] s28)) ∧ (¬ 0 ≤ v27 → VX12_shapes g (d + 1) P 150 [some (.ref 179), some (.int l1), some (.int l2), none, some (.int v27), some (.int v29)] [.int 1] s28))) ∧ (¬ 0 ≤ v27 → (0 ≤ v27 → VX12_shapes g (d + 1) P 150 [some (.ref 179), some (.int l1), some (.int l2), none, some (.int v27), some (.int (-1))] [.int 2] s26) ∧ (¬ 0 ≤ v27 → VX12_shapes g (d + 1) P 150 [some (.ref 179), some (.int l1), some (.int l2), none, some (.int v27), some (.int (-1))] [.int 1] s26)))) : VX12_shapes g (d + 1) P 47 [some (.ref 179), some (.int l1), some (.int l2), some (.int l3), none, none] [] σ := by
  refine x_aload_n (i := 0) (dxX12_shapes_0 28 rfl) rfl rfl ?_
  refine gf_12_81 (kd_179 hL) (rv_179_39 hL) (dxX12_shapes_0 29 rfl) ?_
  refine x_aload_n (i := 0) (dxX12_shapes_0 30 rfl) rfl rfl ?_
  refine gf_12_332 (kd_179 hL) rfl (dxX12_shapes_0 31 rfl) ?_
  refine x_iload_n (i := 1) (dxX12_shapes_1 0 rfl) rfl rfl ?_
  obtain ⟨hi12, h⟩ := h
  refine x_iast (kd_203 hL) hi12 (dxX12_shapes_1 1 rfl) ?_
  refine x_sto (fun s13 e14 => ?_)
  replace h := h s13 e14
  have hKs13 : kd s13 = kd σ := by rw [e14]; exact (rfl : kd σ = kd σ)
  have hLs13 : Lay s13 := by rw [e14]; exact hL.si
  refine x_aload_n (i := 0) (dxX12_shapes_1 2 rfl) rfl rfl ?_
  refine gf_12_84 (kd_179 hLs13) (rv_179_40 hLs13) (dxX12_shapes_1 3 rfl) ?_
  refine x_aload_n (i := 0) (dxX12_shapes_1 4 rfl) rfl rfl ?_
  refine gf_12_332 (kd_179 hLs13) rfl (dxX12_shapes_1 5 rfl) ?_
  refine x_iload_n (i := 2) (dxX12_shapes_1 6 rfl) rfl rfl ?_
  obtain ⟨hi15, h⟩ := h
  refine x_iast (kd_204 hLs13) hi15 (dxX12_shapes_1 7 rfl) ?_
  refine x_sto (fun s16 e17 => ?_)
  replace h := h s16 e17
  have hKs16 : kd s16 = kd σ := by rw [e17]; exact hKs13
  have hLs16 : Lay s16 := by rw [e17]; exact hLs13.si
  refine x_aload_n (i := 0) (dxX12_shapes_1 8 rfl) rfl rfl ?_
  refine gf_12_87 (kd_179 hLs16) (rv_179_41 hLs16) (dxX12_shapes_1 9 rfl) ?_
  refine x_aload_n (i := 0) (dxX12_shapes_1 10 rfl) rfl rfl ?_
  refine gf_12_332 (kd_179 hLs16) rfl (dxX12_shapes_1 11 rfl) ?_
  refine x_iload_n (i := 3) (dxX12_shapes_1 12 rfl) rfl rfl ?_
  obtain ⟨hi18, h⟩ := h
  refine x_iast (kd_205 hLs16) hi18 (dxX12_shapes_1 13 rfl) ?_
  refine x_sto (fun s19 e20 => ?_)
  replace h := h s19 e20
  have hKs19 : kd s19 = kd σ := by rw [e20]; exact hKs16
  have hLs19 : Lay s19 := by rw [e20]; exact hLs16.si
  refine x_aload_n (i := 0) (dxX12_shapes_1 14 rfl) rfl rfl ?_
  refine gf_12_90 (kd_179 hLs19) (rv_179_42 hLs19) (dxX12_shapes_1 15 rfl) ?_
  refine x_iconst (v := 4) (dxX12_shapes_1 16 rfl) rfl ?_
  refine x_iload_n (i := 1) (dxX12_shapes_1 17 rfl) rfl rfl ?_
  refine x_imul (dxX12_shapes_1 18 rfl) ?_
  refine x_iload_n (i := 2) (dxX12_shapes_1 19 rfl) rfl rfl ?_
  refine x_iadd (dxX12_shapes_1 20 rfl) ?_
  refine x_aload_n (i := 0) (dxX12_shapes_1 21 rfl) rfl rfl ?_
  refine gf_12_332 (kd_179 hLs19) rfl (dxX12_shapes_1 22 rfl) ?_
  obtain ⟨hi21, h⟩ := h
  refine x_iast (kd_206 hLs19) hi21 (dxX12_shapes_1 23 rfl) ?_
  refine x_sto (fun s22 e23 => ?_)
  replace h := h s22 e23
  have hKs22 : kd s22 = kd σ := by rw [e23]; exact hKs19
  have hLs22 : Lay s22 := by rw [e23]; exact hLs19.si
  refine x_aload_n (i := 0) (dxX12_shapes_1 24 rfl) rfl rfl ?_
  refine x_dup (dxX12_shapes_1 25 rfl) rfl ?_
  refine gf_12_332 (kd_179 hLs22) rfl (dxX12_shapes_1 26 rfl) ?_
  refine x_iconst (v := 1) (dxX12_shapes_1 27 rfl) rfl ?_
  refine x_iadd (dxX12_shapes_1 28 rfl) ?_
  refine pf_12_332 (kd_179 hLs22) (dxX12_shapes_1 29 rfl) ?_
  refine x_sto (fun s24 e25 => ?_)
  replace h := h s24 e25
  have hKs24 : kd s24 = kd σ := by rw [e25]; exact hKs22
  have hLs24 : Lay s24 := by rw [e25]; exact hLs22.si
  refine x_aload_n (i := 0) (dxX12_shapes_1 30 rfl) rfl rfl ?_
  refine x_iload_n (i := 1) (dxX12_shapes_1 31 rfl) rfl rfl ?_
  refine x_iload_n (i := 2) (dxX12_shapes_2 0 rfl) rfl rfl ?_
  refine x_iconst (v := 1) (dxX12_shapes_2 1 rfl) rfl ?_
  refine x_iadd (dxX12_shapes_2 2 rfl) ?_
  refine x_iconst (v := 4) (dxX12_shapes_2 3 rfl) rfl ?_
  refine x_irem (dxX12_shapes_2 4 rfl) (by decide) ?_
  refine cl_12_335 (kd_179 hLs24) (Nat.le_of_ble_eq_true rfl) (dxX12_shapes_2 5 rfl) h (fun v27 s26 h => ?_) (Nat.le_refl _) (Nat.le_refl _)
  obtain ⟨hFs26, h⟩ := h
  have hKs26 : kd s26 = kd σ := hFs26.1.trans hKs24
  have hLs26 : Lay s26 := hLs24.fr hFs26
  refine x_istore (dxX12_shapes_2 6 rfl) (Nat.le_of_ble_eq_true rfl) rfl rfl ?_
  refine x_iload (dxX12_shapes_2 7 rfl) rfl ?_
  refine x_if_ge (tgt := 122) (dxX12_shapes_2 8 rfl) (by decide) (fun hc => ?_) (fun hc => ?_)
  · replace h := h.1 hc
    refine x_aload_n (i := 0) (dxX12_shapes_2 11 rfl) rfl rfl ?_
    refine x_iload (dxX12_shapes_2 12 rfl) rfl ?_
    refine x_iload_n (i := 2) (dxX12_shapes_2 13 rfl) rfl rfl ?_
    refine cl_12_335 (kd_179 hLs26) (Nat.le_of_ble_eq_true rfl) (dxX12_shapes_2 14 rfl) h (fun v29 s28 h => ?_) (Nat.le_refl _) (Nat.le_refl _)
    obtain ⟨hFs28, h⟩ := h
    have hKs28 : kd s28 = kd σ := hFs28.1.trans hKs26
    have hLs28 : Lay s28 := hLs26.fr hFs28
    refine x_istore (dxX12_shapes_2 15 rfl) (Nat.le_of_ble_eq_true rfl) rfl rfl ?_
    refine x_iload (dxX12_shapes_2 16 rfl) rfl ?_
    refine x_if_ge (tgt := 140) (dxX12_shapes_2 17 rfl) (by decide) (fun hc => ?_) (fun hc => ?_)
    · replace h := h.1 hc
      refine x_iload (dxX12_shapes_2 20 rfl) rfl ?_
      refine x_if_ge (tgt := 149) (dxX12_shapes_2 21 rfl) (by decide) (fun hc => ?_) (fun hc => ?_)
      · replace h := h.1 hc
        refine x_iconst (v := 3) (dxX12_shapes_2 24 rfl) rfl ?_
        refine x_mask [true, true, true, false, true, true] (L1 := [some (.ref 179), some (.int l1), some (.int l2), none, some (.int v27), some (.int v29)]) rfl ?_
        exact h
      · replace h := h.2 hc
        refine x_iconst (v := 2) (dxX12_shapes_2 22 rfl) rfl ?_
        refine x_goto (tgt := 150) (dxX12_shapes_2 23 rfl) (by decide) ?_
        refine x_mask [true, true, true, false, true, true] (L1 := [some (.ref 179), some (.int l1), some (.int l2), none, some (.int v27), some (.int v29)]) rfl ?_
        exact h
    · replace h := h.2 hc
      refine x_iconst (v := 1) (dxX12_shapes_2 18 rfl) rfl ?_
      refine x_goto (tgt := 150) (dxX12_shapes_2 19 rfl) (by decide) ?_
      refine x_mask [true, true, true, false, true, true] (L1 := [some (.ref 179), some (.int l1), some (.int l2), none, some (.int v27), some (.int v29)]) rfl ?_
      exact h
  · replace h := h.2 hc
    refine x_iconst (v := (-1)) (dxX12_shapes_2 9 rfl) rfl ?_
    refine x_goto (tgt := 129) (dxX12_shapes_2 10 rfl) (by decide) ?_
    refine x_istore (dxX12_shapes_2 15 rfl) (Nat.le_of_ble_eq_true rfl) rfl rfl ?_
    refine x_iload (dxX12_shapes_2 16 rfl) rfl ?_
    refine x_if_ge (tgt := 140) (dxX12_shapes_2 17 rfl) (by decide) (fun hc => ?_) (fun hc => ?_)
    · replace h := h.1 hc
      refine x_iload (dxX12_shapes_2 20 rfl) rfl ?_
      refine x_if_ge (tgt := 149) (dxX12_shapes_2 21 rfl) (by decide) (fun hc => ?_) (fun hc => ?_)
      · exact absurd hc (by decide)
      · clear hc
        refine x_iconst (v := 2) (dxX12_shapes_2 22 rfl) rfl ?_
        refine x_goto (tgt := 150) (dxX12_shapes_2 23 rfl) (by decide) ?_
        refine x_mask [true, true, true, false, true, true] (L1 := [some (.ref 179), some (.int l1), some (.int l2), none, some (.int v27), some (.int (-1))]) rfl ?_
        exact h
    · replace h := h.2 hc
      refine x_iconst (v := 1) (dxX12_shapes_2 18 rfl) rfl ?_
      refine x_goto (tgt := 150) (dxX12_shapes_2 19 rfl) (by decide) ?_
      refine x_mask [true, true, true, false, true, true] (L1 := [some (.ref 179), some (.int l1), some (.int l2), none, some (.int v27), some (.int (-1))]) rfl ?_
      exact h
theorem vcX12_shapes_219 {g : GV} {d : Nat} {P : PS → Prop} {σ : PS} (hL : Lay σ) (l4 : Int32) (h : (24 ≤ l4 → ∀ s30 : PS, s30 = si σ 179 51 0 → ∀ s32 : PS, s32 = si s30 179 52 0 → P s32) ∧ (¬ 24 ≤ l4 → vp_in l4 24 ∧ ∀ s35 : PS, s35 = si σ 209 (Int32.toNatClampNeg l4) (-1) → ∀ x37 : Int32, x37 = l4 + 1 → VX12_shapes g (d + 1) P 219 [some (.ref 179), none, none, none, some (.int x37), none] [] s35)) : VX12_shapes g (d + 1) P 219 [some (.ref 179), none, none, none, some (.int l4), none] [] σ := by
  refine x_iload (dxX12_shapes_4 5 rfl) rfl ?_
  refine x_bipush (v := 24) (dxX12_shapes_4 6 rfl) rfl ?_
  refine x_icmp_ge (tgt := 240) (dxX12_shapes_4 7 rfl) (by decide) (fun hc => ?_) (fun hc => ?_)
  · replace h := h.1 hc
    refine x_aload_n (i := 0) (dxX12_shapes_4 15 rfl) rfl rfl ?_
    refine x_iconst (v := 0) (dxX12_shapes_4 16 rfl) rfl ?_
    refine pf_12_342 (kd_179 hL) (dxX12_shapes_4 17 rfl) ?_
    refine x_sto (fun s30 e31 => ?_)
    replace h := h s30 e31
    have hKs30 : kd s30 = kd σ := by rw [e31]; exact (rfl : kd σ = kd σ)
    have hLs30 : Lay s30 := by rw [e31]; exact hL.si
    refine x_aload_n (i := 0) (dxX12_shapes_4 18 rfl) rfl rfl ?_
    refine x_iconst (v := 0) (dxX12_shapes_4 19 rfl) rfl ?_
    refine pf_12_345 (kd_179 hLs30) (dxX12_shapes_4 20 rfl) ?_
    refine x_sto (fun s32 e33 => ?_)
    replace h := h s32 e33
    have hKs32 : kd s32 = kd σ := by rw [e33]; exact hKs30
    have hLs32 : Lay s32 := by rw [e33]; exact hLs30.si
    exact x_vret rfl (dxX12_shapes_4 21 rfl) ⟨rfl, h⟩
  · replace h := h.2 hc
    refine x_aload_n (i := 0) (dxX12_shapes_4 8 rfl) rfl rfl ?_
    refine gf_12_99 (kd_179 hL) (rv_179_45 hL) (dxX12_shapes_4 9 rfl) ?_
    refine x_iload (dxX12_shapes_4 10 rfl) rfl ?_
    refine x_iconst (v := (-1)) (dxX12_shapes_4 11 rfl) rfl ?_
    obtain ⟨hi34, h⟩ := h
    refine x_iast (kd_209 hL) hi34 (dxX12_shapes_4 12 rfl) ?_
    refine x_sto (fun s35 e36 => ?_)
    replace h := h s35 e36
    have hKs35 : kd s35 = kd σ := by rw [e36]; exact (rfl : kd σ = kd σ)
    have hLs35 : Lay s35 := by rw [e36]; exact hL.si
    obtain ⟨x37, e38⟩ : ∃ y : Int32, y = l4 + 1 := ⟨_, rfl⟩
    replace h := h x37 e38
    refine x_iinc (v := x37) (dxX12_shapes_4 13 rfl) (i := 4) rfl (by rw [e38]; rfl) (Nat.le_of_ble_eq_true rfl) rfl rfl ?_
    refine x_goto (tgt := 219) (dxX12_shapes_4 14 rfl) (by decide) ?_
    exact h
theorem vcX12_shapes_150 {g : GV} {d : Nat} {P : PS → Prop} {σ : PS} (hL : Lay σ) (l1 : Int32) (l2 : Int32) (l4 : Int32) (l5 : Int32) (t0 : Int32) (h : (¬ t0 = 1 → (¬ t0 = 2 → ∀ x39 : Int32, x39 = jrem (l2 + 3) 4 → (¬ t0 = 1 → (¬ t0 = 2 → VX12_shapes g (d + 1) P 32 [some (.ref 179), some (.int l5), some (.int x39), some (.int t0), none, none] [] σ) ∧ (t0 = 2 → VX12_shapes g (d + 1) P 32 [some (.ref 179), some (.int l4), some (.int x39), some (.int t0), none, none] [] σ)) ∧ (t0 = 1 → VX12_shapes g (d + 1) P 32 [some (.ref 179), some (.int l1), some (.int x39), some (.int t0), none, none] [] σ)) ∧ (t0 = 2 → (¬ t0 = 1 → (¬ t0 = 2 → VX12_shapes g (d + 1) P 32 [some (.ref 179), some (.int l5), some (.int l2), some (.int t0), none, none] [] σ) ∧ (t0 = 2 → VX12_shapes g (d + 1) P 32 [some (.ref 179), some (.int l4), some (.int l2), some (.int t0), none, none] [] σ)) ∧ (t0 = 1 → VX12_shapes g (d + 1) P 32 [some (.ref 179), some (.int l1), some (.int l2), some (.int t0), none, none] [] σ))) ∧ (t0 = 1 → ∀ x41 : Int32, x41 = jrem (l2 + 1) 4 → (¬ t0 = 1 → (¬ t0 = 2 → VX12_shapes g (d + 1) P 32 [some (.ref 179), some (.int l5), some (.int x41), some (.int t0), none, none] [] σ) ∧ (t0 = 2 → VX12_shapes g (d + 1) P 32 [some (.ref 179), some (.int l4), some (.int x41), some (.int t0), none, none] [] σ)) ∧ (t0 = 1 → VX12_shapes g (d + 1) P 32 [some (.ref 179), some (.int l1), some (.int x41), some (.int t0), none, none] [] σ))) : VX12_shapes g (d + 1) P 150 [some (.ref 179), some (.int l1), some (.int l2), none, some (.int l4), some (.int l5)] [.int t0] σ := by
  refine x_istore_n (i := 3) (dxX12_shapes_2 25 rfl) rfl (Nat.le_of_ble_eq_true rfl) rfl rfl ?_
  refine x_iload_n (i := 3) (dxX12_shapes_2 26 rfl) rfl rfl ?_
  refine x_iconst (v := 1) (dxX12_shapes_2 27 rfl) rfl ?_
  refine x_icmp_ne (tgt := 164) (dxX12_shapes_2 28 rfl) (by decide) (fun hc => ?_) (fun hc => ?_)
  · replace h := h.1 hc
    refine x_iload_n (i := 3) (dxX12_shapes_3 3 rfl) rfl rfl ?_
    refine x_iconst (v := 2) (dxX12_shapes_3 4 rfl) rfl ?_
    refine x_icmp_ne (tgt := 173) (dxX12_shapes_3 5 rfl) (by decide) (fun hc => ?_) (fun hc => ?_)
    · replace h := h.1 hc
      refine x_iload_n (i := 2) (dxX12_shapes_3 8 rfl) rfl rfl ?_
      refine x_iconst (v := 3) (dxX12_shapes_3 9 rfl) rfl ?_
      refine x_iadd (dxX12_shapes_3 10 rfl) ?_
      refine x_iconst (v := 4) (dxX12_shapes_3 11 rfl) rfl ?_
      refine x_irem (dxX12_shapes_3 12 rfl) (by decide) ?_
      refine x_topi (fun x39 e40 => ?_)
      replace h := h x39 e40
      refine x_istore_n (i := 2) (dxX12_shapes_3 13 rfl) rfl (Nat.le_of_ble_eq_true rfl) rfl rfl ?_
      refine x_iload_n (i := 3) (dxX12_shapes_3 14 rfl) rfl rfl ?_
      refine x_iconst (v := 1) (dxX12_shapes_3 15 rfl) rfl ?_
      refine x_icmp_ne (tgt := 188) (dxX12_shapes_3 16 rfl) (by decide) (fun hc => ?_) (fun hc => ?_)
      · replace h := h.1 hc
        refine x_iload_n (i := 3) (dxX12_shapes_3 19 rfl) rfl rfl ?_
        refine x_iconst (v := 2) (dxX12_shapes_3 20 rfl) rfl ?_
        refine x_icmp_ne (tgt := 198) (dxX12_shapes_3 21 rfl) (by decide) (fun hc => ?_) (fun hc => ?_)
        · replace h := h.1 hc
          refine x_iload (dxX12_shapes_3 24 rfl) rfl ?_
          refine x_istore_n (i := 1) (dxX12_shapes_3 25 rfl) rfl (Nat.le_of_ble_eq_true rfl) rfl rfl ?_
          refine x_goto (tgt := 32) (dxX12_shapes_3 26 rfl) (by decide) ?_
          refine x_mask [true, true, true, true, false, false] (L1 := [some (.ref 179), some (.int l5), some (.int x39), some (.int t0), none, none]) rfl ?_
          exact h
        · replace h := h.2 hc
          refine x_iload (dxX12_shapes_3 22 rfl) rfl ?_
          refine x_goto (tgt := 200) (dxX12_shapes_3 23 rfl) (by decide) ?_
          refine x_istore_n (i := 1) (dxX12_shapes_3 25 rfl) rfl (Nat.le_of_ble_eq_true rfl) rfl rfl ?_
          refine x_goto (tgt := 32) (dxX12_shapes_3 26 rfl) (by decide) ?_
          refine x_mask [true, true, true, true, false, false] (L1 := [some (.ref 179), some (.int l4), some (.int x39), some (.int t0), none, none]) rfl ?_
          exact h
      · replace h := h.2 hc
        refine x_iload_n (i := 1) (dxX12_shapes_3 17 rfl) rfl rfl ?_
        refine x_goto (tgt := 200) (dxX12_shapes_3 18 rfl) (by decide) ?_
        refine x_istore_n (i := 1) (dxX12_shapes_3 25 rfl) rfl (Nat.le_of_ble_eq_true rfl) rfl rfl ?_
        refine x_goto (tgt := 32) (dxX12_shapes_3 26 rfl) (by decide) ?_
        refine x_mask [true, true, true, true, false, false] (L1 := [some (.ref 179), some (.int l1), some (.int x39), some (.int t0), none, none]) rfl ?_
        exact h
    · replace h := h.2 hc
      refine x_iload_n (i := 2) (dxX12_shapes_3 6 rfl) rfl rfl ?_
      refine x_goto (tgt := 178) (dxX12_shapes_3 7 rfl) (by decide) ?_
      refine x_istore_n (i := 2) (dxX12_shapes_3 13 rfl) rfl (Nat.le_of_ble_eq_true rfl) rfl rfl ?_
      refine x_iload_n (i := 3) (dxX12_shapes_3 14 rfl) rfl rfl ?_
      refine x_iconst (v := 1) (dxX12_shapes_3 15 rfl) rfl ?_
      refine x_icmp_ne (tgt := 188) (dxX12_shapes_3 16 rfl) (by decide) (fun hc => ?_) (fun hc => ?_)
      · replace h := h.1 hc
        refine x_iload_n (i := 3) (dxX12_shapes_3 19 rfl) rfl rfl ?_
        refine x_iconst (v := 2) (dxX12_shapes_3 20 rfl) rfl ?_
        refine x_icmp_ne (tgt := 198) (dxX12_shapes_3 21 rfl) (by decide) (fun hc => ?_) (fun hc => ?_)
        · replace h := h.1 hc
          refine x_iload (dxX12_shapes_3 24 rfl) rfl ?_
          refine x_istore_n (i := 1) (dxX12_shapes_3 25 rfl) rfl (Nat.le_of_ble_eq_true rfl) rfl rfl ?_
          refine x_goto (tgt := 32) (dxX12_shapes_3 26 rfl) (by decide) ?_
          refine x_mask [true, true, true, true, false, false] (L1 := [some (.ref 179), some (.int l5), some (.int l2), some (.int t0), none, none]) rfl ?_
          exact h
        · replace h := h.2 hc
          refine x_iload (dxX12_shapes_3 22 rfl) rfl ?_
          refine x_goto (tgt := 200) (dxX12_shapes_3 23 rfl) (by decide) ?_
          refine x_istore_n (i := 1) (dxX12_shapes_3 25 rfl) rfl (Nat.le_of_ble_eq_true rfl) rfl rfl ?_
          refine x_goto (tgt := 32) (dxX12_shapes_3 26 rfl) (by decide) ?_
          refine x_mask [true, true, true, true, false, false] (L1 := [some (.ref 179), some (.int l4), some (.int l2), some (.int t0), none, none]) rfl ?_
          exact h
      · replace h := h.2 hc
        refine x_iload_n (i := 1) (dxX12_shapes_3 17 rfl) rfl rfl ?_
        refine x_goto (tgt := 200) (dxX12_shapes_3 18 rfl) (by decide) ?_
        refine x_istore_n (i := 1) (dxX12_shapes_3 25 rfl) rfl (Nat.le_of_ble_eq_true rfl) rfl rfl ?_
        refine x_goto (tgt := 32) (dxX12_shapes_3 26 rfl) (by decide) ?_
        refine x_mask [true, true, true, true, false, false] (L1 := [some (.ref 179), some (.int l1), some (.int l2), some (.int t0), none, none]) rfl ?_
        exact h
  · replace h := h.2 hc
    refine x_iload_n (i := 2) (dxX12_shapes_2 29 rfl) rfl rfl ?_
    refine x_iconst (v := 1) (dxX12_shapes_2 30 rfl) rfl ?_
    refine x_iadd (dxX12_shapes_2 31 rfl) ?_
    refine x_iconst (v := 4) (dxX12_shapes_3 0 rfl) rfl ?_
    refine x_irem (dxX12_shapes_3 1 rfl) (by decide) ?_
    refine x_goto (tgt := 178) (dxX12_shapes_3 2 rfl) (by decide) ?_
    refine x_topi (fun x41 e42 => ?_)
    replace h := h x41 e42
    refine x_istore_n (i := 2) (dxX12_shapes_3 13 rfl) rfl (Nat.le_of_ble_eq_true rfl) rfl rfl ?_
    refine x_iload_n (i := 3) (dxX12_shapes_3 14 rfl) rfl rfl ?_
    refine x_iconst (v := 1) (dxX12_shapes_3 15 rfl) rfl ?_
    refine x_icmp_ne (tgt := 188) (dxX12_shapes_3 16 rfl) (by decide) (fun hc => ?_) (fun hc => ?_)
    · replace h := h.1 hc
      refine x_iload_n (i := 3) (dxX12_shapes_3 19 rfl) rfl rfl ?_
      refine x_iconst (v := 2) (dxX12_shapes_3 20 rfl) rfl ?_
      refine x_icmp_ne (tgt := 198) (dxX12_shapes_3 21 rfl) (by decide) (fun hc => ?_) (fun hc => ?_)
      · replace h := h.1 hc
        refine x_iload (dxX12_shapes_3 24 rfl) rfl ?_
        refine x_istore_n (i := 1) (dxX12_shapes_3 25 rfl) rfl (Nat.le_of_ble_eq_true rfl) rfl rfl ?_
        refine x_goto (tgt := 32) (dxX12_shapes_3 26 rfl) (by decide) ?_
        refine x_mask [true, true, true, true, false, false] (L1 := [some (.ref 179), some (.int l5), some (.int x41), some (.int t0), none, none]) rfl ?_
        exact h
      · replace h := h.2 hc
        refine x_iload (dxX12_shapes_3 22 rfl) rfl ?_
        refine x_goto (tgt := 200) (dxX12_shapes_3 23 rfl) (by decide) ?_
        refine x_istore_n (i := 1) (dxX12_shapes_3 25 rfl) rfl (Nat.le_of_ble_eq_true rfl) rfl rfl ?_
        refine x_goto (tgt := 32) (dxX12_shapes_3 26 rfl) (by decide) ?_
        refine x_mask [true, true, true, true, false, false] (L1 := [some (.ref 179), some (.int l4), some (.int x41), some (.int t0), none, none]) rfl ?_
        exact h
    · replace h := h.2 hc
      refine x_iload_n (i := 1) (dxX12_shapes_3 17 rfl) rfl rfl ?_
      refine x_goto (tgt := 200) (dxX12_shapes_3 18 rfl) (by decide) ?_
      refine x_istore_n (i := 1) (dxX12_shapes_3 25 rfl) rfl (Nat.le_of_ble_eq_true rfl) rfl rfl ?_
      refine x_goto (tgt := 32) (dxX12_shapes_3 26 rfl) (by decide) ?_
      refine x_mask [true, true, true, true, false, false] (L1 := [some (.ref 179), some (.int l1), some (.int x41), some (.int t0), none, none]) rfl ?_
      exact h
theorem vcX12_hangs {g : GV} {d : Nat} {P : Int32 → PS → Prop} {σ : PS} (hL : Lay σ)  (h : VX12_hangs g (d + 1) P 4 [some (.ref 179), some (.int 1), some (.int 0), none, none] [] σ) : CX12_hangs g (d + 1) [.ref 179] σ P := by
  refine x_entry (L := [some (.ref 179), none, none, none, none]) pn_12 (Nat.le_of_ble_eq_true rfl) ⟨4, rfl⟩ ?_
  show VX12_hangs g (d + 1) P 0 [some (.ref 179), none, none, none, none] [] σ
  refine x_iconst (v := 1) (dxX12_hangs_0 0 rfl) rfl ?_
  refine x_istore_n (i := 1) (dxX12_hangs_0 1 rfl) rfl (Nat.le_of_ble_eq_true rfl) rfl rfl ?_
  refine x_iconst (v := 0) (dxX12_hangs_0 2 rfl) rfl ?_
  refine x_istore_n (i := 2) (dxX12_hangs_0 3 rfl) rfl (Nat.le_of_ble_eq_true rfl) rfl rfl ?_
  exact h
theorem vcX12_hangs_4 {g : GV} {d : Nat} {P : Int32 → PS → Prop} {σ : PS} (hL : Lay σ) (l1 : Int32) (l2 : Int32) (h : (10 ≤ l2 → (¬ l1 = ((jshl 1 (mi σ 179 35)) - 1) → P 0 σ) ∧ (l1 = ((jshl 1 (mi σ 179 35)) - 1) → P 1 σ)) ∧ (¬ 10 ≤ l2 → VX12_hangs g (d + 1) P 12 [some (.ref 179), some (.int l1), some (.int l2), some (.int 0), none] [] σ)) : VX12_hangs g (d + 1) P 4 [some (.ref 179), some (.int l1), some (.int l2), none, none] [] σ := by
  refine x_iload_n (i := 2) (dxX12_hangs_0 4 rfl) rfl rfl ?_
  refine x_bipush (v := 10) (dxX12_hangs_0 5 rfl) rfl ?_
  refine x_icmp_ge (tgt := 78) (dxX12_hangs_0 6 rfl) (by decide) (fun hc => ?_) (fun hc => ?_)
  · replace h := h.1 hc
    refine x_iload_n (i := 1) (dxX12_hangs_1 13 rfl) rfl rfl ?_
    refine x_iconst (v := 1) (dxX12_hangs_1 14 rfl) rfl ?_
    refine x_aload_n (i := 0) (dxX12_hangs_1 15 rfl) rfl rfl ?_
    refine gf_12_177 (kd_179 hL) rfl (dxX12_hangs_1 16 rfl) ?_
    refine x_ishl (dxX12_hangs_1 17 rfl) ?_
    refine x_iconst (v := 1) (dxX12_hangs_1 18 rfl) rfl ?_
    refine x_isub (dxX12_hangs_1 19 rfl) ?_
    refine x_icmp_ne (tgt := 94) (dxX12_hangs_1 20 rfl) (by decide) (fun hc => ?_) (fun hc => ?_)
    · replace h := h.1 hc
      refine x_iconst (v := 0) (dxX12_hangs_1 23 rfl) rfl ?_
      exact x_iret (ty := .boolean) rfl rfl (dxX12_hangs_1 24 rfl) ⟨_, rfl, h⟩
    · replace h := h.2 hc
      refine x_iconst (v := 1) (dxX12_hangs_1 21 rfl) rfl ?_
      refine x_goto (tgt := 95) (dxX12_hangs_1 22 rfl) (by decide) ?_
      exact x_iret (ty := .boolean) rfl rfl (dxX12_hangs_1 24 rfl) ⟨_, rfl, h⟩
  · replace h := h.2 hc
    refine x_iconst (v := 0) (dxX12_hangs_0 7 rfl) rfl ?_
    refine x_istore_n (i := 3) (dxX12_hangs_0 8 rfl) rfl (Nat.le_of_ble_eq_true rfl) rfl rfl ?_
    exact h
theorem vcX12_hangs_12 {g : GV} {d : Nat} {P : Int32 → PS → Prop} {σ : PS} (hL : Lay σ) (l1 : Int32) (l2 : Int32) (l3 : Int32) (h : ((mi σ 179 35) ≤ l3 → ∀ x1 : Int32, x1 = l2 + 1 → VX12_hangs g (d + 1) P 4 [some (.ref 179), some (.int l1), some (.int x1), none, none] [] σ) ∧ (¬ (mi σ 179 35) ≤ l3 → VX12_hangs g (d + 1) P 23 [some (.ref 179), some (.int l1), some (.int l2), some (.int l3), some (.int 0)] [] σ)) : VX12_hangs g (d + 1) P 12 [some (.ref 179), some (.int l1), some (.int l2), some (.int l3), none] [] σ := by
  refine x_iload_n (i := 3) (dxX12_hangs_0 9 rfl) rfl rfl ?_
  refine x_aload_n (i := 0) (dxX12_hangs_0 10 rfl) rfl rfl ?_
  refine gf_12_177 (kd_179 hL) rfl (dxX12_hangs_0 11 rfl) ?_
  refine x_icmp_ge (tgt := 72) (dxX12_hangs_0 12 rfl) (by decide) (fun hc => ?_) (fun hc => ?_)
  · replace h := h.1 hc
    obtain ⟨x1, e2⟩ : ∃ y : Int32, y = l2 + 1 := ⟨_, rfl⟩
    replace h := h x1 e2
    refine x_iinc (v := x1) (dxX12_hangs_1 11 rfl) (i := 2) rfl (by rw [e2]; rfl) (Nat.le_of_ble_eq_true rfl) rfl rfl ?_
    refine x_goto (tgt := 4) (dxX12_hangs_1 12 rfl) (by decide) ?_
    refine x_mask [true, true, true, false, false] (L1 := [some (.ref 179), some (.int l1), some (.int x1), none, none]) rfl ?_
    exact h
  · replace h := h.2 hc
    refine x_iconst (v := 0) (dxX12_hangs_0 13 rfl) rfl ?_
    refine x_istore (dxX12_hangs_0 14 rfl) (Nat.le_of_ble_eq_true rfl) rfl rfl ?_
    exact h
theorem vcX12_hangs_23 {g : GV} {d : Nat} {P : Int32 → PS → Prop} {σ : PS} (hL : Lay σ) (l1 : Int32) (l2 : Int32) (l3 : Int32) (l4 : Int32) (h : (4 ≤ l4 → ∀ x3 : Int32, x3 = l3 + 1 → VX12_hangs g (d + 1) P 12 [some (.ref 179), some (.int l1), some (.int l2), some (.int x3), none] [] σ) ∧ (¬ 4 ≤ l4 → (¬ ((jshr l1 l3) &&& 1) = 1 → ∀ x5 : Int32, x5 = l4 + 1 → VX12_hangs g (d + 1) P 23 [some (.ref 179), some (.int l1), some (.int l2), some (.int l3), some (.int x5)] [] σ) ∧ (((jshr l1 l3) &&& 1) = 1 → CX12_behind g d [.ref 179, .int l3, .int l4] σ (fun (v8 : Int32) (s7 : PS) => Fr σ s7 ∧ (v8 < 0 → ∀ x9 : Int32, x9 = l4 + 1 → VX12_hangs g (d + 1) P 23 [some (.ref 179), some (.int l1), some (.int l2), some (.int l3), some (.int x9)] [] s7) ∧ (¬ v8 < 0 → CX12_behind g d [.ref 179, .int l3, .int l4] s7 (fun (v12 : Int32) (s11 : PS) => Fr s7 s11 ∧ ∀ x13 : Int32, x13 = l1 ||| (jshl 1 v12) → ∀ x15 : Int32, x15 = l4 + 1 → VX12_hangs g (d + 1) P 23 [some (.ref 179), some (.int x13), some (.int l2), some (.int l3), some (.int x15)] [] s11)))))) : VX12_hangs g (d + 1) P 23 [some (.ref 179), some (.int l1), some (.int l2), some (.int l3), some (.int l4)] [] σ := by
  refine x_iload (dxX12_hangs_0 15 rfl) rfl ?_
  refine x_iconst (v := 4) (dxX12_hangs_0 16 rfl) rfl ?_
  refine x_icmp_ge (tgt := 66) (dxX12_hangs_0 17 rfl) (by decide) (fun hc => ?_) (fun hc => ?_)
  · replace h := h.1 hc
    obtain ⟨x3, e4⟩ : ∃ y : Int32, y = l3 + 1 := ⟨_, rfl⟩
    replace h := h x3 e4
    refine x_iinc (v := x3) (dxX12_hangs_1 9 rfl) (i := 3) rfl (by rw [e4]; rfl) (Nat.le_of_ble_eq_true rfl) rfl rfl ?_
    refine x_goto (tgt := 12) (dxX12_hangs_1 10 rfl) (by decide) ?_
    refine x_mask [true, true, true, true, false] (L1 := [some (.ref 179), some (.int l1), some (.int l2), some (.int x3), none]) rfl ?_
    exact h
  · replace h := h.2 hc
    refine x_iload_n (i := 1) (dxX12_hangs_0 18 rfl) rfl rfl ?_
    refine x_iload_n (i := 3) (dxX12_hangs_0 19 rfl) rfl rfl ?_
    refine x_ishr (dxX12_hangs_0 20 rfl) ?_
    refine x_iconst (v := 1) (dxX12_hangs_0 21 rfl) rfl ?_
    refine x_iand (dxX12_hangs_0 22 rfl) ?_
    refine x_iconst (v := 1) (dxX12_hangs_0 23 rfl) rfl ?_
    refine x_icmp_ne (tgt := 60) (dxX12_hangs_0 24 rfl) (by decide) (fun hc => ?_) (fun hc => ?_)
    · replace h := h.1 hc
      obtain ⟨x5, e6⟩ : ∃ y : Int32, y = l4 + 1 := ⟨_, rfl⟩
      replace h := h x5 e6
      refine x_iinc (v := x5) (dxX12_hangs_1 7 rfl) (i := 4) rfl (by rw [e6]; rfl) (Nat.le_of_ble_eq_true rfl) rfl rfl ?_
      refine x_goto (tgt := 23) (dxX12_hangs_1 8 rfl) (by decide) ?_
      exact h
    · replace h := h.2 hc
      refine x_aload_n (i := 0) (dxX12_hangs_0 25 rfl) rfl rfl ?_
      refine x_iload_n (i := 3) (dxX12_hangs_0 26 rfl) rfl rfl ?_
      refine x_iload (dxX12_hangs_0 27 rfl) rfl ?_
      refine cl_12_335 (kd_179 hL) (Nat.le_of_ble_eq_true rfl) (dxX12_hangs_0 28 rfl) h (fun v8 s7 h => ?_) (Nat.le_refl _) (Nat.le_refl _)
      obtain ⟨hFs7, h⟩ := h
      have hKs7 : kd s7 = kd σ := hFs7.1.trans (rfl : kd σ = kd σ)
      have hLs7 : Lay s7 := hL.fr hFs7
      refine x_if_lt (tgt := 60) (dxX12_hangs_0 29 rfl) (by decide) (fun hc => ?_) (fun hc => ?_)
      · replace h := h.1 hc
        obtain ⟨x9, e10⟩ : ∃ y : Int32, y = l4 + 1 := ⟨_, rfl⟩
        replace h := h x9 e10
        refine x_iinc (v := x9) (dxX12_hangs_1 7 rfl) (i := 4) rfl (by rw [e10]; rfl) (Nat.le_of_ble_eq_true rfl) rfl rfl ?_
        refine x_goto (tgt := 23) (dxX12_hangs_1 8 rfl) (by decide) ?_
        exact h
      · replace h := h.2 hc
        refine x_iload_n (i := 1) (dxX12_hangs_0 30 rfl) rfl rfl ?_
        refine x_iconst (v := 1) (dxX12_hangs_0 31 rfl) rfl ?_
        refine x_aload_n (i := 0) (dxX12_hangs_1 0 rfl) rfl rfl ?_
        refine x_iload_n (i := 3) (dxX12_hangs_1 1 rfl) rfl rfl ?_
        refine x_iload (dxX12_hangs_1 2 rfl) rfl ?_
        refine cl_12_335 (kd_179 hLs7) (Nat.le_of_ble_eq_true rfl) (dxX12_hangs_1 3 rfl) h (fun v12 s11 h => ?_) (Nat.le_refl _) (Nat.le_refl _)
        obtain ⟨hFs11, h⟩ := h
        have hKs11 : kd s11 = kd σ := hFs11.1.trans hKs7
        have hLs11 : Lay s11 := hLs7.fr hFs11
        refine x_ishl (dxX12_hangs_1 4 rfl) ?_
        refine x_ior (dxX12_hangs_1 5 rfl) ?_
        refine x_topi (fun x13 e14 => ?_)
        replace h := h x13 e14
        refine x_istore_n (i := 1) (dxX12_hangs_1 6 rfl) rfl (Nat.le_of_ble_eq_true rfl) rfl rfl ?_
        obtain ⟨x15, e16⟩ : ∃ y : Int32, y = l4 + 1 := ⟨_, rfl⟩
        replace h := h x15 e16
        refine x_iinc (v := x15) (dxX12_hangs_1 7 rfl) (i := 4) rfl (by rw [e16]; rfl) (Nat.le_of_ble_eq_true rfl) rfl rfl ?_
        refine x_goto (tgt := 23) (dxX12_hangs_1 8 rfl) (by decide) ?_
        exact h
theorem vcX12_openSides {g : GV} {d : Nat} {P : Int32 → PS → Prop} {σ : PS} (hL : Lay σ)  (h : VX12_openSides g (d + 1) P 4 [some (.ref 179), some (.int 0), some (.int 0), none] [] σ) : CX12_openSides g (d + 1) [.ref 179] σ P := by
  refine x_entry (L := [some (.ref 179), none, none, none]) pn_12 (Nat.le_of_ble_eq_true rfl) ⟨3, rfl⟩ ?_
  show VX12_openSides g (d + 1) P 0 [some (.ref 179), none, none, none] [] σ
  refine x_iconst (v := 0) (dxX12_openSides_0 0 rfl) rfl ?_
  refine x_istore_n (i := 1) (dxX12_openSides_0 1 rfl) rfl (Nat.le_of_ble_eq_true rfl) rfl rfl ?_
  refine x_iconst (v := 0) (dxX12_openSides_0 2 rfl) rfl ?_
  refine x_istore_n (i := 2) (dxX12_openSides_0 3 rfl) rfl (Nat.le_of_ble_eq_true rfl) rfl rfl ?_
  exact h
theorem vcX12_openSides_4 {g : GV} {d : Nat} {P : Int32 → PS → Prop} {σ : PS} (hL : Lay σ) (l1 : Int32) (l2 : Int32) (h : ((mi σ 179 35) ≤ l2 → P l1 σ) ∧ (¬ (mi σ 179 35) ≤ l2 → VX12_openSides g (d + 1) P 14 [some (.ref 179), some (.int l1), some (.int l2), some (.int 0)] [] σ)) : VX12_openSides g (d + 1) P 4 [some (.ref 179), some (.int l1), some (.int l2), none] [] σ := by
  refine x_iload_n (i := 2) (dxX12_openSides_0 4 rfl) rfl rfl ?_
  refine x_aload_n (i := 0) (dxX12_openSides_0 5 rfl) rfl rfl ?_
  refine gf_12_177 (kd_179 hL) rfl (dxX12_openSides_0 6 rfl) ?_
  refine x_icmp_ge (tgt := 48) (dxX12_openSides_0 7 rfl) (by decide) (fun hc => ?_) (fun hc => ?_)
  · replace h := h.1 hc
    refine x_iload_n (i := 1) (dxX12_openSides_0 28 rfl) rfl rfl ?_
    exact x_iret (ty := .int) rfl rfl (dxX12_openSides_0 29 rfl) ⟨_, rfl, h⟩
  · replace h := h.2 hc
    refine x_iconst (v := 0) (dxX12_openSides_0 8 rfl) rfl ?_
    refine x_istore_n (i := 3) (dxX12_openSides_0 9 rfl) rfl (Nat.le_of_ble_eq_true rfl) rfl rfl ?_
    exact h
theorem vcX12_openSides_14 {g : GV} {d : Nat} {P : Int32 → PS → Prop} {σ : PS} (hL : Lay σ) (l1 : Int32) (l2 : Int32) (l3 : Int32) (h : (4 ≤ l3 → ∀ x1 : Int32, x1 = l2 + 1 → VX12_openSides g (d + 1) P 4 [some (.ref 179), some (.int l1), some (.int x1), none] [] σ) ∧ (¬ 4 ≤ l3 → CX12_behind g d [.ref 179, .int l2, .int l3] σ (fun (v4 : Int32) (s3 : PS) => Fr σ s3 ∧ (0 ≤ v4 → ∀ x5 : Int32, x5 = l1 + 0 → ∀ x7 : Int32, x7 = l3 + 1 → VX12_openSides g (d + 1) P 14 [some (.ref 179), some (.int x5), some (.int l2), some (.int x7)] [] s3) ∧ (¬ 0 ≤ v4 → ∀ x9 : Int32, x9 = l1 + 1 → ∀ x11 : Int32, x11 = l3 + 1 → VX12_openSides g (d + 1) P 14 [some (.ref 179), some (.int x9), some (.int l2), some (.int x11)] [] s3)))) : VX12_openSides g (d + 1) P 14 [some (.ref 179), some (.int l1), some (.int l2), some (.int l3)] [] σ := by
  refine x_iload_n (i := 3) (dxX12_openSides_0 10 rfl) rfl rfl ?_
  refine x_iconst (v := 4) (dxX12_openSides_0 11 rfl) rfl ?_
  refine x_icmp_ge (tgt := 42) (dxX12_openSides_0 12 rfl) (by decide) (fun hc => ?_) (fun hc => ?_)
  · replace h := h.1 hc
    obtain ⟨x1, e2⟩ : ∃ y : Int32, y = l2 + 1 := ⟨_, rfl⟩
    replace h := h x1 e2
    refine x_iinc (v := x1) (dxX12_openSides_0 26 rfl) (i := 2) rfl (by rw [e2]; rfl) (Nat.le_of_ble_eq_true rfl) rfl rfl ?_
    refine x_goto (tgt := 4) (dxX12_openSides_0 27 rfl) (by decide) ?_
    refine x_mask [true, true, true, false] (L1 := [some (.ref 179), some (.int l1), some (.int x1), none]) rfl ?_
    exact h
  · replace h := h.2 hc
    refine x_iload_n (i := 1) (dxX12_openSides_0 13 rfl) rfl rfl ?_
    refine x_aload_n (i := 0) (dxX12_openSides_0 14 rfl) rfl rfl ?_
    refine x_iload_n (i := 2) (dxX12_openSides_0 15 rfl) rfl rfl ?_
    refine x_iload_n (i := 3) (dxX12_openSides_0 16 rfl) rfl rfl ?_
    refine cl_12_335 (kd_179 hL) (Nat.le_of_ble_eq_true rfl) (dxX12_openSides_0 17 rfl) h (fun v4 s3 h => ?_) (Nat.le_refl _) (Nat.le_refl _)
    obtain ⟨hFs3, h⟩ := h
    have hKs3 : kd s3 = kd σ := hFs3.1.trans (rfl : kd σ = kd σ)
    have hLs3 : Lay s3 := hL.fr hFs3
    refine x_if_ge (tgt := 33) (dxX12_openSides_0 18 rfl) (by decide) (fun hc => ?_) (fun hc => ?_)
    · replace h := h.1 hc
      refine x_iconst (v := 0) (dxX12_openSides_0 21 rfl) rfl ?_
      refine x_iadd (dxX12_openSides_0 22 rfl) ?_
      refine x_topi (fun x5 e6 => ?_)
      replace h := h x5 e6
      refine x_istore_n (i := 1) (dxX12_openSides_0 23 rfl) rfl (Nat.le_of_ble_eq_true rfl) rfl rfl ?_
      obtain ⟨x7, e8⟩ : ∃ y : Int32, y = l3 + 1 := ⟨_, rfl⟩
      replace h := h x7 e8
      refine x_iinc (v := x7) (dxX12_openSides_0 24 rfl) (i := 3) rfl (by rw [e8]; rfl) (Nat.le_of_ble_eq_true rfl) rfl rfl ?_
      refine x_goto (tgt := 14) (dxX12_openSides_0 25 rfl) (by decide) ?_
      exact h
    · replace h := h.2 hc
      refine x_iconst (v := 1) (dxX12_openSides_0 19 rfl) rfl ?_
      refine x_goto (tgt := 34) (dxX12_openSides_0 20 rfl) (by decide) ?_
      refine x_iadd (dxX12_openSides_0 22 rfl) ?_
      refine x_topi (fun x9 e10 => ?_)
      replace h := h x9 e10
      refine x_istore_n (i := 1) (dxX12_openSides_0 23 rfl) rfl (Nat.le_of_ble_eq_true rfl) rfl rfl ?_
      obtain ⟨x11, e12⟩ : ∃ y : Int32, y = l3 + 1 := ⟨_, rfl⟩
      replace h := h x11 e12
      refine x_iinc (v := x11) (dxX12_openSides_0 24 rfl) (i := 3) rfl (by rw [e12]; rfl) (Nat.le_of_ble_eq_true rfl) rfl rfl ?_
      refine x_goto (tgt := 14) (dxX12_openSides_0 25 rfl) (by decide) ?_
      exact h
theorem vcX12_rimmed {g : GV} {d : Nat} {P : Int32 → PS → Prop} {σ : PS} (hL : Lay σ)  (h : VX12_rimmed g (d + 1) P 6 [some (.ref 179), some (.int 0), some (.int 0), some (.int 0), none, none, none] [] σ) : CX12_rimmed g (d + 1) [.ref 179] σ P := by
  refine x_entry (L := [some (.ref 179), none, none, none, none, none, none]) pn_12 (Nat.le_of_ble_eq_true rfl) ⟨6, rfl⟩ ?_
  show VX12_rimmed g (d + 1) P 0 [some (.ref 179), none, none, none, none, none, none] [] σ
  refine x_iconst (v := 0) (dxX12_rimmed_0 0 rfl) rfl ?_
  refine x_istore_n (i := 1) (dxX12_rimmed_0 1 rfl) rfl (Nat.le_of_ble_eq_true rfl) rfl rfl ?_
  refine x_iconst (v := 0) (dxX12_rimmed_0 2 rfl) rfl ?_
  refine x_istore_n (i := 2) (dxX12_rimmed_0 3 rfl) rfl (Nat.le_of_ble_eq_true rfl) rfl rfl ?_
  refine x_iconst (v := 0) (dxX12_rimmed_0 4 rfl) rfl ?_
  refine x_istore_n (i := 3) (dxX12_rimmed_0 5 rfl) rfl (Nat.le_of_ble_eq_true rfl) rfl rfl ?_
  exact h
theorem vcX12_rimmed_6 {g : GV} {d : Nat} {P : Int32 → PS → Prop} {σ : PS} (hL : Lay σ) (l1 : Int32) (l2 : Int32) (l3 : Int32) (h : (l1 = 0 → ∀ x1 : Int32, x1 = l1 + 1 → CX12_behind g d [.ref 179, .int l2, .int (jrem (l3 + 1) 4)] σ (fun (v4 : Int32) (s3 : PS) => Fr σ s3 ∧ (0 ≤ v4 → CX12_behind g d [.ref 179, .int v4, .int l3] s3 (fun (v6 : Int32) (s5 : PS) => Fr s3 s5 ∧ VX12_rimmed g (d + 1) P 49 [some (.ref 179), some (.int x1), some (.int l2), some (.int l3), some (.int v4), none, none] [.int v6] s5)) ∧ (¬ 0 ≤ v4 → VX12_rimmed g (d + 1) P 49 [some (.ref 179), some (.int x1), some (.int l2), some (.int l3), some (.int v4), none, none] [.int (-1)] s3))) ∧ (¬ l1 = 0 → (¬ l2 = 0 → ∀ x7 : Int32, x7 = l1 + 1 → CX12_behind g d [.ref 179, .int l2, .int (jrem (l3 + 1) 4)] σ (fun (v10 : Int32) (s9 : PS) => Fr σ s9 ∧ (0 ≤ v10 → CX12_behind g d [.ref 179, .int v10, .int l3] s9 (fun (v12 : Int32) (s11 : PS) => Fr s9 s11 ∧ VX12_rimmed g (d + 1) P 49 [some (.ref 179), some (.int x7), some (.int l2), some (.int l3), some (.int v10), none, none] [.int v12] s11)) ∧ (¬ 0 ≤ v10 → VX12_rimmed g (d + 1) P 49 [some (.ref 179), some (.int x7), some (.int l2), some (.int l3), some (.int v10), none, none] [.int (-1)] s9))) ∧ (l2 = 0 → (l3 = 0 → P l1 σ) ∧ (¬ l3 = 0 → ∀ x13 : Int32, x13 = l1 + 1 → CX12_behind g d [.ref 179, .int l2, .int (jrem (l3 + 1) 4)] σ (fun (v16 : Int32) (s15 : PS) => Fr σ s15 ∧ (0 ≤ v16 → CX12_behind g d [.ref 179, .int v16, .int l3] s15 (fun (v18 : Int32) (s17 : PS) => Fr s15 s17 ∧ VX12_rimmed g (d + 1) P 49 [some (.ref 179), some (.int x13), some (.int l2), some (.int l3), some (.int v16), none, none] [.int v18] s17)) ∧ (¬ 0 ≤ v16 → VX12_rimmed g (d + 1) P 49 [some (.ref 179), some (.int x13), some (.int l2), some (.int l3), some (.int v16), none, none] [.int (-1)] s15)))))) : VX12_rimmed g (d + 1) P 6 [some (.ref 179), some (.int l1), some (.int l2), some (.int l3), none, none, none] [] σ := by
  refine x_iload_n (i := 1) (dxX12_rimmed_0 6 rfl) rfl rfl ?_
  refine x_if_eq (tgt := 18) (dxX12_rimmed_0 7 rfl) (by decide) (fun hc => ?_) (fun hc => ?_)
  · replace h := h.1 hc
    obtain ⟨x1, e2⟩ : ∃ y : Int32, y = l1 + 1 := ⟨_, rfl⟩
    replace h := h x1 e2
    refine x_iinc (v := x1) (dxX12_rimmed_0 12 rfl) (i := 1) rfl (by rw [e2]; rfl) (Nat.le_of_ble_eq_true rfl) rfl rfl ?_
    refine x_aload_n (i := 0) (dxX12_rimmed_0 13 rfl) rfl rfl ?_
    refine x_iload_n (i := 2) (dxX12_rimmed_0 14 rfl) rfl rfl ?_
    refine x_iload_n (i := 3) (dxX12_rimmed_0 15 rfl) rfl rfl ?_
    refine x_iconst (v := 1) (dxX12_rimmed_0 16 rfl) rfl ?_
    refine x_iadd (dxX12_rimmed_0 17 rfl) ?_
    refine x_iconst (v := 4) (dxX12_rimmed_0 18 rfl) rfl ?_
    refine x_irem (dxX12_rimmed_0 19 rfl) (by decide) ?_
    refine cl_12_335 (kd_179 hL) (Nat.le_of_ble_eq_true rfl) (dxX12_rimmed_0 20 rfl) h (fun v4 s3 h => ?_) (Nat.le_refl _) (Nat.le_refl _)
    obtain ⟨hFs3, h⟩ := h
    have hKs3 : kd s3 = kd σ := hFs3.1.trans (rfl : kd σ = kd σ)
    have hLs3 : Lay s3 := hL.fr hFs3
    refine x_istore (dxX12_rimmed_0 21 rfl) (Nat.le_of_ble_eq_true rfl) rfl rfl ?_
    refine x_iload (dxX12_rimmed_0 22 rfl) rfl ?_
    refine x_if_ge (tgt := 42) (dxX12_rimmed_0 23 rfl) (by decide) (fun hc => ?_) (fun hc => ?_)
    · replace h := h.1 hc
      refine x_aload_n (i := 0) (dxX12_rimmed_0 26 rfl) rfl rfl ?_
      refine x_iload (dxX12_rimmed_0 27 rfl) rfl ?_
      refine x_iload_n (i := 3) (dxX12_rimmed_0 28 rfl) rfl rfl ?_
      refine cl_12_335 (kd_179 hLs3) (Nat.le_of_ble_eq_true rfl) (dxX12_rimmed_0 29 rfl) h (fun v6 s5 h => ?_) (Nat.le_refl _) (Nat.le_refl _)
      obtain ⟨hFs5, h⟩ := h
      have hKs5 : kd s5 = kd σ := hFs5.1.trans hKs3
      have hLs5 : Lay s5 := hLs3.fr hFs5
      exact h
    · replace h := h.2 hc
      refine x_iconst (v := (-1)) (dxX12_rimmed_0 24 rfl) rfl ?_
      refine x_goto (tgt := 49) (dxX12_rimmed_0 25 rfl) (by decide) ?_
      exact h
  · replace h := h.2 hc
    refine x_iload_n (i := 2) (dxX12_rimmed_0 8 rfl) rfl rfl ?_
    refine x_if_ne (tgt := 18) (dxX12_rimmed_0 9 rfl) (by decide) (fun hc => ?_) (fun hc => ?_)
    · replace h := h.1 hc
      obtain ⟨x7, e8⟩ : ∃ y : Int32, y = l1 + 1 := ⟨_, rfl⟩
      replace h := h x7 e8
      refine x_iinc (v := x7) (dxX12_rimmed_0 12 rfl) (i := 1) rfl (by rw [e8]; rfl) (Nat.le_of_ble_eq_true rfl) rfl rfl ?_
      refine x_aload_n (i := 0) (dxX12_rimmed_0 13 rfl) rfl rfl ?_
      refine x_iload_n (i := 2) (dxX12_rimmed_0 14 rfl) rfl rfl ?_
      refine x_iload_n (i := 3) (dxX12_rimmed_0 15 rfl) rfl rfl ?_
      refine x_iconst (v := 1) (dxX12_rimmed_0 16 rfl) rfl ?_
      refine x_iadd (dxX12_rimmed_0 17 rfl) ?_
      refine x_iconst (v := 4) (dxX12_rimmed_0 18 rfl) rfl ?_
      refine x_irem (dxX12_rimmed_0 19 rfl) (by decide) ?_
      refine cl_12_335 (kd_179 hL) (Nat.le_of_ble_eq_true rfl) (dxX12_rimmed_0 20 rfl) h (fun v10 s9 h => ?_) (Nat.le_refl _) (Nat.le_refl _)
      obtain ⟨hFs9, h⟩ := h
      have hKs9 : kd s9 = kd σ := hFs9.1.trans (rfl : kd σ = kd σ)
      have hLs9 : Lay s9 := hL.fr hFs9
      refine x_istore (dxX12_rimmed_0 21 rfl) (Nat.le_of_ble_eq_true rfl) rfl rfl ?_
      refine x_iload (dxX12_rimmed_0 22 rfl) rfl ?_
      refine x_if_ge (tgt := 42) (dxX12_rimmed_0 23 rfl) (by decide) (fun hc => ?_) (fun hc => ?_)
      · replace h := h.1 hc
        refine x_aload_n (i := 0) (dxX12_rimmed_0 26 rfl) rfl rfl ?_
        refine x_iload (dxX12_rimmed_0 27 rfl) rfl ?_
        refine x_iload_n (i := 3) (dxX12_rimmed_0 28 rfl) rfl rfl ?_
        refine cl_12_335 (kd_179 hLs9) (Nat.le_of_ble_eq_true rfl) (dxX12_rimmed_0 29 rfl) h (fun v12 s11 h => ?_) (Nat.le_refl _) (Nat.le_refl _)
        obtain ⟨hFs11, h⟩ := h
        have hKs11 : kd s11 = kd σ := hFs11.1.trans hKs9
        have hLs11 : Lay s11 := hLs9.fr hFs11
        exact h
      · replace h := h.2 hc
        refine x_iconst (v := (-1)) (dxX12_rimmed_0 24 rfl) rfl ?_
        refine x_goto (tgt := 49) (dxX12_rimmed_0 25 rfl) (by decide) ?_
        exact h
    · replace h := h.2 hc
      refine x_iload_n (i := 3) (dxX12_rimmed_0 10 rfl) rfl rfl ?_
      refine x_if_eq (tgt := 108) (dxX12_rimmed_0 11 rfl) (by decide) (fun hc => ?_) (fun hc => ?_)
      · replace h := h.1 hc
        refine x_iload_n (i := 1) (dxX12_rimmed_1 30 rfl) rfl rfl ?_
        exact x_iret (ty := .int) rfl rfl (dxX12_rimmed_1 31 rfl) ⟨_, rfl, h⟩
      · replace h := h.2 hc
        obtain ⟨x13, e14⟩ : ∃ y : Int32, y = l1 + 1 := ⟨_, rfl⟩
        replace h := h x13 e14
        refine x_iinc (v := x13) (dxX12_rimmed_0 12 rfl) (i := 1) rfl (by rw [e14]; rfl) (Nat.le_of_ble_eq_true rfl) rfl rfl ?_
        refine x_aload_n (i := 0) (dxX12_rimmed_0 13 rfl) rfl rfl ?_
        refine x_iload_n (i := 2) (dxX12_rimmed_0 14 rfl) rfl rfl ?_
        refine x_iload_n (i := 3) (dxX12_rimmed_0 15 rfl) rfl rfl ?_
        refine x_iconst (v := 1) (dxX12_rimmed_0 16 rfl) rfl ?_
        refine x_iadd (dxX12_rimmed_0 17 rfl) ?_
        refine x_iconst (v := 4) (dxX12_rimmed_0 18 rfl) rfl ?_
        refine x_irem (dxX12_rimmed_0 19 rfl) (by decide) ?_
        refine cl_12_335 (kd_179 hL) (Nat.le_of_ble_eq_true rfl) (dxX12_rimmed_0 20 rfl) h (fun v16 s15 h => ?_) (Nat.le_refl _) (Nat.le_refl _)
        obtain ⟨hFs15, h⟩ := h
        have hKs15 : kd s15 = kd σ := hFs15.1.trans (rfl : kd σ = kd σ)
        have hLs15 : Lay s15 := hL.fr hFs15
        refine x_istore (dxX12_rimmed_0 21 rfl) (Nat.le_of_ble_eq_true rfl) rfl rfl ?_
        refine x_iload (dxX12_rimmed_0 22 rfl) rfl ?_
        refine x_if_ge (tgt := 42) (dxX12_rimmed_0 23 rfl) (by decide) (fun hc => ?_) (fun hc => ?_)
        · replace h := h.1 hc
          refine x_aload_n (i := 0) (dxX12_rimmed_0 26 rfl) rfl rfl ?_
          refine x_iload (dxX12_rimmed_0 27 rfl) rfl ?_
          refine x_iload_n (i := 3) (dxX12_rimmed_0 28 rfl) rfl rfl ?_
          refine cl_12_335 (kd_179 hLs15) (Nat.le_of_ble_eq_true rfl) (dxX12_rimmed_0 29 rfl) h (fun v18 s17 h => ?_) (Nat.le_refl _) (Nat.le_refl _)
          obtain ⟨hFs17, h⟩ := h
          have hKs17 : kd s17 = kd σ := hFs17.1.trans hKs15
          have hLs17 : Lay s17 := hLs15.fr hFs17
          exact h
        · replace h := h.2 hc
          refine x_iconst (v := (-1)) (dxX12_rimmed_0 24 rfl) rfl ?_
          refine x_goto (tgt := 49) (dxX12_rimmed_0 25 rfl) (by decide) ?_
          exact h
theorem vcX12_rimmed_49 {g : GV} {d : Nat} {P : Int32 → PS → Prop} {σ : PS} (hL : Lay σ) (l1 : Int32) (l2 : Int32) (l3 : Int32) (l4 : Int32) (t0 : Int32) (h : (0 ≤ l4 → (0 ≤ t0 → (0 ≤ l4 → (0 ≤ t0 → ∀ x19 : Int32, x19 = jrem (l3 + 3) 4 → VX12_rimmed g (d + 1) P 6 [some (.ref 179), some (.int l1), some (.int t0), some (.int x19), none, none, none] [] σ) ∧ (¬ 0 ≤ t0 → VX12_rimmed g (d + 1) P 6 [some (.ref 179), some (.int l1), some (.int t0), some (.int l3), none, none, none] [] σ)) ∧ (¬ 0 ≤ l4 → ∀ x21 : Int32, x21 = jrem (l3 + 1) 4 → VX12_rimmed g (d + 1) P 6 [some (.ref 179), some (.int l1), some (.int t0), some (.int x21), none, none, none] [] σ)) ∧ (¬ 0 ≤ t0 → (0 ≤ l4 → (0 ≤ t0 → ∀ x23 : Int32, x23 = jrem (l3 + 3) 4 → VX12_rimmed g (d + 1) P 6 [some (.ref 179), some (.int l1), some (.int l4), some (.int x23), none, none, none] [] σ) ∧ (¬ 0 ≤ t0 → VX12_rimmed g (d + 1) P 6 [some (.ref 179), some (.int l1), some (.int l4), some (.int l3), none, none, none] [] σ)) ∧ (¬ 0 ≤ l4 → ∀ x25 : Int32, x25 = jrem (l3 + 1) 4 → VX12_rimmed g (d + 1) P 6 [some (.ref 179), some (.int l1), some (.int l4), some (.int x25), none, none, none] [] σ))) ∧ (¬ 0 ≤ l4 → (0 ≤ l4 → (0 ≤ t0 → ∀ x27 : Int32, x27 = jrem (l3 + 3) 4 → VX12_rimmed g (d + 1) P 6 [some (.ref 179), some (.int l1), some (.int l2), some (.int x27), none, none, none] [] σ) ∧ (¬ 0 ≤ t0 → VX12_rimmed g (d + 1) P 6 [some (.ref 179), some (.int l1), some (.int l2), some (.int l3), none, none, none] [] σ)) ∧ (¬ 0 ≤ l4 → ∀ x29 : Int32, x29 = jrem (l3 + 1) 4 → VX12_rimmed g (d + 1) P 6 [some (.ref 179), some (.int l1), some (.int l2), some (.int x29), none, none, none] [] σ))) : VX12_rimmed g (d + 1) P 49 [some (.ref 179), some (.int l1), some (.int l2), some (.int l3), some (.int l4), none, none] [.int t0] σ := by
  refine x_istore (dxX12_rimmed_0 30 rfl) (Nat.le_of_ble_eq_true rfl) rfl rfl ?_
  refine x_iload (dxX12_rimmed_0 31 rfl) rfl ?_
  refine x_if_ge (tgt := 60) (dxX12_rimmed_1 0 rfl) (by decide) (fun hc => ?_) (fun hc => ?_)
  · replace h := h.1 hc
    refine x_iload (dxX12_rimmed_1 3 rfl) rfl ?_
    refine x_if_ge (tgt := 70) (dxX12_rimmed_1 4 rfl) (by decide) (fun hc => ?_) (fun hc => ?_)
    · replace h := h.1 hc
      refine x_iload (dxX12_rimmed_1 7 rfl) rfl ?_
      refine x_istore (dxX12_rimmed_1 8 rfl) (Nat.le_of_ble_eq_true rfl) rfl rfl ?_
      refine x_iload (dxX12_rimmed_1 9 rfl) rfl ?_
      refine x_if_ge (tgt := 87) (dxX12_rimmed_1 10 rfl) (by decide) (fun hc => ?_) (fun hc => ?_)
      · replace h := h.1 hc
        refine x_iload (dxX12_rimmed_1 17 rfl) rfl ?_
        refine x_if_ge (tgt := 96) (dxX12_rimmed_1 18 rfl) (by decide) (fun hc => ?_) (fun hc => ?_)
        · replace h := h.1 hc
          refine x_iload_n (i := 3) (dxX12_rimmed_1 21 rfl) rfl rfl ?_
          refine x_iconst (v := 3) (dxX12_rimmed_1 22 rfl) rfl ?_
          refine x_iadd (dxX12_rimmed_1 23 rfl) ?_
          refine x_iconst (v := 4) (dxX12_rimmed_1 24 rfl) rfl ?_
          refine x_irem (dxX12_rimmed_1 25 rfl) (by decide) ?_
          refine x_topi (fun x19 e20 => ?_)
          replace h := h x19 e20
          refine x_istore_n (i := 3) (dxX12_rimmed_1 26 rfl) rfl (Nat.le_of_ble_eq_true rfl) rfl rfl ?_
          refine x_iload (dxX12_rimmed_1 27 rfl) rfl ?_
          refine x_istore_n (i := 2) (dxX12_rimmed_1 28 rfl) rfl (Nat.le_of_ble_eq_true rfl) rfl rfl ?_
          refine x_goto (tgt := 6) (dxX12_rimmed_1 29 rfl) (by decide) ?_
          refine x_mask [true, true, true, true, false, false, false] (L1 := [some (.ref 179), some (.int l1), some (.int t0), some (.int x19), none, none, none]) rfl ?_
          exact h
        · replace h := h.2 hc
          refine x_iload_n (i := 3) (dxX12_rimmed_1 19 rfl) rfl rfl ?_
          refine x_goto (tgt := 101) (dxX12_rimmed_1 20 rfl) (by decide) ?_
          refine x_istore_n (i := 3) (dxX12_rimmed_1 26 rfl) rfl (Nat.le_of_ble_eq_true rfl) rfl rfl ?_
          refine x_iload (dxX12_rimmed_1 27 rfl) rfl ?_
          refine x_istore_n (i := 2) (dxX12_rimmed_1 28 rfl) rfl (Nat.le_of_ble_eq_true rfl) rfl rfl ?_
          refine x_goto (tgt := 6) (dxX12_rimmed_1 29 rfl) (by decide) ?_
          refine x_mask [true, true, true, true, false, false, false] (L1 := [some (.ref 179), some (.int l1), some (.int t0), some (.int l3), none, none, none]) rfl ?_
          exact h
      · replace h := h.2 hc
        refine x_iload_n (i := 3) (dxX12_rimmed_1 11 rfl) rfl rfl ?_
        refine x_iconst (v := 1) (dxX12_rimmed_1 12 rfl) rfl ?_
        refine x_iadd (dxX12_rimmed_1 13 rfl) ?_
        refine x_iconst (v := 4) (dxX12_rimmed_1 14 rfl) rfl ?_
        refine x_irem (dxX12_rimmed_1 15 rfl) (by decide) ?_
        refine x_goto (tgt := 101) (dxX12_rimmed_1 16 rfl) (by decide) ?_
        refine x_topi (fun x21 e22 => ?_)
        replace h := h x21 e22
        refine x_istore_n (i := 3) (dxX12_rimmed_1 26 rfl) rfl (Nat.le_of_ble_eq_true rfl) rfl rfl ?_
        refine x_iload (dxX12_rimmed_1 27 rfl) rfl ?_
        refine x_istore_n (i := 2) (dxX12_rimmed_1 28 rfl) rfl (Nat.le_of_ble_eq_true rfl) rfl rfl ?_
        refine x_goto (tgt := 6) (dxX12_rimmed_1 29 rfl) (by decide) ?_
        refine x_mask [true, true, true, true, false, false, false] (L1 := [some (.ref 179), some (.int l1), some (.int t0), some (.int x21), none, none, none]) rfl ?_
        exact h
    · replace h := h.2 hc
      refine x_iload (dxX12_rimmed_1 5 rfl) rfl ?_
      refine x_goto (tgt := 72) (dxX12_rimmed_1 6 rfl) (by decide) ?_
      refine x_istore (dxX12_rimmed_1 8 rfl) (Nat.le_of_ble_eq_true rfl) rfl rfl ?_
      refine x_iload (dxX12_rimmed_1 9 rfl) rfl ?_
      refine x_if_ge (tgt := 87) (dxX12_rimmed_1 10 rfl) (by decide) (fun hc => ?_) (fun hc => ?_)
      · replace h := h.1 hc
        refine x_iload (dxX12_rimmed_1 17 rfl) rfl ?_
        refine x_if_ge (tgt := 96) (dxX12_rimmed_1 18 rfl) (by decide) (fun hc => ?_) (fun hc => ?_)
        · replace h := h.1 hc
          refine x_iload_n (i := 3) (dxX12_rimmed_1 21 rfl) rfl rfl ?_
          refine x_iconst (v := 3) (dxX12_rimmed_1 22 rfl) rfl ?_
          refine x_iadd (dxX12_rimmed_1 23 rfl) ?_
          refine x_iconst (v := 4) (dxX12_rimmed_1 24 rfl) rfl ?_
          refine x_irem (dxX12_rimmed_1 25 rfl) (by decide) ?_
          refine x_topi (fun x23 e24 => ?_)
          replace h := h x23 e24
          refine x_istore_n (i := 3) (dxX12_rimmed_1 26 rfl) rfl (Nat.le_of_ble_eq_true rfl) rfl rfl ?_
          refine x_iload (dxX12_rimmed_1 27 rfl) rfl ?_
          refine x_istore_n (i := 2) (dxX12_rimmed_1 28 rfl) rfl (Nat.le_of_ble_eq_true rfl) rfl rfl ?_
          refine x_goto (tgt := 6) (dxX12_rimmed_1 29 rfl) (by decide) ?_
          refine x_mask [true, true, true, true, false, false, false] (L1 := [some (.ref 179), some (.int l1), some (.int l4), some (.int x23), none, none, none]) rfl ?_
          exact h
        · replace h := h.2 hc
          refine x_iload_n (i := 3) (dxX12_rimmed_1 19 rfl) rfl rfl ?_
          refine x_goto (tgt := 101) (dxX12_rimmed_1 20 rfl) (by decide) ?_
          refine x_istore_n (i := 3) (dxX12_rimmed_1 26 rfl) rfl (Nat.le_of_ble_eq_true rfl) rfl rfl ?_
          refine x_iload (dxX12_rimmed_1 27 rfl) rfl ?_
          refine x_istore_n (i := 2) (dxX12_rimmed_1 28 rfl) rfl (Nat.le_of_ble_eq_true rfl) rfl rfl ?_
          refine x_goto (tgt := 6) (dxX12_rimmed_1 29 rfl) (by decide) ?_
          refine x_mask [true, true, true, true, false, false, false] (L1 := [some (.ref 179), some (.int l1), some (.int l4), some (.int l3), none, none, none]) rfl ?_
          exact h
      · replace h := h.2 hc
        refine x_iload_n (i := 3) (dxX12_rimmed_1 11 rfl) rfl rfl ?_
        refine x_iconst (v := 1) (dxX12_rimmed_1 12 rfl) rfl ?_
        refine x_iadd (dxX12_rimmed_1 13 rfl) ?_
        refine x_iconst (v := 4) (dxX12_rimmed_1 14 rfl) rfl ?_
        refine x_irem (dxX12_rimmed_1 15 rfl) (by decide) ?_
        refine x_goto (tgt := 101) (dxX12_rimmed_1 16 rfl) (by decide) ?_
        refine x_topi (fun x25 e26 => ?_)
        replace h := h x25 e26
        refine x_istore_n (i := 3) (dxX12_rimmed_1 26 rfl) rfl (Nat.le_of_ble_eq_true rfl) rfl rfl ?_
        refine x_iload (dxX12_rimmed_1 27 rfl) rfl ?_
        refine x_istore_n (i := 2) (dxX12_rimmed_1 28 rfl) rfl (Nat.le_of_ble_eq_true rfl) rfl rfl ?_
        refine x_goto (tgt := 6) (dxX12_rimmed_1 29 rfl) (by decide) ?_
        refine x_mask [true, true, true, true, false, false, false] (L1 := [some (.ref 179), some (.int l1), some (.int l4), some (.int x25), none, none, none]) rfl ?_
        exact h
  · replace h := h.2 hc
    refine x_iload_n (i := 2) (dxX12_rimmed_1 1 rfl) rfl rfl ?_
    refine x_goto (tgt := 72) (dxX12_rimmed_1 2 rfl) (by decide) ?_
    refine x_istore (dxX12_rimmed_1 8 rfl) (Nat.le_of_ble_eq_true rfl) rfl rfl ?_
    refine x_iload (dxX12_rimmed_1 9 rfl) rfl ?_
    refine x_if_ge (tgt := 87) (dxX12_rimmed_1 10 rfl) (by decide) (fun hc => ?_) (fun hc => ?_)
    · replace h := h.1 hc
      refine x_iload (dxX12_rimmed_1 17 rfl) rfl ?_
      refine x_if_ge (tgt := 96) (dxX12_rimmed_1 18 rfl) (by decide) (fun hc => ?_) (fun hc => ?_)
      · replace h := h.1 hc
        refine x_iload_n (i := 3) (dxX12_rimmed_1 21 rfl) rfl rfl ?_
        refine x_iconst (v := 3) (dxX12_rimmed_1 22 rfl) rfl ?_
        refine x_iadd (dxX12_rimmed_1 23 rfl) ?_
        refine x_iconst (v := 4) (dxX12_rimmed_1 24 rfl) rfl ?_
        refine x_irem (dxX12_rimmed_1 25 rfl) (by decide) ?_
        refine x_topi (fun x27 e28 => ?_)
        replace h := h x27 e28
        refine x_istore_n (i := 3) (dxX12_rimmed_1 26 rfl) rfl (Nat.le_of_ble_eq_true rfl) rfl rfl ?_
        refine x_iload (dxX12_rimmed_1 27 rfl) rfl ?_
        refine x_istore_n (i := 2) (dxX12_rimmed_1 28 rfl) rfl (Nat.le_of_ble_eq_true rfl) rfl rfl ?_
        refine x_goto (tgt := 6) (dxX12_rimmed_1 29 rfl) (by decide) ?_
        refine x_mask [true, true, true, true, false, false, false] (L1 := [some (.ref 179), some (.int l1), some (.int l2), some (.int x27), none, none, none]) rfl ?_
        exact h
      · replace h := h.2 hc
        refine x_iload_n (i := 3) (dxX12_rimmed_1 19 rfl) rfl rfl ?_
        refine x_goto (tgt := 101) (dxX12_rimmed_1 20 rfl) (by decide) ?_
        refine x_istore_n (i := 3) (dxX12_rimmed_1 26 rfl) rfl (Nat.le_of_ble_eq_true rfl) rfl rfl ?_
        refine x_iload (dxX12_rimmed_1 27 rfl) rfl ?_
        refine x_istore_n (i := 2) (dxX12_rimmed_1 28 rfl) rfl (Nat.le_of_ble_eq_true rfl) rfl rfl ?_
        refine x_goto (tgt := 6) (dxX12_rimmed_1 29 rfl) (by decide) ?_
        refine x_mask [true, true, true, true, false, false, false] (L1 := [some (.ref 179), some (.int l1), some (.int l2), some (.int l3), none, none, none]) rfl ?_
        exact h
    · replace h := h.2 hc
      refine x_iload_n (i := 3) (dxX12_rimmed_1 11 rfl) rfl rfl ?_
      refine x_iconst (v := 1) (dxX12_rimmed_1 12 rfl) rfl ?_
      refine x_iadd (dxX12_rimmed_1 13 rfl) ?_
      refine x_iconst (v := 4) (dxX12_rimmed_1 14 rfl) rfl ?_
      refine x_irem (dxX12_rimmed_1 15 rfl) (by decide) ?_
      refine x_goto (tgt := 101) (dxX12_rimmed_1 16 rfl) (by decide) ?_
      refine x_topi (fun x29 e30 => ?_)
      replace h := h x29 e30
      refine x_istore_n (i := 3) (dxX12_rimmed_1 26 rfl) rfl (Nat.le_of_ble_eq_true rfl) rfl rfl ?_
      refine x_iload (dxX12_rimmed_1 27 rfl) rfl ?_
      refine x_istore_n (i := 2) (dxX12_rimmed_1 28 rfl) rfl (Nat.le_of_ble_eq_true rfl) rfl rfl ?_
      refine x_goto (tgt := 6) (dxX12_rimmed_1 29 rfl) (by decide) ?_
      refine x_mask [true, true, true, true, false, false, false] (L1 := [some (.ref 179), some (.int l1), some (.int l2), some (.int x29), none, none, none]) rfl ?_
      exact h
theorem vcX12_lays {g : GV} {d : Nat} {P : Int32 → PS → Prop} {σ : PS} (hL : Lay σ)  (h : ∀ s1 : PS, s1 = si σ 179 35 0 → VX12_lays g (d + 1) P 7 [some (.ref 179), some (.int 0)] [] s1) : CX12_lays g (d + 1) [.ref 179] σ P := by
  refine x_entry (L := [some (.ref 179), none]) pn_12 (Nat.le_of_ble_eq_true rfl) ⟨1, rfl⟩ ?_
  show VX12_lays g (d + 1) P 0 [some (.ref 179), none] [] σ
  refine x_aload_n (i := 0) (dxX12_lays_0 0 rfl) rfl rfl ?_
  refine x_iconst (v := 0) (dxX12_lays_0 1 rfl) rfl ?_
  refine pf_12_177 (kd_179 hL) (dxX12_lays_0 2 rfl) ?_
  refine x_sto (fun s1 e2 => ?_)
  replace h := h s1 e2
  have hKs1 : kd s1 = kd σ := by rw [e2]; exact (rfl : kd σ = kd σ)
  have hLs1 : Lay s1 := by rw [e2]; exact hL.si
  refine x_iconst (v := 0) (dxX12_lays_0 3 rfl) rfl ?_
  refine x_istore_n (i := 1) (dxX12_lays_0 4 rfl) rfl (Nat.le_of_ble_eq_true rfl) rfl rfl ?_
  exact h
theorem vcX12_lays_7 {g : GV} {d : Nat} {P : Int32 → PS → Prop} {σ : PS} (hL : Lay σ) (l1 : Int32) (h : (256 ≤ l1 → (¬ (mi σ 179 35) = 0 → CX12_hangs g d [.ref 179] σ (fun (v4 : Int32) (s3 : PS) => Fr σ s3 ∧ (¬ v4 = 0 → CX12_rimmed g d [.ref 179] s3 (fun (v6 : Int32) (s5 : PS) => Fr s3 s5 ∧ CX12_openSides g d [.ref 179] s5 (fun (v8 : Int32) (s7 : PS) => Fr s5 s7 ∧ (v8 ≤ v6 → P 0 s7) ∧ (¬ v8 ≤ v6 → P 10 s7)))) ∧ (v4 = 0 → P 9 s3))) ∧ ((mi σ 179 35) = 0 → P 8 σ)) ∧ (¬ 256 ≤ l1 → vp_in l1 256 ∧ (¬ (mi σ 200 (Int32.toNatClampNeg l1)) = 0 → vp_in (mi σ 179 35) 10 ∧ ∀ s11 : PS, s11 = si σ 201 (Int32.toNatClampNeg (mi σ 179 35)) (jrem l1 16) → vp_in (mi s11 179 35) 10 ∧ ∀ s14 : PS, s14 = si s11 202 (Int32.toNatClampNeg (mi s11 179 35)) (l1 / 16) → ∀ s16 : PS, s16 = si s14 179 35 ((mi s14 179 35) + 1) → ∀ x18 : Int32, x18 = l1 + 1 → VX12_lays g (d + 1) P 7 [some (.ref 179), some (.int x18)] [] s16) ∧ ((mi σ 200 (Int32.toNatClampNeg l1)) = 0 → ∀ x20 : Int32, x20 = l1 + 1 → VX12_lays g (d + 1) P 7 [some (.ref 179), some (.int x20)] [] σ))) : VX12_lays g (d + 1) P 7 [some (.ref 179), some (.int l1)] [] σ := by
  refine x_iload_n (i := 1) (dxX12_lays_0 5 rfl) rfl rfl ?_
  refine x_sipush (v := 256) (dxX12_lays_0 6 rfl) rfl ?_
  refine x_icmp_ge (tgt := 68) (dxX12_lays_0 7 rfl) (by decide) (fun hc => ?_) (fun hc => ?_)
  · replace h := h.1 hc
    refine x_aload_n (i := 0) (dxX12_lays_1 6 rfl) rfl rfl ?_
    refine gf_12_177 (kd_179 hL) rfl (dxX12_lays_1 7 rfl) ?_
    refine x_if_ne (tgt := 80) (dxX12_lays_1 8 rfl) (by decide) (fun hc => ?_) (fun hc => ?_)
    · replace h := h.1 hc
      refine x_aload_n (i := 0) (dxX12_lays_1 11 rfl) rfl rfl ?_
      refine cl_12_348 (kd_179 hL) (Nat.le_of_ble_eq_true rfl) (dxX12_lays_1 12 rfl) h (fun v4 s3 h => ?_) (Nat.le_refl _) (Nat.le_refl _)
      obtain ⟨hFs3, h⟩ := h
      have hKs3 : kd s3 = kd σ := hFs3.1.trans (rfl : kd σ = kd σ)
      have hLs3 : Lay s3 := hL.fr hFs3
      refine x_if_ne (tgt := 92) (dxX12_lays_1 13 rfl) (by decide) (fun hc => ?_) (fun hc => ?_)
      · replace h := h.1 hc
        refine x_aload_n (i := 0) (dxX12_lays_1 16 rfl) rfl rfl ?_
        refine cl_12_351 (kd_179 hLs3) (Nat.le_of_ble_eq_true rfl) (dxX12_lays_1 17 rfl) h (fun v6 s5 h => ?_) (Nat.le_refl _) (Nat.le_refl _)
        obtain ⟨hFs5, h⟩ := h
        have hKs5 : kd s5 = kd σ := hFs5.1.trans hKs3
        have hLs5 : Lay s5 := hLs3.fr hFs5
        refine x_aload_n (i := 0) (dxX12_lays_1 18 rfl) rfl rfl ?_
        refine cl_12_354 (kd_179 hLs5) (Nat.le_of_ble_eq_true rfl) (dxX12_lays_1 19 rfl) h (fun v8 s7 h => ?_) (Nat.le_refl _) (Nat.le_refl _)
        obtain ⟨hFs7, h⟩ := h
        have hKs7 : kd s7 = kd σ := hFs7.1.trans hKs5
        have hLs7 : Lay s7 := hLs5.fr hFs7
        refine x_icmp_ge (tgt := 108) (dxX12_lays_1 20 rfl) (by decide) (fun hc => ?_) (fun hc => ?_)
        · replace h := h.1 hc
          refine x_iconst (v := 0) (dxX12_lays_1 23 rfl) rfl ?_
          exact x_iret (ty := .int) rfl rfl (dxX12_lays_1 24 rfl) ⟨_, rfl, h⟩
        · replace h := h.2 hc
          refine x_bipush (v := 10) (dxX12_lays_1 21 rfl) rfl ?_
          refine x_goto (tgt := 109) (dxX12_lays_1 22 rfl) (by decide) ?_
          exact x_iret (ty := .int) rfl rfl (dxX12_lays_1 24 rfl) ⟨_, rfl, h⟩
      · replace h := h.2 hc
        refine x_bipush (v := 9) (dxX12_lays_1 14 rfl) rfl ?_
        refine x_goto (tgt := 109) (dxX12_lays_1 15 rfl) (by decide) ?_
        exact x_iret (ty := .int) rfl rfl (dxX12_lays_1 24 rfl) ⟨_, rfl, h⟩
    · replace h := h.2 hc
      refine x_bipush (v := 8) (dxX12_lays_1 9 rfl) rfl ?_
      refine x_goto (tgt := 109) (dxX12_lays_1 10 rfl) (by decide) ?_
      exact x_iret (ty := .int) rfl rfl (dxX12_lays_1 24 rfl) ⟨_, rfl, h⟩
  · replace h := h.2 hc
    refine x_aload_n (i := 0) (dxX12_lays_0 8 rfl) rfl rfl ?_
    refine gf_12_71 (kd_179 hL) (rv_179_33 hL) (dxX12_lays_0 9 rfl) ?_
    refine x_iload_n (i := 1) (dxX12_lays_0 10 rfl) rfl rfl ?_
    obtain ⟨hi9, h⟩ := h
    refine x_zald (kd_200 hL) hi9 (dxX12_lays_0 11 rfl) ?_
    refine x_if_ne (tgt := 26) (dxX12_lays_0 12 rfl) (by decide) (fun hc => ?_) (fun hc => ?_)
    · replace h := h.1 hc
      refine x_aload_n (i := 0) (dxX12_lays_0 14 rfl) rfl rfl ?_
      refine gf_12_75 (kd_179 hL) (rv_179_36 hL) (dxX12_lays_0 15 rfl) ?_
      refine x_aload_n (i := 0) (dxX12_lays_0 16 rfl) rfl rfl ?_
      refine gf_12_177 (kd_179 hL) rfl (dxX12_lays_0 17 rfl) ?_
      refine x_iload_n (i := 1) (dxX12_lays_0 18 rfl) rfl rfl ?_
      refine x_bipush (v := 16) (dxX12_lays_0 19 rfl) rfl ?_
      refine x_irem (dxX12_lays_0 20 rfl) (by decide) ?_
      obtain ⟨hi10, h⟩ := h
      refine x_iast (kd_201 hL) hi10 (dxX12_lays_0 21 rfl) ?_
      refine x_sto (fun s11 e12 => ?_)
      replace h := h s11 e12
      have hKs11 : kd s11 = kd σ := by rw [e12]; exact (rfl : kd σ = kd σ)
      have hLs11 : Lay s11 := by rw [e12]; exact hL.si
      refine x_aload_n (i := 0) (dxX12_lays_0 22 rfl) rfl rfl ?_
      refine gf_12_78 (kd_179 hLs11) (rv_179_37 hLs11) (dxX12_lays_0 23 rfl) ?_
      refine x_aload_n (i := 0) (dxX12_lays_0 24 rfl) rfl rfl ?_
      refine gf_12_177 (kd_179 hLs11) rfl (dxX12_lays_0 25 rfl) ?_
      refine x_iload_n (i := 1) (dxX12_lays_0 26 rfl) rfl rfl ?_
      refine x_bipush (v := 16) (dxX12_lays_0 27 rfl) rfl ?_
      refine x_idiv (dxX12_lays_0 28 rfl) (by decide) ?_
      obtain ⟨hi13, h⟩ := h
      refine x_iast (kd_202 hLs11) hi13 (dxX12_lays_0 29 rfl) ?_
      refine x_sto (fun s14 e15 => ?_)
      replace h := h s14 e15
      have hKs14 : kd s14 = kd σ := by rw [e15]; exact hKs11
      have hLs14 : Lay s14 := by rw [e15]; exact hLs11.si
      refine x_aload_n (i := 0) (dxX12_lays_0 30 rfl) rfl rfl ?_
      refine x_dup (dxX12_lays_0 31 rfl) rfl ?_
      refine gf_12_177 (kd_179 hLs14) rfl (dxX12_lays_1 0 rfl) ?_
      refine x_iconst (v := 1) (dxX12_lays_1 1 rfl) rfl ?_
      refine x_iadd (dxX12_lays_1 2 rfl) ?_
      refine pf_12_177 (kd_179 hLs14) (dxX12_lays_1 3 rfl) ?_
      refine x_sto (fun s16 e17 => ?_)
      replace h := h s16 e17
      have hKs16 : kd s16 = kd σ := by rw [e17]; exact hKs14
      have hLs16 : Lay s16 := by rw [e17]; exact hLs14.si
      obtain ⟨x18, e19⟩ : ∃ y : Int32, y = l1 + 1 := ⟨_, rfl⟩
      replace h := h x18 e19
      refine x_iinc (v := x18) (dxX12_lays_1 4 rfl) (i := 1) rfl (by rw [e19]; rfl) (Nat.le_of_ble_eq_true rfl) rfl rfl ?_
      refine x_goto (tgt := 7) (dxX12_lays_1 5 rfl) (by decide) ?_
      exact h
    · replace h := h.2 hc
      refine x_goto (tgt := 62) (dxX12_lays_0 13 rfl) (by decide) ?_
      obtain ⟨x20, e21⟩ : ∃ y : Int32, y = l1 + 1 := ⟨_, rfl⟩
      replace h := h x20 e21
      refine x_iinc (v := x20) (dxX12_lays_1 4 rfl) (i := 1) rfl (by rw [e21]; rfl) (Nat.le_of_ble_eq_true rfl) rfl rfl ?_
      refine x_goto (tgt := 7) (dxX12_lays_1 5 rfl) (by decide) ?_
      exact h
theorem vcX12_figure {g : GV} {d : Nat} {P : Int32 → PS → Prop} {σ : PS} (hL : Lay σ)  (h : ∀ s1 : PS, s1 = si σ 179 0 0 → CX12_readsAll g d [.ref 179] s1 (fun (v4 : Int32) (s3 : PS) => Fr s1 s3 ∧ (v4 = 0 → P (mi s3 179 9) s3) ∧ (¬ v4 = 0 → CX12_works g d [.ref 179] s3 (fun (v6 : Int32) (s5 : PS) => Fr s3 s5 ∧ (¬ v6 = 0 → ∀ x7 : Int32, x7 = mi s5 179 35 → VX12_figure g (d + 1) P 31 [some (.ref 179), some (.int x7), some (.int 0), none] [] s5) ∧ (v6 = 0 → P (mi s5 179 9) s5))))) : CX12_figure g (d + 1) [.ref 179] σ P := by
  refine x_entry (L := [some (.ref 179), none, none, none]) pn_12 (Nat.le_of_ble_eq_true rfl) ⟨3, rfl⟩ ?_
  show VX12_figure g (d + 1) P 0 [some (.ref 179), none, none, none] [] σ
  refine x_aload_n (i := 0) (dxX12_figure_0 0 rfl) rfl rfl ?_
  refine x_iconst (v := 0) (dxX12_figure_0 1 rfl) rfl ?_
  refine pf_12_184 (kd_179 hL) (dxX12_figure_0 2 rfl) ?_
  refine x_sto (fun s1 e2 => ?_)
  replace h := h s1 e2
  have hKs1 : kd s1 = kd σ := by rw [e2]; exact (rfl : kd σ = kd σ)
  have hLs1 : Lay s1 := by rw [e2]; exact hL.si
  refine x_aload_n (i := 0) (dxX12_figure_0 3 rfl) rfl rfl ?_
  refine cl_12_357 (kd_179 hLs1) (Nat.le_of_ble_eq_true rfl) (dxX12_figure_0 4 rfl) h (fun v4 s3 h => ?_) (Nat.le_refl _) (Nat.le_refl _)
  obtain ⟨hFs3, h⟩ := h
  have hKs3 : kd s3 = kd σ := hFs3.1.trans hKs1
  have hLs3 : Lay s3 := hLs1.fr hFs3
  refine x_if_eq (tgt := 19) (dxX12_figure_0 5 rfl) (by decide) (fun hc => ?_) (fun hc => ?_)
  · replace h := h.1 hc
    refine x_aload_n (i := 0) (dxX12_figure_0 9 rfl) rfl rfl ?_
    refine gf_12_219 (kd_179 hLs3) rfl (dxX12_figure_0 10 rfl) ?_
    exact x_iret (ty := .int) rfl rfl (dxX12_figure_0 11 rfl) ⟨_, rfl, h⟩
  · replace h := h.2 hc
    refine x_aload_n (i := 0) (dxX12_figure_0 6 rfl) rfl rfl ?_
    refine cl_12_360 (kd_179 hLs3) (Nat.le_of_ble_eq_true rfl) (dxX12_figure_0 7 rfl) h (fun v6 s5 h => ?_) (Nat.le_refl _) (Nat.le_refl _)
    obtain ⟨hFs5, h⟩ := h
    have hKs5 : kd s5 = kd σ := hFs5.1.trans hKs3
    have hLs5 : Lay s5 := hLs3.fr hFs5
    refine x_if_ne (tgt := 24) (dxX12_figure_0 8 rfl) (by decide) (fun hc => ?_) (fun hc => ?_)
    · replace h := h.1 hc
      refine x_aload_n (i := 0) (dxX12_figure_0 12 rfl) rfl rfl ?_
      refine gf_12_177 (kd_179 hLs5) rfl (dxX12_figure_0 13 rfl) ?_
      refine x_topi (fun x7 e8 => ?_)
      replace h := h x7 e8
      refine x_istore_n (i := 1) (dxX12_figure_0 14 rfl) rfl (Nat.le_of_ble_eq_true rfl) rfl rfl ?_
      refine x_iconst (v := 0) (dxX12_figure_0 15 rfl) rfl ?_
      refine x_istore_n (i := 2) (dxX12_figure_0 16 rfl) rfl (Nat.le_of_ble_eq_true rfl) rfl rfl ?_
      exact h
    · replace h := h.2 hc
      refine x_aload_n (i := 0) (dxX12_figure_0 9 rfl) rfl rfl ?_
      refine gf_12_219 (kd_179 hLs5) rfl (dxX12_figure_0 10 rfl) ?_
      exact x_iret (ty := .int) rfl rfl (dxX12_figure_0 11 rfl) ⟨_, rfl, h⟩
theorem vcX12_figure_31 {g : GV} {d : Nat} {P : Int32 → PS → Prop} {σ : PS} (hL : Lay σ) (l1 : Int32) (l2 : Int32) (h : (10 ≤ l2 → CX12_lays g d [.ref 179] σ (fun (v10 : Int32) (s9 : PS) => Fr σ s9 ∧ (v10 ≤ 0 → CX12_shapes g d [.ref 179] s9 (fun (s11 : PS) => Fr s9 s11 ∧ P 0 s11)) ∧ (¬ v10 ≤ 0 → ∀ s13 : PS, s13 = si s9 179 35 l1 → VX12_figure g (d + 1) P 83 [some (.ref 179), none, some (.int v10), some (.int 0)] [] s13))) ∧ (¬ 10 ≤ l2 → vp_in l2 10 ∧ vp_in l2 10 ∧ ∀ s17 : PS, s17 = si σ 207 (Int32.toNatClampNeg l2) (mi σ 201 (Int32.toNatClampNeg l2)) → vp_in l2 10 ∧ vp_in l2 10 ∧ ∀ s21 : PS, s21 = si s17 208 (Int32.toNatClampNeg l2) (mi s17 202 (Int32.toNatClampNeg l2)) → ∀ x23 : Int32, x23 = l2 + 1 → VX12_figure g (d + 1) P 31 [some (.ref 179), some (.int l1), some (.int x23), none] [] s21)) : VX12_figure g (d + 1) P 31 [some (.ref 179), some (.int l1), some (.int l2), none] [] σ := by
  refine x_iload_n (i := 2) (dxX12_figure_0 17 rfl) rfl rfl ?_
  refine x_bipush (v := 10) (dxX12_figure_0 18 rfl) rfl ?_
  refine x_icmp_ge (tgt := 67) (dxX12_figure_0 19 rfl) (by decide) (fun hc => ?_) (fun hc => ?_)
  · replace h := h.1 hc
    refine x_aload_n (i := 0) (dxX12_figure_1 6 rfl) rfl rfl ?_
    refine cl_12_363 (kd_179 hL) (Nat.le_of_ble_eq_true rfl) (dxX12_figure_1 7 rfl) h (fun v10 s9 h => ?_) (Nat.le_refl _) (Nat.le_refl _)
    obtain ⟨hFs9, h⟩ := h
    have hKs9 : kd s9 = kd σ := hFs9.1.trans (rfl : kd σ = kd σ)
    have hLs9 : Lay s9 := hL.fr hFs9
    refine x_istore_n (i := 2) (dxX12_figure_1 8 rfl) rfl (Nat.le_of_ble_eq_true rfl) rfl rfl ?_
    refine x_iload_n (i := 2) (dxX12_figure_1 9 rfl) rfl rfl ?_
    refine x_if_le (tgt := 129) (dxX12_figure_1 10 rfl) (by decide) (fun hc => ?_) (fun hc => ?_)
    · replace h := h.1 hc
      refine x_aload_n (i := 0) (dxX12_figure_2 12 rfl) rfl rfl ?_
      refine cl_12_181 (kd_179 hLs9) (Nat.le_of_ble_eq_true rfl) (dxX12_figure_2 13 rfl) h (fun s11 h => ?_) (Nat.le_refl _) (Nat.le_refl _)
      obtain ⟨hFs11, h⟩ := h
      have hKs11 : kd s11 = kd σ := hFs11.1.trans hKs9
      have hLs11 : Lay s11 := hLs9.fr hFs11
      refine x_iconst (v := 0) (dxX12_figure_2 14 rfl) rfl ?_
      exact x_iret (ty := .int) rfl rfl (dxX12_figure_2 15 rfl) ⟨_, rfl, h⟩
    · replace h := h.2 hc
      refine x_aload_n (i := 0) (dxX12_figure_1 11 rfl) rfl rfl ?_
      refine x_iload_n (i := 1) (dxX12_figure_1 12 rfl) rfl rfl ?_
      refine pf_12_177 (kd_179 hLs9) (dxX12_figure_1 13 rfl) ?_
      refine x_sto (fun s13 e14 => ?_)
      replace h := h s13 e14
      have hKs13 : kd s13 = kd σ := by rw [e14]; exact hKs9
      have hLs13 : Lay s13 := by rw [e14]; exact hLs9.si
      refine x_iconst (v := 0) (dxX12_figure_1 14 rfl) rfl ?_
      refine x_istore_n (i := 3) (dxX12_figure_1 15 rfl) rfl (Nat.le_of_ble_eq_true rfl) rfl rfl ?_
      refine x_mask [true, false, true, true] (L1 := [some (.ref 179), none, some (.int v10), some (.int 0)]) rfl ?_
      exact h
  · replace h := h.2 hc
    refine x_aload_n (i := 0) (dxX12_figure_0 20 rfl) rfl rfl ?_
    refine gf_12_93 (kd_179 hL) (rv_179_43 hL) (dxX12_figure_0 21 rfl) ?_
    refine x_iload_n (i := 2) (dxX12_figure_0 22 rfl) rfl rfl ?_
    refine x_aload_n (i := 0) (dxX12_figure_0 23 rfl) rfl rfl ?_
    refine gf_12_75 (kd_179 hL) (rv_179_36 hL) (dxX12_figure_0 24 rfl) ?_
    refine x_iload_n (i := 2) (dxX12_figure_0 25 rfl) rfl rfl ?_
    obtain ⟨hi15, h⟩ := h
    refine x_iald (kd_201 hL) hi15 (dxX12_figure_0 26 rfl) ?_
    obtain ⟨hi16, h⟩ := h
    refine x_iast (kd_207 hL) hi16 (dxX12_figure_0 27 rfl) ?_
    refine x_sto (fun s17 e18 => ?_)
    replace h := h s17 e18
    have hKs17 : kd s17 = kd σ := by rw [e18]; exact (rfl : kd σ = kd σ)
    have hLs17 : Lay s17 := by rw [e18]; exact hL.si
    refine x_aload_n (i := 0) (dxX12_figure_0 28 rfl) rfl rfl ?_
    refine gf_12_96 (kd_179 hLs17) (rv_179_44 hLs17) (dxX12_figure_0 29 rfl) ?_
    refine x_iload_n (i := 2) (dxX12_figure_0 30 rfl) rfl rfl ?_
    refine x_aload_n (i := 0) (dxX12_figure_0 31 rfl) rfl rfl ?_
    refine gf_12_78 (kd_179 hLs17) (rv_179_37 hLs17) (dxX12_figure_1 0 rfl) ?_
    refine x_iload_n (i := 2) (dxX12_figure_1 1 rfl) rfl rfl ?_
    obtain ⟨hi19, h⟩ := h
    refine x_iald (kd_202 hLs17) hi19 (dxX12_figure_1 2 rfl) ?_
    obtain ⟨hi20, h⟩ := h
    refine x_iast (kd_208 hLs17) hi20 (dxX12_figure_1 3 rfl) ?_
    refine x_sto (fun s21 e22 => ?_)
    replace h := h s21 e22
    have hKs21 : kd s21 = kd σ := by rw [e22]; exact hKs17
    have hLs21 : Lay s21 := by rw [e22]; exact hLs17.si
    obtain ⟨x23, e24⟩ : ∃ y : Int32, y = l2 + 1 := ⟨_, rfl⟩
    replace h := h x23 e24
    refine x_iinc (v := x23) (dxX12_figure_1 4 rfl) (i := 2) rfl (by rw [e24]; rfl) (Nat.le_of_ble_eq_true rfl) rfl rfl ?_
    refine x_goto (tgt := 31) (dxX12_figure_1 5 rfl) (by decide) ?_
    exact h
theorem vcX12_figure_83 {g : GV} {d : Nat} {P : Int32 → PS → Prop} {σ : PS} (hL : Lay σ) (l2 : Int32) (l3 : Int32) (h : (10 ≤ l3 → P (l2 + (16 * (mi σ 179 3))) σ) ∧ (¬ 10 ≤ l3 → vp_in l3 10 ∧ vp_in l3 10 ∧ ∀ s27 : PS, s27 = si σ 201 (Int32.toNatClampNeg l3) (mi σ 207 (Int32.toNatClampNeg l3)) → vp_in l3 10 ∧ vp_in l3 10 ∧ ∀ s31 : PS, s31 = si s27 202 (Int32.toNatClampNeg l3) (mi s27 208 (Int32.toNatClampNeg l3)) → ∀ x33 : Int32, x33 = l3 + 1 → VX12_figure g (d + 1) P 83 [some (.ref 179), none, some (.int l2), some (.int x33)] [] s31)) : VX12_figure g (d + 1) P 83 [some (.ref 179), none, some (.int l2), some (.int l3)] [] σ := by
  refine x_iload_n (i := 3) (dxX12_figure_1 16 rfl) rfl rfl ?_
  refine x_bipush (v := 10) (dxX12_figure_1 17 rfl) rfl ?_
  refine x_icmp_ge (tgt := 119) (dxX12_figure_1 18 rfl) (by decide) (fun hc => ?_) (fun hc => ?_)
  · replace h := h.1 hc
    refine x_iload_n (i := 2) (dxX12_figure_2 5 rfl) rfl rfl ?_
    refine x_bipush (v := 16) (dxX12_figure_2 6 rfl) rfl ?_
    refine x_aload_n (i := 0) (dxX12_figure_2 7 rfl) rfl rfl ?_
    refine gf_12_192 (kd_179 hL) rfl (dxX12_figure_2 8 rfl) ?_
    refine x_imul (dxX12_figure_2 9 rfl) ?_
    refine x_iadd (dxX12_figure_2 10 rfl) ?_
    exact x_iret (ty := .int) rfl rfl (dxX12_figure_2 11 rfl) ⟨_, rfl, h⟩
  · replace h := h.2 hc
    refine x_aload_n (i := 0) (dxX12_figure_1 19 rfl) rfl rfl ?_
    refine gf_12_75 (kd_179 hL) (rv_179_36 hL) (dxX12_figure_1 20 rfl) ?_
    refine x_iload_n (i := 3) (dxX12_figure_1 21 rfl) rfl rfl ?_
    refine x_aload_n (i := 0) (dxX12_figure_1 22 rfl) rfl rfl ?_
    refine gf_12_93 (kd_179 hL) (rv_179_43 hL) (dxX12_figure_1 23 rfl) ?_
    refine x_iload_n (i := 3) (dxX12_figure_1 24 rfl) rfl rfl ?_
    obtain ⟨hi25, h⟩ := h
    refine x_iald (kd_207 hL) hi25 (dxX12_figure_1 25 rfl) ?_
    obtain ⟨hi26, h⟩ := h
    refine x_iast (kd_201 hL) hi26 (dxX12_figure_1 26 rfl) ?_
    refine x_sto (fun s27 e28 => ?_)
    replace h := h s27 e28
    have hKs27 : kd s27 = kd σ := by rw [e28]; exact (rfl : kd σ = kd σ)
    have hLs27 : Lay s27 := by rw [e28]; exact hL.si
    refine x_aload_n (i := 0) (dxX12_figure_1 27 rfl) rfl rfl ?_
    refine gf_12_78 (kd_179 hLs27) (rv_179_37 hLs27) (dxX12_figure_1 28 rfl) ?_
    refine x_iload_n (i := 3) (dxX12_figure_1 29 rfl) rfl rfl ?_
    refine x_aload_n (i := 0) (dxX12_figure_1 30 rfl) rfl rfl ?_
    refine gf_12_96 (kd_179 hLs27) (rv_179_44 hLs27) (dxX12_figure_1 31 rfl) ?_
    refine x_iload_n (i := 3) (dxX12_figure_2 0 rfl) rfl rfl ?_
    obtain ⟨hi29, h⟩ := h
    refine x_iald (kd_208 hLs27) hi29 (dxX12_figure_2 1 rfl) ?_
    obtain ⟨hi30, h⟩ := h
    refine x_iast (kd_202 hLs27) hi30 (dxX12_figure_2 2 rfl) ?_
    refine x_sto (fun s31 e32 => ?_)
    replace h := h s31 e32
    have hKs31 : kd s31 = kd σ := by rw [e32]; exact hKs27
    have hLs31 : Lay s31 := by rw [e32]; exact hLs27.si
    obtain ⟨x33, e34⟩ : ∃ y : Int32, y = l3 + 1 := ⟨_, rfl⟩
    replace h := h x33 e34
    refine x_iinc (v := x33) (dxX12_figure_2 3 rfl) (i := 3) rfl (by rw [e34]; rfl) (Nat.le_of_ble_eq_true rfl) rfl rfl ?_
    refine x_goto (tgt := 83) (dxX12_figure_2 4 rfl) (by decide) ?_
    exact h
theorem vcX12_isCell {g : GV} {d : Nat} {P : Int32 → PS → Prop} {σ : PS} (hL : Lay σ) (p0 : Int32) (h : (p0 < 0 → P 0 σ) ∧ (¬ p0 < 0 → ((mi σ 179 35) ≤ p0 → P 0 σ) ∧ (¬ (mi σ 179 35) ≤ p0 → P 1 σ))) : CX12_isCell g d [.ref 179, .int p0] σ P := by
  refine x_entry (L := [some (.ref 179), some (.int p0)]) pn_12 (Nat.le_of_ble_eq_true rfl) ⟨0, rfl⟩ ?_
  show VX12_isCell g d P 0 [some (.ref 179), some (.int p0)] [] σ
  refine x_iload_n (i := 1) (dxX12_isCell_0 0 rfl) rfl rfl ?_
  refine x_if_lt (tgt := 16) (dxX12_isCell_0 1 rfl) (by decide) (fun hc => ?_) (fun hc => ?_)
  · replace h := h.1 hc
    refine x_iconst (v := 0) (dxX12_isCell_0 8 rfl) rfl ?_
    exact x_iret (ty := .boolean) rfl rfl (dxX12_isCell_0 9 rfl) ⟨_, rfl, h⟩
  · replace h := h.2 hc
    refine x_iload_n (i := 1) (dxX12_isCell_0 2 rfl) rfl rfl ?_
    refine x_aload_n (i := 0) (dxX12_isCell_0 3 rfl) rfl rfl ?_
    refine gf_12_177 (kd_179 hL) rfl (dxX12_isCell_0 4 rfl) ?_
    refine x_icmp_ge (tgt := 16) (dxX12_isCell_0 5 rfl) (by decide) (fun hc => ?_) (fun hc => ?_)
    · replace h := h.1 hc
      refine x_iconst (v := 0) (dxX12_isCell_0 8 rfl) rfl ?_
      exact x_iret (ty := .boolean) rfl rfl (dxX12_isCell_0 9 rfl) ⟨_, rfl, h⟩
    · replace h := h.2 hc
      refine x_iconst (v := 1) (dxX12_isCell_0 6 rfl) rfl ?_
      refine x_goto (tgt := 17) (dxX12_isCell_0 7 rfl) (by decide) ?_
      exact x_iret (ty := .boolean) rfl rfl (dxX12_isCell_0 9 rfl) ⟨_, rfl, h⟩
theorem vcX12_isEdge {g : GV} {d : Nat} {P : Int32 → PS → Prop} {σ : PS} (hL : Lay σ) (p0 : Int32) (h : (p0 < 0 → P 0 σ) ∧ (¬ p0 < 0 → ((mi σ 179 38) ≤ p0 → P 0 σ) ∧ (¬ (mi σ 179 38) ≤ p0 → P 1 σ))) : CX12_isEdge g d [.ref 179, .int p0] σ P := by
  refine x_entry (L := [some (.ref 179), some (.int p0)]) pn_12 (Nat.le_of_ble_eq_true rfl) ⟨0, rfl⟩ ?_
  show VX12_isEdge g d P 0 [some (.ref 179), some (.int p0)] [] σ
  refine x_iload_n (i := 1) (dxX12_isEdge_0 0 rfl) rfl rfl ?_
  refine x_if_lt (tgt := 16) (dxX12_isEdge_0 1 rfl) (by decide) (fun hc => ?_) (fun hc => ?_)
  · replace h := h.1 hc
    refine x_iconst (v := 0) (dxX12_isEdge_0 8 rfl) rfl ?_
    exact x_iret (ty := .boolean) rfl rfl (dxX12_isEdge_0 9 rfl) ⟨_, rfl, h⟩
  · replace h := h.2 hc
    refine x_iload_n (i := 1) (dxX12_isEdge_0 2 rfl) rfl rfl ?_
    refine x_aload_n (i := 0) (dxX12_isEdge_0 3 rfl) rfl rfl ?_
    refine gf_12_332 (kd_179 hL) rfl (dxX12_isEdge_0 4 rfl) ?_
    refine x_icmp_ge (tgt := 16) (dxX12_isEdge_0 5 rfl) (by decide) (fun hc => ?_) (fun hc => ?_)
    · replace h := h.1 hc
      refine x_iconst (v := 0) (dxX12_isEdge_0 8 rfl) rfl ?_
      exact x_iret (ty := .boolean) rfl rfl (dxX12_isEdge_0 9 rfl) ⟨_, rfl, h⟩
    · replace h := h.2 hc
      refine x_iconst (v := 1) (dxX12_isEdge_0 6 rfl) rfl ?_
      refine x_goto (tgt := 17) (dxX12_isEdge_0 7 rfl) (by decide) ?_
      exact x_iret (ty := .boolean) rfl rfl (dxX12_isEdge_0 9 rfl) ⟨_, rfl, h⟩
theorem vcX12_cell {g : GV} {d : Nat} {P : Int32 → PS → Prop} {σ : PS} (hL : Lay σ) (p0 : Int32) (p1 : Int32) (h : ∀ s1 : PS, s1 = si σ 179 0 0 → CX12_isCell g d [.ref 179, .int p0] s1 (fun (v4 : Int32) (s3 : PS) => Fr s1 s3 ∧ (v4 = 0 → P (-1) s3) ∧ (¬ v4 = 0 → CX12_within g d [.int p1, .int 0, .int 5] s3 (fun (v6 : Int32) (s5 : PS) => Fr s3 s5 ∧ (¬ v6 = 0 → (¬ p1 = 0 → (¬ p1 = 1 → vp_in (((4 * p0) + p1) - 2) 40 ∧ P (mi s5 206 (Int32.toNatClampNeg (((4 * p0) + p1) - 2))) s5) ∧ (p1 = 1 → vp_in p0 10 ∧ P (mi s5 202 (Int32.toNatClampNeg p0)) s5)) ∧ (p1 = 0 → vp_in p0 10 ∧ P (mi s5 201 (Int32.toNatClampNeg p0)) s5)) ∧ (v6 = 0 → P (-1) s5))))) : CX12_cell g (d + 1) [.ref 179, .int p0, .int p1] σ P := by
  refine x_entry (L := [some (.ref 179), some (.int p0), some (.int p1)]) pn_12 (Nat.le_of_ble_eq_true rfl) ⟨0, rfl⟩ ?_
  show VX12_cell g (d + 1) P 0 [some (.ref 179), some (.int p0), some (.int p1)] [] σ
  refine x_aload_n (i := 0) (dxX12_cell_0 0 rfl) rfl rfl ?_
  refine x_iconst (v := 0) (dxX12_cell_0 1 rfl) rfl ?_
  refine pf_12_184 (kd_179 hL) (dxX12_cell_0 2 rfl) ?_
  refine x_sto (fun s1 e2 => ?_)
  replace h := h s1 e2
  have hKs1 : kd s1 = kd σ := by rw [e2]; exact (rfl : kd σ = kd σ)
  have hLs1 : Lay s1 := by rw [e2]; exact hL.si
  refine x_aload_n (i := 0) (dxX12_cell_0 3 rfl) rfl rfl ?_
  refine x_iload_n (i := 1) (dxX12_cell_0 4 rfl) rfl rfl ?_
  refine cl_12_366 (kd_179 hLs1) (Nat.le_of_ble_eq_true rfl) (dxX12_cell_0 5 rfl) h (fun v4 s3 h => ?_) (Nat.le_refl _) (Nat.le_refl _)
  obtain ⟨hFs3, h⟩ := h
  have hKs3 : kd s3 = kd σ := hFs3.1.trans hKs1
  have hLs3 : Lay s3 := hLs1.fr hFs3
  refine x_if_eq (tgt := 22) (dxX12_cell_0 6 rfl) (by decide) (fun hc => ?_) (fun hc => ?_)
  · replace h := h.1 hc
    refine x_iconst (v := (-1)) (dxX12_cell_0 12 rfl) rfl ?_
    refine x_goto (tgt := 65) (dxX12_cell_0 13 rfl) (by decide) ?_
    exact x_iret (ty := .int) rfl rfl (dxX12_cell_1 7 rfl) ⟨_, rfl, h⟩
  · replace h := h.2 hc
    refine x_iload_n (i := 2) (dxX12_cell_0 7 rfl) rfl rfl ?_
    refine x_iconst (v := 0) (dxX12_cell_0 8 rfl) rfl ?_
    refine x_iconst (v := 5) (dxX12_cell_0 9 rfl) rfl ?_
    refine cl_12_307 (Nat.le_of_ble_eq_true rfl) (dxX12_cell_0 10 rfl) h (fun v6 s5 h => ?_) (Nat.le_refl _) (Nat.le_refl _)
    obtain ⟨hFs5, h⟩ := h
    have hKs5 : kd s5 = kd σ := hFs5.1.trans hKs3
    have hLs5 : Lay s5 := hLs3.fr hFs5
    refine x_if_ne (tgt := 26) (dxX12_cell_0 11 rfl) (by decide) (fun hc => ?_) (fun hc => ?_)
    · replace h := h.1 hc
      refine x_iload_n (i := 2) (dxX12_cell_0 14 rfl) rfl rfl ?_
      refine x_if_ne (tgt := 39) (dxX12_cell_0 15 rfl) (by decide) (fun hc => ?_) (fun hc => ?_)
      · replace h := h.1 hc
        refine x_iload_n (i := 2) (dxX12_cell_0 21 rfl) rfl rfl ?_
        refine x_iconst (v := 1) (dxX12_cell_0 22 rfl) rfl ?_
        refine x_icmp_ne (tgt := 53) (dxX12_cell_0 23 rfl) (by decide) (fun hc => ?_) (fun hc => ?_)
        · replace h := h.1 hc
          refine x_aload_n (i := 0) (dxX12_cell_0 29 rfl) rfl rfl ?_
          refine gf_12_90 (kd_179 hLs5) (rv_179_42 hLs5) (dxX12_cell_0 30 rfl) ?_
          refine x_iconst (v := 4) (dxX12_cell_0 31 rfl) rfl ?_
          refine x_iload_n (i := 1) (dxX12_cell_1 0 rfl) rfl rfl ?_
          refine x_imul (dxX12_cell_1 1 rfl) ?_
          refine x_iload_n (i := 2) (dxX12_cell_1 2 rfl) rfl rfl ?_
          refine x_iadd (dxX12_cell_1 3 rfl) ?_
          refine x_iconst (v := 2) (dxX12_cell_1 4 rfl) rfl ?_
          refine x_isub (dxX12_cell_1 5 rfl) ?_
          obtain ⟨hi7, h⟩ := h
          refine x_iald (kd_206 hLs5) hi7 (dxX12_cell_1 6 rfl) ?_
          exact x_iret (ty := .int) rfl rfl (dxX12_cell_1 7 rfl) ⟨_, rfl, h⟩
        · replace h := h.2 hc
          refine x_aload_n (i := 0) (dxX12_cell_0 24 rfl) rfl rfl ?_
          refine gf_12_78 (kd_179 hLs5) (rv_179_37 hLs5) (dxX12_cell_0 25 rfl) ?_
          refine x_iload_n (i := 1) (dxX12_cell_0 26 rfl) rfl rfl ?_
          obtain ⟨hi8, h⟩ := h
          refine x_iald (kd_202 hLs5) hi8 (dxX12_cell_0 27 rfl) ?_
          refine x_goto (tgt := 65) (dxX12_cell_0 28 rfl) (by decide) ?_
          exact x_iret (ty := .int) rfl rfl (dxX12_cell_1 7 rfl) ⟨_, rfl, h⟩
      · replace h := h.2 hc
        refine x_aload_n (i := 0) (dxX12_cell_0 16 rfl) rfl rfl ?_
        refine gf_12_75 (kd_179 hLs5) (rv_179_36 hLs5) (dxX12_cell_0 17 rfl) ?_
        refine x_iload_n (i := 1) (dxX12_cell_0 18 rfl) rfl rfl ?_
        obtain ⟨hi9, h⟩ := h
        refine x_iald (kd_201 hLs5) hi9 (dxX12_cell_0 19 rfl) ?_
        refine x_goto (tgt := 65) (dxX12_cell_0 20 rfl) (by decide) ?_
        exact x_iret (ty := .int) rfl rfl (dxX12_cell_1 7 rfl) ⟨_, rfl, h⟩
    · replace h := h.2 hc
      refine x_iconst (v := (-1)) (dxX12_cell_0 12 rfl) rfl ?_
      refine x_goto (tgt := 65) (dxX12_cell_0 13 rfl) (by decide) ?_
      exact x_iret (ty := .int) rfl rfl (dxX12_cell_1 7 rfl) ⟨_, rfl, h⟩
theorem vcX12_edge {g : GV} {d : Nat} {P : Int32 → PS → Prop} {σ : PS} (hL : Lay σ) (p0 : Int32) (p1 : Int32) (h : ∀ s1 : PS, s1 = si σ 179 0 0 → CX12_isEdge g d [.ref 179, .int p0] s1 (fun (v4 : Int32) (s3 : PS) => Fr s1 s3 ∧ (v4 = 0 → P (-1) s3) ∧ (¬ v4 = 0 → CX12_within g d [.int p1, .int 0, .int 3] s3 (fun (v6 : Int32) (s5 : PS) => Fr s3 s5 ∧ (¬ v6 = 0 → (¬ p1 = 0 → (¬ p1 = 1 → (¬ p1 = 2 → vp_in p0 24 ∧ P (mi s5 209 (Int32.toNatClampNeg p0)) s5) ∧ (p1 = 2 → vp_in p0 24 ∧ P (mi s5 205 (Int32.toNatClampNeg p0)) s5)) ∧ (p1 = 1 → vp_in p0 24 ∧ P (mi s5 204 (Int32.toNatClampNeg p0)) s5)) ∧ (p1 = 0 → vp_in p0 24 ∧ P (mi s5 203 (Int32.toNatClampNeg p0)) s5)) ∧ (v6 = 0 → P (-1) s5))))) : CX12_edge g (d + 1) [.ref 179, .int p0, .int p1] σ P := by
  refine x_entry (L := [some (.ref 179), some (.int p0), some (.int p1)]) pn_12 (Nat.le_of_ble_eq_true rfl) ⟨0, rfl⟩ ?_
  show VX12_edge g (d + 1) P 0 [some (.ref 179), some (.int p0), some (.int p1)] [] σ
  refine x_aload_n (i := 0) (dxX12_edge_0 0 rfl) rfl rfl ?_
  refine x_iconst (v := 0) (dxX12_edge_0 1 rfl) rfl ?_
  refine pf_12_184 (kd_179 hL) (dxX12_edge_0 2 rfl) ?_
  refine x_sto (fun s1 e2 => ?_)
  replace h := h s1 e2
  have hKs1 : kd s1 = kd σ := by rw [e2]; exact (rfl : kd σ = kd σ)
  have hLs1 : Lay s1 := by rw [e2]; exact hL.si
  refine x_aload_n (i := 0) (dxX12_edge_0 3 rfl) rfl rfl ?_
  refine x_iload_n (i := 1) (dxX12_edge_0 4 rfl) rfl rfl ?_
  refine cl_12_369 (kd_179 hLs1) (Nat.le_of_ble_eq_true rfl) (dxX12_edge_0 5 rfl) h (fun v4 s3 h => ?_) (Nat.le_refl _) (Nat.le_refl _)
  obtain ⟨hFs3, h⟩ := h
  have hKs3 : kd s3 = kd σ := hFs3.1.trans hKs1
  have hLs3 : Lay s3 := hLs1.fr hFs3
  refine x_if_eq (tgt := 22) (dxX12_edge_0 6 rfl) (by decide) (fun hc => ?_) (fun hc => ?_)
  · replace h := h.1 hc
    refine x_iconst (v := (-1)) (dxX12_edge_0 12 rfl) rfl ?_
    refine x_goto (tgt := 73) (dxX12_edge_0 13 rfl) (by decide) ?_
    exact x_iret (ty := .int) rfl rfl (dxX12_edge_1 9 rfl) ⟨_, rfl, h⟩
  · replace h := h.2 hc
    refine x_iload_n (i := 2) (dxX12_edge_0 7 rfl) rfl rfl ?_
    refine x_iconst (v := 0) (dxX12_edge_0 8 rfl) rfl ?_
    refine x_iconst (v := 3) (dxX12_edge_0 9 rfl) rfl ?_
    refine cl_12_307 (Nat.le_of_ble_eq_true rfl) (dxX12_edge_0 10 rfl) h (fun v6 s5 h => ?_) (Nat.le_refl _) (Nat.le_refl _)
    obtain ⟨hFs5, h⟩ := h
    have hKs5 : kd s5 = kd σ := hFs5.1.trans hKs3
    have hLs5 : Lay s5 := hLs3.fr hFs5
    refine x_if_ne (tgt := 26) (dxX12_edge_0 11 rfl) (by decide) (fun hc => ?_) (fun hc => ?_)
    · replace h := h.1 hc
      refine x_iload_n (i := 2) (dxX12_edge_0 14 rfl) rfl rfl ?_
      refine x_if_ne (tgt := 39) (dxX12_edge_0 15 rfl) (by decide) (fun hc => ?_) (fun hc => ?_)
      · replace h := h.1 hc
        refine x_iload_n (i := 2) (dxX12_edge_0 21 rfl) rfl rfl ?_
        refine x_iconst (v := 1) (dxX12_edge_0 22 rfl) rfl ?_
        refine x_icmp_ne (tgt := 53) (dxX12_edge_0 23 rfl) (by decide) (fun hc => ?_) (fun hc => ?_)
        · replace h := h.1 hc
          refine x_iload_n (i := 2) (dxX12_edge_0 29 rfl) rfl rfl ?_
          refine x_iconst (v := 2) (dxX12_edge_0 30 rfl) rfl ?_
          refine x_icmp_ne (tgt := 67) (dxX12_edge_0 31 rfl) (by decide) (fun hc => ?_) (fun hc => ?_)
          · replace h := h.1 hc
            refine x_aload_n (i := 0) (dxX12_edge_1 5 rfl) rfl rfl ?_
            refine gf_12_99 (kd_179 hLs5) (rv_179_45 hLs5) (dxX12_edge_1 6 rfl) ?_
            refine x_iload_n (i := 1) (dxX12_edge_1 7 rfl) rfl rfl ?_
            obtain ⟨hi7, h⟩ := h
            refine x_iald (kd_209 hLs5) hi7 (dxX12_edge_1 8 rfl) ?_
            exact x_iret (ty := .int) rfl rfl (dxX12_edge_1 9 rfl) ⟨_, rfl, h⟩
          · replace h := h.2 hc
            refine x_aload_n (i := 0) (dxX12_edge_1 0 rfl) rfl rfl ?_
            refine gf_12_87 (kd_179 hLs5) (rv_179_41 hLs5) (dxX12_edge_1 1 rfl) ?_
            refine x_iload_n (i := 1) (dxX12_edge_1 2 rfl) rfl rfl ?_
            obtain ⟨hi8, h⟩ := h
            refine x_iald (kd_205 hLs5) hi8 (dxX12_edge_1 3 rfl) ?_
            refine x_goto (tgt := 73) (dxX12_edge_1 4 rfl) (by decide) ?_
            exact x_iret (ty := .int) rfl rfl (dxX12_edge_1 9 rfl) ⟨_, rfl, h⟩
        · replace h := h.2 hc
          refine x_aload_n (i := 0) (dxX12_edge_0 24 rfl) rfl rfl ?_
          refine gf_12_84 (kd_179 hLs5) (rv_179_40 hLs5) (dxX12_edge_0 25 rfl) ?_
          refine x_iload_n (i := 1) (dxX12_edge_0 26 rfl) rfl rfl ?_
          obtain ⟨hi9, h⟩ := h
          refine x_iald (kd_204 hLs5) hi9 (dxX12_edge_0 27 rfl) ?_
          refine x_goto (tgt := 73) (dxX12_edge_0 28 rfl) (by decide) ?_
          exact x_iret (ty := .int) rfl rfl (dxX12_edge_1 9 rfl) ⟨_, rfl, h⟩
      · replace h := h.2 hc
        refine x_aload_n (i := 0) (dxX12_edge_0 16 rfl) rfl rfl ?_
        refine gf_12_81 (kd_179 hLs5) (rv_179_39 hLs5) (dxX12_edge_0 17 rfl) ?_
        refine x_iload_n (i := 1) (dxX12_edge_0 18 rfl) rfl rfl ?_
        obtain ⟨hi10, h⟩ := h
        refine x_iald (kd_203 hLs5) hi10 (dxX12_edge_0 19 rfl) ?_
        refine x_goto (tgt := 73) (dxX12_edge_0 20 rfl) (by decide) ?_
        exact x_iret (ty := .int) rfl rfl (dxX12_edge_1 9 rfl) ⟨_, rfl, h⟩
    · replace h := h.2 hc
      refine x_iconst (v := (-1)) (dxX12_edge_0 12 rfl) rfl ?_
      refine x_goto (tgt := 73) (dxX12_edge_0 13 rfl) (by decide) ?_
      exact x_iret (ty := .int) rfl rfl (dxX12_edge_1 9 rfl) ⟨_, rfl, h⟩
theorem vcX12_joins {g : GV} {d : Nat} {P : PS → Prop} {σ : PS} (hL : Lay σ) (p0 : Int32) (p1 : Int32) (h : vp_in p0 24 ∧ ∀ x2 : Int32, x2 = mi σ 210 (Int32.toNatClampNeg p0) → vp_in p1 24 ∧ ∀ x5 : Int32, x5 = mi σ 210 (Int32.toNatClampNeg p1) → ∀ x7 : Int32, x7 = jmin x2 x5 → ∀ x9 : Int32, x9 = jmax x2 x5 → VX12_joins g d P 34 [some (.ref 179), none, none, none, none, some (.int x7), some (.int x9), some (.int 0)] [] σ) : CX12_joins g d [.ref 179, .int p0, .int p1] σ P := by
  refine x_entry (L := [some (.ref 179), some (.int p0), some (.int p1), none, none, none, none, none]) pn_12 (Nat.le_of_ble_eq_true rfl) ⟨5, rfl⟩ ?_
  show VX12_joins g d P 0 [some (.ref 179), some (.int p0), some (.int p1), none, none, none, none, none] [] σ
  refine x_aload_n (i := 0) (dxX12_joins_0 0 rfl) rfl rfl ?_
  refine gf_12_102 (kd_179 hL) (rv_179_46 hL) (dxX12_joins_0 1 rfl) ?_
  refine x_iload_n (i := 1) (dxX12_joins_0 2 rfl) rfl rfl ?_
  obtain ⟨hi1, h⟩ := h
  refine x_iald (kd_210 hL) hi1 (dxX12_joins_0 3 rfl) ?_
  refine x_topi (fun x2 e3 => ?_)
  replace h := h x2 e3
  refine x_istore_n (i := 3) (dxX12_joins_0 4 rfl) rfl (Nat.le_of_ble_eq_true rfl) rfl rfl ?_
  refine x_aload_n (i := 0) (dxX12_joins_0 5 rfl) rfl rfl ?_
  refine gf_12_102 (kd_179 hL) (rv_179_46 hL) (dxX12_joins_0 6 rfl) ?_
  refine x_iload_n (i := 2) (dxX12_joins_0 7 rfl) rfl rfl ?_
  obtain ⟨hi4, h⟩ := h
  refine x_iald (kd_210 hL) hi4 (dxX12_joins_0 8 rfl) ?_
  refine x_topi (fun x5 e6 => ?_)
  replace h := h x5 e6
  refine x_istore (dxX12_joins_0 9 rfl) (Nat.le_of_ble_eq_true rfl) rfl rfl ?_
  refine x_iload_n (i := 3) (dxX12_joins_0 10 rfl) rfl rfl ?_
  refine x_iload (dxX12_joins_0 11 rfl) rfl ?_
  refine cl_12_372 (Nat.le_of_ble_eq_true rfl) (dxX12_joins_0 12 rfl) ?_
  refine x_topi (fun x7 e8 => ?_)
  replace h := h x7 e8
  refine x_istore (dxX12_joins_0 13 rfl) (Nat.le_of_ble_eq_true rfl) rfl rfl ?_
  refine x_iload_n (i := 3) (dxX12_joins_0 14 rfl) rfl rfl ?_
  refine x_iload (dxX12_joins_0 15 rfl) rfl ?_
  refine cl_12_272 (Nat.le_of_ble_eq_true rfl) (dxX12_joins_0 16 rfl) ?_
  refine x_topi (fun x9 e10 => ?_)
  replace h := h x9 e10
  refine x_istore (dxX12_joins_0 17 rfl) (Nat.le_of_ble_eq_true rfl) rfl rfl ?_
  refine x_iconst (v := 0) (dxX12_joins_0 18 rfl) rfl ?_
  refine x_istore (dxX12_joins_0 19 rfl) (Nat.le_of_ble_eq_true rfl) rfl rfl ?_
  refine x_mask [true, false, false, false, false, true, true, true] (L1 := [some (.ref 179), none, none, none, none, some (.int x7), some (.int x9), some (.int 0)]) rfl ?_
  exact h
theorem vcX12_joins_34 {g : GV} {d : Nat} {P : PS → Prop} {σ : PS} (hL : Lay σ) (l5 : Int32) (l6 : Int32) (l7 : Int32) (h : ((mi σ 179 38) ≤ l7 → P σ) ∧ (¬ (mi σ 179 38) ≤ l7 → vp_in l7 24 ∧ (¬ (mi σ 210 (Int32.toNatClampNeg l7)) = l6 → vp_in l7 24 ∧ vp_in l7 24 ∧ ∀ s14 : PS, s14 = si σ 210 (Int32.toNatClampNeg l7) (mi σ 210 (Int32.toNatClampNeg l7)) → ∀ x16 : Int32, x16 = l7 + 1 → VX12_joins g d P 34 [some (.ref 179), none, none, none, none, some (.int l5), some (.int l6), some (.int x16)] [] s14) ∧ ((mi σ 210 (Int32.toNatClampNeg l7)) = l6 → vp_in l7 24 ∧ ∀ s19 : PS, s19 = si σ 210 (Int32.toNatClampNeg l7) l5 → ∀ x21 : Int32, x21 = l7 + 1 → VX12_joins g d P 34 [some (.ref 179), none, none, none, none, some (.int l5), some (.int l6), some (.int x21)] [] s19))) : VX12_joins g d P 34 [some (.ref 179), none, none, none, none, some (.int l5), some (.int l6), some (.int l7)] [] σ := by
  refine x_iload (dxX12_joins_0 20 rfl) rfl ?_
  refine x_aload_n (i := 0) (dxX12_joins_0 21 rfl) rfl rfl ?_
  refine gf_12_332 (kd_179 hL) rfl (dxX12_joins_0 22 rfl) ?_
  refine x_icmp_ge (tgt := 80) (dxX12_joins_0 23 rfl) (by decide) (fun hc => ?_) (fun hc => ?_)
  · replace h := h.1 hc
    exact x_vret rfl (dxX12_joins_1 10 rfl) ⟨rfl, h⟩
  · replace h := h.2 hc
    refine x_aload_n (i := 0) (dxX12_joins_0 24 rfl) rfl rfl ?_
    refine gf_12_102 (kd_179 hL) (rv_179_46 hL) (dxX12_joins_0 25 rfl) ?_
    refine x_iload (dxX12_joins_0 26 rfl) rfl ?_
    refine x_aload_n (i := 0) (dxX12_joins_0 27 rfl) rfl rfl ?_
    refine gf_12_102 (kd_179 hL) (rv_179_46 hL) (dxX12_joins_0 28 rfl) ?_
    refine x_iload (dxX12_joins_0 29 rfl) rfl ?_
    obtain ⟨hi11, h⟩ := h
    refine x_iald (kd_210 hL) hi11 (dxX12_joins_0 30 rfl) ?_
    refine x_iload (dxX12_joins_0 31 rfl) rfl ?_
    refine x_icmp_ne (tgt := 66) (dxX12_joins_1 0 rfl) (by decide) (fun hc => ?_) (fun hc => ?_)
    · replace h := h.1 hc
      refine x_aload_n (i := 0) (dxX12_joins_1 3 rfl) rfl rfl ?_
      refine gf_12_102 (kd_179 hL) (rv_179_46 hL) (dxX12_joins_1 4 rfl) ?_
      refine x_iload (dxX12_joins_1 5 rfl) rfl ?_
      obtain ⟨hi12, h⟩ := h
      refine x_iald (kd_210 hL) hi12 (dxX12_joins_1 6 rfl) ?_
      obtain ⟨hi13, h⟩ := h
      refine x_iast (kd_210 hL) hi13 (dxX12_joins_1 7 rfl) ?_
      refine x_sto (fun s14 e15 => ?_)
      replace h := h s14 e15
      have hKs14 : kd s14 = kd σ := by rw [e15]; exact (rfl : kd σ = kd σ)
      have hLs14 : Lay s14 := by rw [e15]; exact hL.si
      obtain ⟨x16, e17⟩ : ∃ y : Int32, y = l7 + 1 := ⟨_, rfl⟩
      replace h := h x16 e17
      refine x_iinc (v := x16) (dxX12_joins_1 8 rfl) (i := 7) rfl (by rw [e17]; rfl) (Nat.le_of_ble_eq_true rfl) rfl rfl ?_
      refine x_goto (tgt := 34) (dxX12_joins_1 9 rfl) (by decide) ?_
      exact h
    · replace h := h.2 hc
      refine x_iload (dxX12_joins_1 1 rfl) rfl ?_
      refine x_goto (tgt := 73) (dxX12_joins_1 2 rfl) (by decide) ?_
      obtain ⟨hi18, h⟩ := h
      refine x_iast (kd_210 hL) hi18 (dxX12_joins_1 7 rfl) ?_
      refine x_sto (fun s19 e20 => ?_)
      replace h := h s19 e20
      have hKs19 : kd s19 = kd σ := by rw [e20]; exact (rfl : kd σ = kd σ)
      have hLs19 : Lay s19 := by rw [e20]; exact hL.si
      obtain ⟨x21, e22⟩ : ∃ y : Int32, y = l7 + 1 := ⟨_, rfl⟩
      replace h := h x21 e22
      refine x_iinc (v := x21) (dxX12_joins_1 8 rfl) (i := 7) rfl (by rw [e22]; rfl) (Nat.le_of_ble_eq_true rfl) rfl rfl ?_
      refine x_goto (tgt := 34) (dxX12_joins_1 9 rfl) (by decide) ?_
      exact h
