theorem vcX12_beyond {g : GV} {d : Nat} {P : Int32 → PS → Prop} {σ : PS} (hL : Lay σ) (p0 : Int32) (p1 : Int32) (p2 : Int32) (h : ∀ s1 : PS, s1 = si σ 179 0 0 → CX12_isCell g d [.ref 179, .int p0] s1 (fun (v4 : Int32) (s3 : PS) => Fr s1 s3 ∧ (v4 = 0 → P (-1) s3) ∧ (¬ v4 = 0 → CX12_within g d [.int p1, .int 0, .int 3] s3 (fun (v6 : Int32) (s5 : PS) => Fr s3 s5 ∧ (v6 = 0 → P (-1) s5) ∧ (¬ v6 = 0 → CX12_within g d [.int p2, .int 0, .int 2] s5 (fun (v8 : Int32) (s7 : PS) => Fr s5 s7 ∧ (v8 = 0 → P (-1) s7) ∧ (¬ v8 = 0 → CX12_isBody g d [.ref 179] s7 (fun (v10 : Int32) (s9 : PS) => Fr s7 s9 ∧ (¬ v10 = 0 → CX12_laysBody g d [.ref 179, .int 0, .int (-1)] s9 (fun (s11 : PS) => Fr s9 s11 ∧ vp_in ((4 * p0) + p1) 80 ∧ ∀ x14 : Int32, x14 = mi s11 215 (Int32.toNatClampNeg ((4 * p0) + p1)) → (¬ p2 = 0 → (¬ p2 = 1 → CX12_turnAt g d [.ref 179, .int 0, .int ((4 * p0) + p1)] s11 (fun (v17 : Int32) (s16 : PS) => Fr s11 s16 ∧ P v17 s16)) ∧ (p2 = 1 → P (jrem x14 4) s11)) ∧ (p2 = 0 → P (x14 / 4) s11))) ∧ (v10 = 0 → P (-1) s9))))))))) : CX12_beyond g (d + 1) [.ref 179, .int p0, .int p1, .int p2] σ P := by
  refine x_entry (L := [some (.ref 179), some (.int p0), some (.int p1), some (.int p2), none]) pn_12 (Nat.le_of_ble_eq_true rfl) ⟨1, rfl⟩ ?_
  show VX12_beyond g (d + 1) P 0 [some (.ref 179), some (.int p0), some (.int p1), some (.int p2), none] [] σ
  refine x_aload_n (i := 0) (dxX12_beyond_0 0 rfl) rfl rfl ?_
  refine x_iconst (v := 0) (dxX12_beyond_0 1 rfl) rfl ?_
  refine pf_12_184 (kd_179 hL) (dxX12_beyond_0 2 rfl) ?_
  refine x_sto (fun s1 e2 => ?_)
  replace h := h s1 e2
  have hKs1 : kd s1 = kd σ := by rw [e2]; exact (rfl : kd σ = kd σ)
  have hLs1 : Lay s1 := by rw [e2]; exact hL.si
  refine x_aload_n (i := 0) (dxX12_beyond_0 3 rfl) rfl rfl ?_
  refine x_iload_n (i := 1) (dxX12_beyond_0 4 rfl) rfl rfl ?_
  refine cl_12_366 (kd_179 hLs1) (Nat.le_of_ble_eq_true rfl) (dxX12_beyond_0 5 rfl) h (fun v4 s3 h => ?_) (Nat.le_refl _) (Nat.le_refl _)
  obtain ⟨hFs3, h⟩ := h
  have hKs3 : kd s3 = kd σ := hFs3.1.trans hKs1
  have hLs3 : Lay s3 := hLs1.fr hFs3
  refine x_if_eq (tgt := 38) (dxX12_beyond_0 6 rfl) (by decide) (fun hc => ?_) (fun hc => ?_)
  · replace h := h.1 hc
    refine x_iconst (v := (-1)) (dxX12_beyond_0 20 rfl) rfl ?_
    exact x_iret (ty := .int) rfl rfl (dxX12_beyond_0 21 rfl) ⟨_, rfl, h⟩
  · replace h := h.2 hc
    refine x_iload_n (i := 2) (dxX12_beyond_0 7 rfl) rfl rfl ?_
    refine x_iconst (v := 0) (dxX12_beyond_0 8 rfl) rfl ?_
    refine x_iconst (v := 3) (dxX12_beyond_0 9 rfl) rfl ?_
    refine cl_12_307 (Nat.le_of_ble_eq_true rfl) (dxX12_beyond_0 10 rfl) h (fun v6 s5 h => ?_) (Nat.le_refl _) (Nat.le_refl _)
    obtain ⟨hFs5, h⟩ := h
    have hKs5 : kd s5 = kd σ := hFs5.1.trans hKs3
    have hLs5 : Lay s5 := hLs3.fr hFs5
    refine x_if_eq (tgt := 38) (dxX12_beyond_0 11 rfl) (by decide) (fun hc => ?_) (fun hc => ?_)
    · replace h := h.1 hc
      refine x_iconst (v := (-1)) (dxX12_beyond_0 20 rfl) rfl ?_
      exact x_iret (ty := .int) rfl rfl (dxX12_beyond_0 21 rfl) ⟨_, rfl, h⟩
    · replace h := h.2 hc
      refine x_iload_n (i := 3) (dxX12_beyond_0 12 rfl) rfl rfl ?_
      refine x_iconst (v := 0) (dxX12_beyond_0 13 rfl) rfl ?_
      refine x_iconst (v := 2) (dxX12_beyond_0 14 rfl) rfl ?_
      refine cl_12_307 (Nat.le_of_ble_eq_true rfl) (dxX12_beyond_0 15 rfl) h (fun v8 s7 h => ?_) (Nat.le_refl _) (Nat.le_refl _)
      obtain ⟨hFs7, h⟩ := h
      have hKs7 : kd s7 = kd σ := hFs7.1.trans hKs5
      have hLs7 : Lay s7 := hLs5.fr hFs7
      refine x_if_eq (tgt := 38) (dxX12_beyond_0 16 rfl) (by decide) (fun hc => ?_) (fun hc => ?_)
      · replace h := h.1 hc
        refine x_iconst (v := (-1)) (dxX12_beyond_0 20 rfl) rfl ?_
        exact x_iret (ty := .int) rfl rfl (dxX12_beyond_0 21 rfl) ⟨_, rfl, h⟩
      · replace h := h.2 hc
        refine x_aload_n (i := 0) (dxX12_beyond_0 17 rfl) rfl rfl ?_
        refine cl_12_420 (kd_179 hLs7) (Nat.le_of_ble_eq_true rfl) (dxX12_beyond_0 18 rfl) h (fun v10 s9 h => ?_) (Nat.le_refl _) (Nat.le_refl _)
        obtain ⟨hFs9, h⟩ := h
        have hKs9 : kd s9 = kd σ := hFs9.1.trans hKs7
        have hLs9 : Lay s9 := hLs7.fr hFs9
        refine x_if_ne (tgt := 40) (dxX12_beyond_0 19 rfl) (by decide) (fun hc => ?_) (fun hc => ?_)
        · replace h := h.1 hc
          refine x_aload_n (i := 0) (dxX12_beyond_0 22 rfl) rfl rfl ?_
          refine x_iconst (v := 0) (dxX12_beyond_0 23 rfl) rfl ?_
          refine x_iconst (v := (-1)) (dxX12_beyond_0 24 rfl) rfl ?_
          refine cl_12_423 (kd_179 hLs9) (Nat.le_of_ble_eq_true rfl) (dxX12_beyond_0 25 rfl) h (fun s11 h => ?_) (Nat.le_refl _) (Nat.le_refl _)
          obtain ⟨hFs11, h⟩ := h
          have hKs11 : kd s11 = kd σ := hFs11.1.trans hKs9
          have hLs11 : Lay s11 := hLs9.fr hFs11
          refine x_aload_n (i := 0) (dxX12_beyond_0 26 rfl) rfl rfl ?_
          refine gf_12_119 (kd_179 hLs11) (rv_179_55 hLs11) (dxX12_beyond_0 27 rfl) ?_
          refine x_iconst (v := 4) (dxX12_beyond_0 28 rfl) rfl ?_
          refine x_iload_n (i := 1) (dxX12_beyond_0 29 rfl) rfl rfl ?_
          refine x_imul (dxX12_beyond_0 30 rfl) ?_
          refine x_iload_n (i := 2) (dxX12_beyond_0 31 rfl) rfl rfl ?_
          refine x_iadd (dxX12_beyond_1 0 rfl) ?_
          obtain ⟨hi13, h⟩ := h
          refine x_iald (kd_215 hLs11) hi13 (dxX12_beyond_1 1 rfl) ?_
          refine x_topi (fun x14 e15 => ?_)
          replace h := h x14 e15
          refine x_istore (dxX12_beyond_1 2 rfl) (Nat.le_of_ble_eq_true rfl) rfl rfl ?_
          refine x_iload_n (i := 3) (dxX12_beyond_1 3 rfl) rfl rfl ?_
          refine x_if_ne (tgt := 69) (dxX12_beyond_1 4 rfl) (by decide) (fun hc => ?_) (fun hc => ?_)
          · replace h := h.1 hc
            refine x_iload_n (i := 3) (dxX12_beyond_1 9 rfl) rfl rfl ?_
            refine x_iconst (v := 1) (dxX12_beyond_1 10 rfl) rfl ?_
            refine x_icmp_ne (tgt := 81) (dxX12_beyond_1 11 rfl) (by decide) (fun hc => ?_) (fun hc => ?_)
            · replace h := h.1 hc
              refine x_aload_n (i := 0) (dxX12_beyond_1 16 rfl) rfl rfl ?_
              refine x_iconst (v := 0) (dxX12_beyond_1 17 rfl) rfl ?_
              refine x_iconst (v := 4) (dxX12_beyond_1 18 rfl) rfl ?_
              refine x_iload_n (i := 1) (dxX12_beyond_1 19 rfl) rfl rfl ?_
              refine x_imul (dxX12_beyond_1 20 rfl) ?_
              refine x_iload_n (i := 2) (dxX12_beyond_1 21 rfl) rfl rfl ?_
              refine x_iadd (dxX12_beyond_1 22 rfl) ?_
              refine cl_12_426 (kd_179 hLs11) (Nat.le_of_ble_eq_true rfl) (dxX12_beyond_1 23 rfl) h (fun v17 s16 h => ?_) (Nat.le_refl _) (Nat.le_refl _)
              obtain ⟨hFs16, h⟩ := h
              have hKs16 : kd s16 = kd σ := hFs16.1.trans hKs11
              have hLs16 : Lay s16 := hLs11.fr hFs16
              exact x_iret (ty := .int) rfl rfl (dxX12_beyond_1 24 rfl) ⟨_, rfl, h⟩
            · replace h := h.2 hc
              refine x_iload (dxX12_beyond_1 12 rfl) rfl ?_
              refine x_iconst (v := 4) (dxX12_beyond_1 13 rfl) rfl ?_
              refine x_irem (dxX12_beyond_1 14 rfl) (by decide) ?_
              refine x_goto (tgt := 91) (dxX12_beyond_1 15 rfl) (by decide) ?_
              exact x_iret (ty := .int) rfl rfl (dxX12_beyond_1 24 rfl) ⟨_, rfl, h⟩
          · replace h := h.2 hc
            refine x_iload (dxX12_beyond_1 5 rfl) rfl ?_
            refine x_iconst (v := 4) (dxX12_beyond_1 6 rfl) rfl ?_
            refine x_idiv (dxX12_beyond_1 7 rfl) (by decide) ?_
            refine x_goto (tgt := 91) (dxX12_beyond_1 8 rfl) (by decide) ?_
            exact x_iret (ty := .int) rfl rfl (dxX12_beyond_1 24 rfl) ⟨_, rfl, h⟩
        · replace h := h.2 hc
          refine x_iconst (v := (-1)) (dxX12_beyond_0 20 rfl) rfl ?_
          exact x_iret (ty := .int) rfl rfl (dxX12_beyond_0 21 rfl) ⟨_, rfl, h⟩
theorem vcX12_imageOf {g : GV} {d : Nat} {P : Int32 → PS → Prop} {σ : PS} (hL : Lay σ) (p0 : Int32) (p1 : Int32) (h : ∀ x1 : Int32, x1 = p0 / 4 → ∀ x3 : Int32, x3 = jrem p0 4 → vp_in x1 10 ∧ (p1 = 0 → vp_in x1 10 ∧ P ((4 * (mi σ 216 (Int32.toNatClampNeg x1))) + (jrem ((mi σ 217 (Int32.toNatClampNeg x1)) + x3) 4)) σ) ∧ (¬ p1 = 0 → vp_in x1 10 ∧ P ((4 * (mi σ 216 (Int32.toNatClampNeg x1))) + (jrem (((mi σ 217 (Int32.toNatClampNeg x1)) + 4) - x3) 4)) σ)) : CX12_imageOf g d [.ref 179, .int p0, .int p1] σ P := by
  refine x_entry (L := [some (.ref 179), some (.int p0), some (.int p1), none, none]) pn_12 (Nat.le_of_ble_eq_true rfl) ⟨2, rfl⟩ ?_
  show VX12_imageOf g d P 0 [some (.ref 179), some (.int p0), some (.int p1), none, none] [] σ
  refine x_iload_n (i := 1) (dxX12_imageOf_0 0 rfl) rfl rfl ?_
  refine x_iconst (v := 4) (dxX12_imageOf_0 1 rfl) rfl ?_
  refine x_idiv (dxX12_imageOf_0 2 rfl) (by decide) ?_
  refine x_topi (fun x1 e2 => ?_)
  replace h := h x1 e2
  refine x_istore_n (i := 3) (dxX12_imageOf_0 3 rfl) rfl (Nat.le_of_ble_eq_true rfl) rfl rfl ?_
  refine x_iload_n (i := 1) (dxX12_imageOf_0 4 rfl) rfl rfl ?_
  refine x_iconst (v := 4) (dxX12_imageOf_0 5 rfl) rfl ?_
  refine x_irem (dxX12_imageOf_0 6 rfl) (by decide) ?_
  refine x_topi (fun x3 e4 => ?_)
  replace h := h x3 e4
  refine x_istore (dxX12_imageOf_0 7 rfl) (Nat.le_of_ble_eq_true rfl) rfl rfl ?_
  refine x_iconst (v := 4) (dxX12_imageOf_0 8 rfl) rfl ?_
  refine x_aload_n (i := 0) (dxX12_imageOf_0 9 rfl) rfl rfl ?_
  refine gf_12_122 (kd_179 hL) (rv_179_56 hL) (dxX12_imageOf_0 10 rfl) ?_
  refine x_iload_n (i := 3) (dxX12_imageOf_0 11 rfl) rfl rfl ?_
  obtain ⟨hi5, h⟩ := h
  refine x_iald (kd_216 hL) hi5 (dxX12_imageOf_0 12 rfl) ?_
  refine x_imul (dxX12_imageOf_0 13 rfl) ?_
  refine x_iload_n (i := 2) (dxX12_imageOf_0 14 rfl) rfl rfl ?_
  refine x_if_eq (tgt := 35) (dxX12_imageOf_0 15 rfl) (by decide) (fun hc => ?_) (fun hc => ?_)
  · replace h := h.1 hc
    refine x_aload_n (i := 0) (dxX12_imageOf_0 25 rfl) rfl rfl ?_
    refine gf_12_125 (kd_179 hL) (rv_179_57 hL) (dxX12_imageOf_0 26 rfl) ?_
    refine x_iload_n (i := 3) (dxX12_imageOf_0 27 rfl) rfl rfl ?_
    obtain ⟨hi6, h⟩ := h
    refine x_iald (kd_217 hL) hi6 (dxX12_imageOf_0 28 rfl) ?_
    refine x_iload (dxX12_imageOf_0 29 rfl) rfl ?_
    refine x_iadd (dxX12_imageOf_0 30 rfl) ?_
    refine x_iconst (v := 4) (dxX12_imageOf_0 31 rfl) rfl ?_
    refine x_irem (dxX12_imageOf_1 0 rfl) (by decide) ?_
    refine x_iadd (dxX12_imageOf_1 1 rfl) ?_
    exact x_iret (ty := .int) rfl rfl (dxX12_imageOf_1 2 rfl) ⟨_, rfl, h⟩
  · replace h := h.2 hc
    refine x_aload_n (i := 0) (dxX12_imageOf_0 16 rfl) rfl rfl ?_
    refine gf_12_125 (kd_179 hL) (rv_179_57 hL) (dxX12_imageOf_0 17 rfl) ?_
    refine x_iload_n (i := 3) (dxX12_imageOf_0 18 rfl) rfl rfl ?_
    obtain ⟨hi7, h⟩ := h
    refine x_iald (kd_217 hL) hi7 (dxX12_imageOf_0 19 rfl) ?_
    refine x_iconst (v := 4) (dxX12_imageOf_0 20 rfl) rfl ?_
    refine x_iadd (dxX12_imageOf_0 21 rfl) ?_
    refine x_iload (dxX12_imageOf_0 22 rfl) rfl ?_
    refine x_isub (dxX12_imageOf_0 23 rfl) ?_
    refine x_goto (tgt := 44) (dxX12_imageOf_0 24 rfl) (by decide) ?_
    refine x_iconst (v := 4) (dxX12_imageOf_0 31 rfl) rfl ?_
    refine x_irem (dxX12_imageOf_1 0 rfl) (by decide) ?_
    refine x_iadd (dxX12_imageOf_1 1 rfl) ?_
    exact x_iret (ty := .int) rfl rfl (dxX12_imageOf_1 2 rfl) ⟨_, rfl, h⟩
theorem vcX12_fits {g : GV} {d : Nat} {P : Int32 → PS → Prop} {σ : PS} (hL : Lay σ) (p0 : Int32) (p1 : Int32) (h : VX12_fits g (d + 1) P 2 [some (.ref 179), some (.int p0), some (.int p1), some (.int 0), none, none, none, none, none] [] σ) : CX12_fits g (d + 1) [.ref 179, .int p0, .int p1] σ P := by
  refine x_entry (L := [some (.ref 179), some (.int p0), some (.int p1), none, none, none, none, none, none]) pn_12 (Nat.le_of_ble_eq_true rfl) ⟨6, rfl⟩ ?_
  show VX12_fits g (d + 1) P 0 [some (.ref 179), some (.int p0), some (.int p1), none, none, none, none, none, none] [] σ
  refine x_iconst (v := 0) (dxX12_fits_0 0 rfl) rfl ?_
  refine x_istore_n (i := 3) (dxX12_fits_0 1 rfl) rfl (Nat.le_of_ble_eq_true rfl) rfl rfl ?_
  exact h
theorem vcX12_fits_2 {g : GV} {d : Nat} {P : Int32 → PS → Prop} {σ : PS} (hL : Lay σ) (l1 : Int32) (l2 : Int32) (l3 : Int32) (h : (10 ≤ l3 → ∀ s1 : PS, s1 = si σ 216 (Int32.toNatClampNeg 0) (l1 / 4) → ∀ s3 : PS, s3 = si s1 217 (Int32.toNatClampNeg 0) (jrem l1 4) → ∀ s5 : PS, s5 = si s3 218 (Int32.toNatClampNeg 0) 0 → VX12_fits g (d + 1) P 51 [some (.ref 179), none, some (.int l2), some (.int 1), some (.int 0), none, none, none, none] [] s5) ∧ (¬ 10 ≤ l3 → vp_in l3 10 ∧ ∀ s8 : PS, s8 = si σ 216 (Int32.toNatClampNeg l3) (-1) → ∀ x10 : Int32, x10 = l3 + 1 → VX12_fits g (d + 1) P 2 [some (.ref 179), some (.int l1), some (.int l2), some (.int x10), none, none, none, none, none] [] s8)) : VX12_fits g (d + 1) P 2 [some (.ref 179), some (.int l1), some (.int l2), some (.int l3), none, none, none, none, none] [] σ := by
  refine x_iload_n (i := 3) (dxX12_fits_0 2 rfl) rfl rfl ?_
  refine x_bipush (v := 10) (dxX12_fits_0 3 rfl) rfl ?_
  refine x_icmp_ge (tgt := 21) (dxX12_fits_0 4 rfl) (by decide) (fun hc => ?_) (fun hc => ?_)
  · replace h := h.1 hc
    refine x_aload_n (i := 0) (dxX12_fits_0 12 rfl) rfl rfl ?_
    refine gf_12_122 (kd_179 hL) (rv_179_56 hL) (dxX12_fits_0 13 rfl) ?_
    refine x_iconst (v := 0) (dxX12_fits_0 14 rfl) rfl ?_
    refine x_iload_n (i := 1) (dxX12_fits_0 15 rfl) rfl rfl ?_
    refine x_iconst (v := 4) (dxX12_fits_0 16 rfl) rfl ?_
    refine x_idiv (dxX12_fits_0 17 rfl) (by decide) ?_
    refine x_iast (kd_216 hL) (vpl 10 0 rfl) (dxX12_fits_0 18 rfl) ?_
    refine x_sto (fun s1 e2 => ?_)
    replace h := h s1 e2
    have hKs1 : kd s1 = kd σ := by rw [e2]; exact (rfl : kd σ = kd σ)
    have hLs1 : Lay s1 := by rw [e2]; exact hL.si
    refine x_aload_n (i := 0) (dxX12_fits_0 19 rfl) rfl rfl ?_
    refine gf_12_125 (kd_179 hLs1) (rv_179_57 hLs1) (dxX12_fits_0 20 rfl) ?_
    refine x_iconst (v := 0) (dxX12_fits_0 21 rfl) rfl ?_
    refine x_iload_n (i := 1) (dxX12_fits_0 22 rfl) rfl rfl ?_
    refine x_iconst (v := 4) (dxX12_fits_0 23 rfl) rfl ?_
    refine x_irem (dxX12_fits_0 24 rfl) (by decide) ?_
    refine x_iast (kd_217 hLs1) (vpl 10 0 rfl) (dxX12_fits_0 25 rfl) ?_
    refine x_sto (fun s3 e4 => ?_)
    replace h := h s3 e4
    have hKs3 : kd s3 = kd σ := by rw [e4]; exact hKs1
    have hLs3 : Lay s3 := by rw [e4]; exact hLs1.si
    refine x_aload_n (i := 0) (dxX12_fits_0 26 rfl) rfl rfl ?_
    refine gf_12_128 (kd_179 hLs3) (rv_179_58 hLs3) (dxX12_fits_0 27 rfl) ?_
    refine x_iconst (v := 0) (dxX12_fits_0 28 rfl) rfl ?_
    refine x_iconst (v := 0) (dxX12_fits_0 29 rfl) rfl ?_
    refine x_iast (kd_218 hLs3) (vpl 10 0 rfl) (dxX12_fits_0 30 rfl) ?_
    refine x_sto (fun s5 e6 => ?_)
    replace h := h s5 e6
    have hKs5 : kd s5 = kd σ := by rw [e6]; exact hKs3
    have hLs5 : Lay s5 := by rw [e6]; exact hLs3.si
    refine x_iconst (v := 1) (dxX12_fits_0 31 rfl) rfl ?_
    refine x_istore_n (i := 3) (dxX12_fits_1 0 rfl) rfl (Nat.le_of_ble_eq_true rfl) rfl rfl ?_
    refine x_iconst (v := 0) (dxX12_fits_1 1 rfl) rfl ?_
    refine x_istore (dxX12_fits_1 2 rfl) (Nat.le_of_ble_eq_true rfl) rfl rfl ?_
    refine x_mask [true, false, true, true, true, false, false, false, false] (L1 := [some (.ref 179), none, some (.int l2), some (.int 1), some (.int 0), none, none, none, none]) rfl ?_
    exact h
  · replace h := h.2 hc
    refine x_aload_n (i := 0) (dxX12_fits_0 5 rfl) rfl rfl ?_
    refine gf_12_122 (kd_179 hL) (rv_179_56 hL) (dxX12_fits_0 6 rfl) ?_
    refine x_iload_n (i := 3) (dxX12_fits_0 7 rfl) rfl rfl ?_
    refine x_iconst (v := (-1)) (dxX12_fits_0 8 rfl) rfl ?_
    obtain ⟨hi7, h⟩ := h
    refine x_iast (kd_216 hL) hi7 (dxX12_fits_0 9 rfl) ?_
    refine x_sto (fun s8 e9 => ?_)
    replace h := h s8 e9
    have hKs8 : kd s8 = kd σ := by rw [e9]; exact (rfl : kd σ = kd σ)
    have hLs8 : Lay s8 := by rw [e9]; exact hL.si
    obtain ⟨x10, e11⟩ : ∃ y : Int32, y = l3 + 1 := ⟨_, rfl⟩
    replace h := h x10 e11
    refine x_iinc (v := x10) (dxX12_fits_0 10 rfl) (i := 3) rfl (by rw [e11]; rfl) (Nat.le_of_ble_eq_true rfl) rfl rfl ?_
    refine x_goto (tgt := 2) (dxX12_fits_0 11 rfl) (by decide) ?_
    exact h
theorem vcX12_fits_51 {g : GV} {d : Nat} {P : Int32 → PS → Prop} {σ : PS} (hL : Lay σ) (l2 : Int32) (l3 : Int32) (l4 : Int32) (h : (l3 ≤ l4 → VX12_fits g (d + 1) P 218 [some (.ref 179), none, none, none, some (.int 0), some (.int 0), none, none, none] [] σ) ∧ (¬ l3 ≤ l4 → VX12_fits g (d + 1) P 60 [some (.ref 179), none, some (.int l2), some (.int l3), some (.int l4), some (.int 0), none, none, none] [] σ)) : VX12_fits g (d + 1) P 51 [some (.ref 179), none, some (.int l2), some (.int l3), some (.int l4), none, none, none, none] [] σ := by
  refine x_iload (dxX12_fits_1 3 rfl) rfl ?_
  refine x_iload_n (i := 3) (dxX12_fits_1 4 rfl) rfl rfl ?_
  refine x_icmp_ge (tgt := 212) (dxX12_fits_1 5 rfl) (by decide) (fun hc => ?_) (fun hc => ?_)
  · replace h := h.1 hc
    refine x_iconst (v := 0) (dxX12_fits_4 3 rfl) rfl ?_
    refine x_istore (dxX12_fits_4 4 rfl) (Nat.le_of_ble_eq_true rfl) rfl rfl ?_
    refine x_iconst (v := 0) (dxX12_fits_4 5 rfl) rfl ?_
    refine x_istore (dxX12_fits_4 6 rfl) (Nat.le_of_ble_eq_true rfl) rfl rfl ?_
    refine x_mask [true, false, false, false, true, true, false, false, false] (L1 := [some (.ref 179), none, none, none, some (.int 0), some (.int 0), none, none, none]) rfl ?_
    exact h
  · replace h := h.2 hc
    refine x_iconst (v := 0) (dxX12_fits_1 6 rfl) rfl ?_
    refine x_istore (dxX12_fits_1 7 rfl) (Nat.le_of_ble_eq_true rfl) rfl rfl ?_
    exact h
theorem vcX12_fits_218 {g : GV} {d : Nat} {P : Int32 → PS → Prop} {σ : PS} (hL : Lay σ) (l4 : Int32) (l5 : Int32) (h : ((mi σ 179 35) ≤ l5 → (¬ l4 = ((jshl 1 (mi σ 179 35)) - 1) → P 0 σ) ∧ (l4 = ((jshl 1 (mi σ 179 35)) - 1) → P 1 σ)) ∧ (¬ (mi σ 179 35) ≤ l5 → vp_in l5 10 ∧ ∀ x13 : Int32, x13 = l4 ||| (jshl 1 (mi σ 216 (Int32.toNatClampNeg l5))) → ∀ x15 : Int32, x15 = l5 + 1 → VX12_fits g (d + 1) P 218 [some (.ref 179), none, none, none, some (.int x13), some (.int x15), none, none, none] [] σ)) : VX12_fits g (d + 1) P 218 [some (.ref 179), none, none, none, some (.int l4), some (.int l5), none, none, none] [] σ := by
  refine x_iload (dxX12_fits_4 7 rfl) rfl ?_
  refine x_aload_n (i := 0) (dxX12_fits_4 8 rfl) rfl rfl ?_
  refine gf_12_177 (kd_179 hL) rfl (dxX12_fits_4 9 rfl) ?_
  refine x_icmp_ge (tgt := 247) (dxX12_fits_4 10 rfl) (by decide) (fun hc => ?_) (fun hc => ?_)
  · replace h := h.1 hc
    refine x_iload (dxX12_fits_4 22 rfl) rfl ?_
    refine x_iconst (v := 1) (dxX12_fits_4 23 rfl) rfl ?_
    refine x_aload_n (i := 0) (dxX12_fits_4 24 rfl) rfl rfl ?_
    refine gf_12_177 (kd_179 hL) rfl (dxX12_fits_4 25 rfl) ?_
    refine x_ishl (dxX12_fits_4 26 rfl) ?_
    refine x_iconst (v := 1) (dxX12_fits_4 27 rfl) rfl ?_
    refine x_isub (dxX12_fits_4 28 rfl) ?_
    refine x_icmp_ne (tgt := 264) (dxX12_fits_4 29 rfl) (by decide) (fun hc => ?_) (fun hc => ?_)
    · replace h := h.1 hc
      refine x_iconst (v := 0) (dxX12_fits_5 0 rfl) rfl ?_
      exact x_iret (ty := .boolean) rfl rfl (dxX12_fits_5 1 rfl) ⟨_, rfl, h⟩
    · replace h := h.2 hc
      refine x_iconst (v := 1) (dxX12_fits_4 30 rfl) rfl ?_
      refine x_goto (tgt := 265) (dxX12_fits_4 31 rfl) (by decide) ?_
      exact x_iret (ty := .boolean) rfl rfl (dxX12_fits_5 1 rfl) ⟨_, rfl, h⟩
  · replace h := h.2 hc
    refine x_iload (dxX12_fits_4 11 rfl) rfl ?_
    refine x_iconst (v := 1) (dxX12_fits_4 12 rfl) rfl ?_
    refine x_aload_n (i := 0) (dxX12_fits_4 13 rfl) rfl rfl ?_
    refine gf_12_122 (kd_179 hL) (rv_179_56 hL) (dxX12_fits_4 14 rfl) ?_
    refine x_iload (dxX12_fits_4 15 rfl) rfl ?_
    obtain ⟨hi12, h⟩ := h
    refine x_iald (kd_216 hL) hi12 (dxX12_fits_4 16 rfl) ?_
    refine x_ishl (dxX12_fits_4 17 rfl) ?_
    refine x_ior (dxX12_fits_4 18 rfl) ?_
    refine x_topi (fun x13 e14 => ?_)
    replace h := h x13 e14
    refine x_istore (dxX12_fits_4 19 rfl) (Nat.le_of_ble_eq_true rfl) rfl rfl ?_
    obtain ⟨x15, e16⟩ : ∃ y : Int32, y = l5 + 1 := ⟨_, rfl⟩
    replace h := h x15 e16
    refine x_iinc (v := x15) (dxX12_fits_4 20 rfl) (i := 5) rfl (by rw [e16]; rfl) (Nat.le_of_ble_eq_true rfl) rfl rfl ?_
    refine x_goto (tgt := 218) (dxX12_fits_4 21 rfl) (by decide) ?_
    exact h
theorem vcX12_fits_60 {g : GV} {d : Nat} {P : Int32 → PS → Prop} {σ : PS} (hL : Lay σ) (l2 : Int32) (l3 : Int32) (l4 : Int32) (l5 : Int32) (h : (4 ≤ l5 → ∀ x17 : Int32, x17 = l4 + 1 → VX12_fits g (d + 1) P 51 [some (.ref 179), none, some (.int l2), some (.int l3), some (.int x17), none, none, none, none] [] σ) ∧ (¬ 4 ≤ l5 → vp_in l4 10 ∧ vp_in ((4 * (mi σ 218 (Int32.toNatClampNeg l4))) + l5) 80 ∧ ∀ x21 : Int32, x21 = mi σ 215 (Int32.toNatClampNeg ((4 * (mi σ 218 (Int32.toNatClampNeg l4))) + l5)) → vp_in l4 10 ∧ CX12_imageOf g d [.ref 179, .int ((4 * (mi σ 218 (Int32.toNatClampNeg l4))) + l5), .int l2] σ (fun (v25 : Int32) (s24 : PS) => Fr σ s24 ∧ vp_in (40 + v25) 80 ∧ ∀ x27 : Int32, x27 = mi s24 215 (Int32.toNatClampNeg (40 + v25)) → ∀ x29 : Int32, x29 = x21 / 4 → vp_in x29 10 ∧ (0 ≤ (mi s24 216 (Int32.toNatClampNeg x29)) → CX12_imageOf g d [.ref 179, .int x21, .int l2] s24 (fun (v33 : Int32) (s32 : PS) => Fr s24 s32 ∧ (v33 = x27 → ∀ x34 : Int32, x34 = l5 + 1 → VX12_fits g (d + 1) P 60 [some (.ref 179), none, some (.int l2), some (.int l3), some (.int l4), some (.int x34), none, none, none] [] s32) ∧ (¬ v33 = x27 → P 0 s32))) ∧ (¬ 0 ≤ (mi s24 216 (Int32.toNatClampNeg x29)) → vp_in x29 10 ∧ ∀ s37 : PS, s37 = si s24 216 (Int32.toNatClampNeg x29) (x27 / 4) → (l2 = 0 → vp_in x29 10 ∧ ∀ s40 : PS, s40 = si s37 217 (Int32.toNatClampNeg x29) (jrem (((jrem x27 4) + 4) - (jrem x21 4)) 4) → vp_in l3 10 ∧ ∀ s43 : PS, s43 = si s40 218 (Int32.toNatClampNeg l3) x29 → ∀ x45 : Int32, x45 = l3 + 1 → CX12_imageOf g d [.ref 179, .int x21, .int l2] s43 (fun (v48 : Int32) (s47 : PS) => Fr s43 s47 ∧ (v48 = x27 → ∀ x49 : Int32, x49 = l5 + 1 → VX12_fits g (d + 1) P 60 [some (.ref 179), none, some (.int l2), some (.int x45), some (.int l4), some (.int x49), none, none, none] [] s47) ∧ (¬ v48 = x27 → P 0 s47))) ∧ (¬ l2 = 0 → vp_in x29 10 ∧ ∀ s52 : PS, s52 = si s37 217 (Int32.toNatClampNeg x29) (jrem ((jrem x27 4) + (jrem x21 4)) 4) → vp_in l3 10 ∧ ∀ s55 : PS, s55 = si s52 218 (Int32.toNatClampNeg l3) x29 → ∀ x57 : Int32, x57 = l3 + 1 → CX12_imageOf g d [.ref 179, .int x21, .int l2] s55 (fun (v60 : Int32) (s59 : PS) => Fr s55 s59 ∧ (v60 = x27 → ∀ x61 : Int32, x61 = l5 + 1 → VX12_fits g (d + 1) P 60 [some (.ref 179), none, some (.int l2), some (.int x57), some (.int l4), some (.int x61), none, none, none] [] s59) ∧ (¬ v60 = x27 → P 0 s59))))))) : VX12_fits g (d + 1) P 60 [some (.ref 179), none, some (.int l2), some (.int l3), some (.int l4), some (.int l5), none, none, none] [] σ := by
  refine x_iload (dxX12_fits_1 8 rfl) rfl ?_
  refine x_iconst (v := 4) (dxX12_fits_1 9 rfl) rfl ?_
  refine x_icmp_ge (tgt := 206) (dxX12_fits_1 10 rfl) (by decide) (fun hc => ?_) (fun hc => ?_)
  · replace h := h.1 hc
    obtain ⟨x17, e18⟩ : ∃ y : Int32, y = l4 + 1 := ⟨_, rfl⟩
    replace h := h x17 e18
    refine x_iinc (v := x17) (dxX12_fits_4 1 rfl) (i := 4) rfl (by rw [e18]; rfl) (Nat.le_of_ble_eq_true rfl) rfl rfl ?_
    refine x_goto (tgt := 51) (dxX12_fits_4 2 rfl) (by decide) ?_
    refine x_mask [true, false, true, true, true, false, false, false, false] (L1 := [some (.ref 179), none, some (.int l2), some (.int l3), some (.int x17), none, none, none, none]) rfl ?_
    exact h
  · replace h := h.2 hc
    refine x_aload_n (i := 0) (dxX12_fits_1 11 rfl) rfl rfl ?_
    refine gf_12_119 (kd_179 hL) (rv_179_55 hL) (dxX12_fits_1 12 rfl) ?_
    refine x_iconst (v := 4) (dxX12_fits_1 13 rfl) rfl ?_
    refine x_aload_n (i := 0) (dxX12_fits_1 14 rfl) rfl rfl ?_
    refine gf_12_128 (kd_179 hL) (rv_179_58 hL) (dxX12_fits_1 15 rfl) ?_
    refine x_iload (dxX12_fits_1 16 rfl) rfl ?_
    obtain ⟨hi19, h⟩ := h
    refine x_iald (kd_218 hL) hi19 (dxX12_fits_1 17 rfl) ?_
    refine x_imul (dxX12_fits_1 18 rfl) ?_
    refine x_iload (dxX12_fits_1 19 rfl) rfl ?_
    refine x_iadd (dxX12_fits_1 20 rfl) ?_
    obtain ⟨hi20, h⟩ := h
    refine x_iald (kd_215 hL) hi20 (dxX12_fits_1 21 rfl) ?_
    refine x_topi (fun x21 e22 => ?_)
    replace h := h x21 e22
    refine x_istore (dxX12_fits_1 22 rfl) (Nat.le_of_ble_eq_true rfl) rfl rfl ?_
    refine x_aload_n (i := 0) (dxX12_fits_1 23 rfl) rfl rfl ?_
    refine gf_12_119 (kd_179 hL) (rv_179_55 hL) (dxX12_fits_1 24 rfl) ?_
    refine x_bipush (v := 40) (dxX12_fits_1 25 rfl) rfl ?_
    refine x_aload_n (i := 0) (dxX12_fits_1 26 rfl) rfl rfl ?_
    refine x_iconst (v := 4) (dxX12_fits_1 27 rfl) rfl ?_
    refine x_aload_n (i := 0) (dxX12_fits_1 28 rfl) rfl rfl ?_
    refine gf_12_128 (kd_179 hL) (rv_179_58 hL) (dxX12_fits_1 29 rfl) ?_
    refine x_iload (dxX12_fits_1 30 rfl) rfl ?_
    obtain ⟨hi23, h⟩ := h
    refine x_iald (kd_218 hL) hi23 (dxX12_fits_1 31 rfl) ?_
    refine x_imul (dxX12_fits_2 0 rfl) ?_
    refine x_iload (dxX12_fits_2 1 rfl) rfl ?_
    refine x_iadd (dxX12_fits_2 2 rfl) ?_
    refine x_iload_n (i := 2) (dxX12_fits_2 3 rfl) rfl rfl ?_
    refine cl_12_429 (kd_179 hL) (Nat.le_of_ble_eq_true rfl) (dxX12_fits_2 4 rfl) h (fun v25 s24 h => ?_) (Nat.le_refl _) (Nat.le_refl _)
    obtain ⟨hFs24, h⟩ := h
    have hKs24 : kd s24 = kd σ := hFs24.1.trans (rfl : kd σ = kd σ)
    have hLs24 : Lay s24 := hL.fr hFs24
    refine x_iadd (dxX12_fits_2 5 rfl) ?_
    obtain ⟨hi26, h⟩ := h
    refine x_iald (kd_215 hLs24) hi26 (dxX12_fits_2 6 rfl) ?_
    refine x_topi (fun x27 e28 => ?_)
    replace h := h x27 e28
    refine x_istore (dxX12_fits_2 7 rfl) (Nat.le_of_ble_eq_true rfl) rfl rfl ?_
    refine x_iload (dxX12_fits_2 8 rfl) rfl ?_
    refine x_iconst (v := 4) (dxX12_fits_2 9 rfl) rfl ?_
    refine x_idiv (dxX12_fits_2 10 rfl) (by decide) ?_
    refine x_topi (fun x29 e30 => ?_)
    replace h := h x29 e30
    refine x_istore (dxX12_fits_2 11 rfl) (Nat.le_of_ble_eq_true rfl) rfl rfl ?_
    refine x_aload_n (i := 0) (dxX12_fits_2 12 rfl) rfl rfl ?_
    refine gf_12_122 (kd_179 hLs24) (rv_179_56 hLs24) (dxX12_fits_2 13 rfl) ?_
    refine x_iload (dxX12_fits_2 14 rfl) rfl ?_
    obtain ⟨hi31, h⟩ := h
    refine x_iald (kd_216 hLs24) hi31 (dxX12_fits_2 15 rfl) ?_
    refine x_if_ge (tgt := 186) (dxX12_fits_2 16 rfl) (by decide) (fun hc => ?_) (fun hc => ?_)
    · replace h := h.1 hc
      refine x_aload_n (i := 0) (dxX12_fits_3 23 rfl) rfl rfl ?_
      refine x_iload (dxX12_fits_3 24 rfl) rfl ?_
      refine x_iload_n (i := 2) (dxX12_fits_3 25 rfl) rfl rfl ?_
      refine cl_12_429 (kd_179 hLs24) (Nat.le_of_ble_eq_true rfl) (dxX12_fits_3 26 rfl) h (fun v33 s32 h => ?_) (Nat.le_refl _) (Nat.le_refl _)
      obtain ⟨hFs32, h⟩ := h
      have hKs32 : kd s32 = kd σ := hFs32.1.trans hKs24
      have hLs32 : Lay s32 := hLs24.fr hFs32
      refine x_iload (dxX12_fits_3 27 rfl) rfl ?_
      refine x_icmp_eq (tgt := 200) (dxX12_fits_3 28 rfl) (by decide) (fun hc => ?_) (fun hc => ?_)
      · replace h := h.1 hc
        obtain ⟨x34, e35⟩ : ∃ y : Int32, y = l5 + 1 := ⟨_, rfl⟩
        replace h := h x34 e35
        refine x_iinc (v := x34) (dxX12_fits_3 31 rfl) (i := 5) rfl (by rw [e35]; rfl) (Nat.le_of_ble_eq_true rfl) rfl rfl ?_
        refine x_goto (tgt := 60) (dxX12_fits_4 0 rfl) (by decide) ?_
        refine x_mask [true, false, true, true, true, true, false, false, false] (L1 := [some (.ref 179), none, some (.int l2), some (.int l3), some (.int l4), some (.int x34), none, none, none]) rfl ?_
        exact h
      · replace h := h.2 hc
        refine x_iconst (v := 0) (dxX12_fits_3 29 rfl) rfl ?_
        exact x_iret (ty := .boolean) rfl rfl (dxX12_fits_3 30 rfl) ⟨_, rfl, h⟩
    · replace h := h.2 hc
      refine x_aload_n (i := 0) (dxX12_fits_2 17 rfl) rfl rfl ?_
      refine gf_12_122 (kd_179 hLs24) (rv_179_56 hLs24) (dxX12_fits_2 18 rfl) ?_
      refine x_iload (dxX12_fits_2 19 rfl) rfl ?_
      refine x_iload (dxX12_fits_2 20 rfl) rfl ?_
      refine x_iconst (v := 4) (dxX12_fits_2 21 rfl) rfl ?_
      refine x_idiv (dxX12_fits_2 22 rfl) (by decide) ?_
      obtain ⟨hi36, h⟩ := h
      refine x_iast (kd_216 hLs24) hi36 (dxX12_fits_2 23 rfl) ?_
      refine x_sto (fun s37 e38 => ?_)
      replace h := h s37 e38
      have hKs37 : kd s37 = kd σ := by rw [e38]; exact hKs24
      have hLs37 : Lay s37 := by rw [e38]; exact hLs24.si
      refine x_aload_n (i := 0) (dxX12_fits_2 24 rfl) rfl rfl ?_
      refine gf_12_125 (kd_179 hLs37) (rv_179_57 hLs37) (dxX12_fits_2 25 rfl) ?_
      refine x_iload (dxX12_fits_2 26 rfl) rfl ?_
      refine x_iload_n (i := 2) (dxX12_fits_2 27 rfl) rfl rfl ?_
      refine x_if_eq (tgt := 161) (dxX12_fits_2 28 rfl) (by decide) (fun hc => ?_) (fun hc => ?_)
      · replace h := h.1 hc
        refine x_iload (dxX12_fits_3 5 rfl) rfl ?_
        refine x_iconst (v := 4) (dxX12_fits_3 6 rfl) rfl ?_
        refine x_irem (dxX12_fits_3 7 rfl) (by decide) ?_
        refine x_iconst (v := 4) (dxX12_fits_3 8 rfl) rfl ?_
        refine x_iadd (dxX12_fits_3 9 rfl) ?_
        refine x_iload (dxX12_fits_3 10 rfl) rfl ?_
        refine x_iconst (v := 4) (dxX12_fits_3 11 rfl) rfl ?_
        refine x_irem (dxX12_fits_3 12 rfl) (by decide) ?_
        refine x_isub (dxX12_fits_3 13 rfl) ?_
        refine x_iconst (v := 4) (dxX12_fits_3 14 rfl) rfl ?_
        refine x_irem (dxX12_fits_3 15 rfl) (by decide) ?_
        obtain ⟨hi39, h⟩ := h
        refine x_iast (kd_217 hLs37) hi39 (dxX12_fits_3 16 rfl) ?_
        refine x_sto (fun s40 e41 => ?_)
        replace h := h s40 e41
        have hKs40 : kd s40 = kd σ := by rw [e41]; exact hKs37
        have hLs40 : Lay s40 := by rw [e41]; exact hLs37.si
        refine x_aload_n (i := 0) (dxX12_fits_3 17 rfl) rfl rfl ?_
        refine gf_12_128 (kd_179 hLs40) (rv_179_58 hLs40) (dxX12_fits_3 18 rfl) ?_
        refine x_iload_n (i := 3) (dxX12_fits_3 19 rfl) rfl rfl ?_
        refine x_iload (dxX12_fits_3 20 rfl) rfl ?_
        obtain ⟨hi42, h⟩ := h
        refine x_iast (kd_218 hLs40) hi42 (dxX12_fits_3 21 rfl) ?_
        refine x_sto (fun s43 e44 => ?_)
        replace h := h s43 e44
        have hKs43 : kd s43 = kd σ := by rw [e44]; exact hKs40
        have hLs43 : Lay s43 := by rw [e44]; exact hLs40.si
        obtain ⟨x45, e46⟩ : ∃ y : Int32, y = l3 + 1 := ⟨_, rfl⟩
        replace h := h x45 e46
        refine x_iinc (v := x45) (dxX12_fits_3 22 rfl) (i := 3) rfl (by rw [e46]; rfl) (Nat.le_of_ble_eq_true rfl) rfl rfl ?_
        refine x_aload_n (i := 0) (dxX12_fits_3 23 rfl) rfl rfl ?_
        refine x_iload (dxX12_fits_3 24 rfl) rfl ?_
        refine x_iload_n (i := 2) (dxX12_fits_3 25 rfl) rfl rfl ?_
        refine cl_12_429 (kd_179 hLs43) (Nat.le_of_ble_eq_true rfl) (dxX12_fits_3 26 rfl) h (fun v48 s47 h => ?_) (Nat.le_refl _) (Nat.le_refl _)
        obtain ⟨hFs47, h⟩ := h
        have hKs47 : kd s47 = kd σ := hFs47.1.trans hKs43
        have hLs47 : Lay s47 := hLs43.fr hFs47
        refine x_iload (dxX12_fits_3 27 rfl) rfl ?_
        refine x_icmp_eq (tgt := 200) (dxX12_fits_3 28 rfl) (by decide) (fun hc => ?_) (fun hc => ?_)
        · replace h := h.1 hc
          obtain ⟨x49, e50⟩ : ∃ y : Int32, y = l5 + 1 := ⟨_, rfl⟩
          replace h := h x49 e50
          refine x_iinc (v := x49) (dxX12_fits_3 31 rfl) (i := 5) rfl (by rw [e50]; rfl) (Nat.le_of_ble_eq_true rfl) rfl rfl ?_
          refine x_goto (tgt := 60) (dxX12_fits_4 0 rfl) (by decide) ?_
          refine x_mask [true, false, true, true, true, true, false, false, false] (L1 := [some (.ref 179), none, some (.int l2), some (.int x45), some (.int l4), some (.int x49), none, none, none]) rfl ?_
          exact h
        · replace h := h.2 hc
          refine x_iconst (v := 0) (dxX12_fits_3 29 rfl) rfl ?_
          exact x_iret (ty := .boolean) rfl rfl (dxX12_fits_3 30 rfl) ⟨_, rfl, h⟩
      · replace h := h.2 hc
        refine x_iload (dxX12_fits_2 29 rfl) rfl ?_
        refine x_iconst (v := 4) (dxX12_fits_2 30 rfl) rfl ?_
        refine x_irem (dxX12_fits_2 31 rfl) (by decide) ?_
        refine x_iload (dxX12_fits_3 0 rfl) rfl ?_
        refine x_iconst (v := 4) (dxX12_fits_3 1 rfl) rfl ?_
        refine x_irem (dxX12_fits_3 2 rfl) (by decide) ?_
        refine x_iadd (dxX12_fits_3 3 rfl) ?_
        refine x_goto (tgt := 172) (dxX12_fits_3 4 rfl) (by decide) ?_
        refine x_iconst (v := 4) (dxX12_fits_3 14 rfl) rfl ?_
        refine x_irem (dxX12_fits_3 15 rfl) (by decide) ?_
        obtain ⟨hi51, h⟩ := h
        refine x_iast (kd_217 hLs37) hi51 (dxX12_fits_3 16 rfl) ?_
        refine x_sto (fun s52 e53 => ?_)
        replace h := h s52 e53
        have hKs52 : kd s52 = kd σ := by rw [e53]; exact hKs37
        have hLs52 : Lay s52 := by rw [e53]; exact hLs37.si
        refine x_aload_n (i := 0) (dxX12_fits_3 17 rfl) rfl rfl ?_
        refine gf_12_128 (kd_179 hLs52) (rv_179_58 hLs52) (dxX12_fits_3 18 rfl) ?_
        refine x_iload_n (i := 3) (dxX12_fits_3 19 rfl) rfl rfl ?_
        refine x_iload (dxX12_fits_3 20 rfl) rfl ?_
        obtain ⟨hi54, h⟩ := h
        refine x_iast (kd_218 hLs52) hi54 (dxX12_fits_3 21 rfl) ?_
        refine x_sto (fun s55 e56 => ?_)
        replace h := h s55 e56
        have hKs55 : kd s55 = kd σ := by rw [e56]; exact hKs52
        have hLs55 : Lay s55 := by rw [e56]; exact hLs52.si
        obtain ⟨x57, e58⟩ : ∃ y : Int32, y = l3 + 1 := ⟨_, rfl⟩
        replace h := h x57 e58
        refine x_iinc (v := x57) (dxX12_fits_3 22 rfl) (i := 3) rfl (by rw [e58]; rfl) (Nat.le_of_ble_eq_true rfl) rfl rfl ?_
        refine x_aload_n (i := 0) (dxX12_fits_3 23 rfl) rfl rfl ?_
        refine x_iload (dxX12_fits_3 24 rfl) rfl ?_
        refine x_iload_n (i := 2) (dxX12_fits_3 25 rfl) rfl rfl ?_
        refine cl_12_429 (kd_179 hLs55) (Nat.le_of_ble_eq_true rfl) (dxX12_fits_3 26 rfl) h (fun v60 s59 h => ?_) (Nat.le_refl _) (Nat.le_refl _)
        obtain ⟨hFs59, h⟩ := h
        have hKs59 : kd s59 = kd σ := hFs59.1.trans hKs55
        have hLs59 : Lay s59 := hLs55.fr hFs59
        refine x_iload (dxX12_fits_3 27 rfl) rfl ?_
        refine x_icmp_eq (tgt := 200) (dxX12_fits_3 28 rfl) (by decide) (fun hc => ?_) (fun hc => ?_)
        · replace h := h.1 hc
          obtain ⟨x61, e62⟩ : ∃ y : Int32, y = l5 + 1 := ⟨_, rfl⟩
          replace h := h x61 e62
          refine x_iinc (v := x61) (dxX12_fits_3 31 rfl) (i := 5) rfl (by rw [e62]; rfl) (Nat.le_of_ble_eq_true rfl) rfl rfl ?_
          refine x_goto (tgt := 60) (dxX12_fits_4 0 rfl) (by decide) ?_
          refine x_mask [true, false, true, true, true, true, false, false, false] (L1 := [some (.ref 179), none, some (.int l2), some (.int x57), some (.int l4), some (.int x61), none, none, none]) rfl ?_
          exact h
        · replace h := h.2 hc
          refine x_iconst (v := 0) (dxX12_fits_3 29 rfl) rfl ?_
          exact x_iret (ty := .boolean) rfl rfl (dxX12_fits_3 30 rfl) ⟨_, rfl, h⟩
theorem vcX12_areSame {g : GV} {d : Nat} {P : Int32 → PS → Prop} {σ : PS} (hL : Lay σ) (p0 : Int32) (p1 : Int32) (h : CX12_laysBody g d [.ref 179, .int 0, .int p0] σ (fun (s1 : PS) => Fr σ s1 ∧ CX12_laysBody g d [.ref 179, .int 40, .int p1] s1 (fun (s3 : PS) => Fr s1 s3 ∧ VX12_areSame g (d + 1) P 15 [some (.ref 179), none, none, some (.int 0)] [] s3))) : CX12_areSame g (d + 1) [.ref 179, .int p0, .int p1] σ P := by
  refine x_entry (L := [some (.ref 179), some (.int p0), some (.int p1), none]) pn_12 (Nat.le_of_ble_eq_true rfl) ⟨1, rfl⟩ ?_
  show VX12_areSame g (d + 1) P 0 [some (.ref 179), some (.int p0), some (.int p1), none] [] σ
  refine x_aload_n (i := 0) (dxX12_areSame_0 0 rfl) rfl rfl ?_
  refine x_iconst (v := 0) (dxX12_areSame_0 1 rfl) rfl ?_
  refine x_iload_n (i := 1) (dxX12_areSame_0 2 rfl) rfl rfl ?_
  refine cl_12_423 (kd_179 hL) (Nat.le_of_ble_eq_true rfl) (dxX12_areSame_0 3 rfl) h (fun s1 h => ?_) (Nat.le_refl _) (Nat.le_refl _)
  obtain ⟨hFs1, h⟩ := h
  have hKs1 : kd s1 = kd σ := hFs1.1.trans (rfl : kd σ = kd σ)
  have hLs1 : Lay s1 := hL.fr hFs1
  refine x_aload_n (i := 0) (dxX12_areSame_0 4 rfl) rfl rfl ?_
  refine x_bipush (v := 40) (dxX12_areSame_0 5 rfl) rfl ?_
  refine x_iload_n (i := 2) (dxX12_areSame_0 6 rfl) rfl rfl ?_
  refine cl_12_423 (kd_179 hLs1) (Nat.le_of_ble_eq_true rfl) (dxX12_areSame_0 7 rfl) h (fun s3 h => ?_) (Nat.le_refl _) (Nat.le_refl _)
  obtain ⟨hFs3, h⟩ := h
  have hKs3 : kd s3 = kd σ := hFs3.1.trans hKs1
  have hLs3 : Lay s3 := hLs1.fr hFs3
  refine x_iconst (v := 0) (dxX12_areSame_0 8 rfl) rfl ?_
  refine x_istore_n (i := 3) (dxX12_areSame_0 9 rfl) rfl (Nat.le_of_ble_eq_true rfl) rfl rfl ?_
  refine x_mask [true, false, false, true] (L1 := [some (.ref 179), none, none, some (.int 0)]) rfl ?_
  exact h
theorem vcX12_areSame_15 {g : GV} {d : Nat} {P : Int32 → PS → Prop} {σ : PS} (hL : Lay σ) (l3 : Int32) (h : ((4 * (mi σ 179 35)) ≤ l3 → P 0 σ) ∧ (¬ (4 * (mi σ 179 35)) ≤ l3 → CX12_fits g d [.ref 179, .int l3, .int 0] σ (fun (v6 : Int32) (s5 : PS) => Fr σ s5 ∧ (¬ v6 = 0 → P 1 s5) ∧ (v6 = 0 → CX12_fits g d [.ref 179, .int l3, .int 1] s5 (fun (v8 : Int32) (s7 : PS) => Fr s5 s7 ∧ (v8 = 0 → ∀ x9 : Int32, x9 = l3 + 1 → VX12_areSame g (d + 1) P 15 [some (.ref 179), none, none, some (.int x9)] [] s7) ∧ (¬ v8 = 0 → P 1 s7)))))) : VX12_areSame g (d + 1) P 15 [some (.ref 179), none, none, some (.int l3)] [] σ := by
  refine x_iload_n (i := 3) (dxX12_areSame_0 10 rfl) rfl rfl ?_
  refine x_iconst (v := 4) (dxX12_areSame_0 11 rfl) rfl ?_
  refine x_aload_n (i := 0) (dxX12_areSame_0 12 rfl) rfl rfl ?_
  refine gf_12_177 (kd_179 hL) rfl (dxX12_areSame_0 13 rfl) ?_
  refine x_imul (dxX12_areSame_0 14 rfl) ?_
  refine x_icmp_ge (tgt := 51) (dxX12_areSame_0 15 rfl) (by decide) (fun hc => ?_) (fun hc => ?_)
  · replace h := h.1 hc
    refine x_iconst (v := 0) (dxX12_areSame_0 30 rfl) rfl ?_
    exact x_iret (ty := .boolean) rfl rfl (dxX12_areSame_0 31 rfl) ⟨_, rfl, h⟩
  · replace h := h.2 hc
    refine x_aload_n (i := 0) (dxX12_areSame_0 16 rfl) rfl rfl ?_
    refine x_iload_n (i := 3) (dxX12_areSame_0 17 rfl) rfl rfl ?_
    refine x_iconst (v := 0) (dxX12_areSame_0 18 rfl) rfl ?_
    refine cl_12_433 (kd_179 hL) (Nat.le_of_ble_eq_true rfl) (dxX12_areSame_0 19 rfl) h (fun v6 s5 h => ?_) (Nat.le_refl _) (Nat.le_refl _)
    obtain ⟨hFs5, h⟩ := h
    have hKs5 : kd s5 = kd σ := hFs5.1.trans (rfl : kd σ = kd σ)
    have hLs5 : Lay s5 := hL.fr hFs5
    refine x_if_ne (tgt := 43) (dxX12_areSame_0 20 rfl) (by decide) (fun hc => ?_) (fun hc => ?_)
    · replace h := h.1 hc
      refine x_iconst (v := 1) (dxX12_areSame_0 26 rfl) rfl ?_
      exact x_iret (ty := .boolean) rfl rfl (dxX12_areSame_0 27 rfl) ⟨_, rfl, h⟩
    · replace h := h.2 hc
      refine x_aload_n (i := 0) (dxX12_areSame_0 21 rfl) rfl rfl ?_
      refine x_iload_n (i := 3) (dxX12_areSame_0 22 rfl) rfl rfl ?_
      refine x_iconst (v := 1) (dxX12_areSame_0 23 rfl) rfl ?_
      refine cl_12_433 (kd_179 hLs5) (Nat.le_of_ble_eq_true rfl) (dxX12_areSame_0 24 rfl) h (fun v8 s7 h => ?_) (Nat.le_refl _) (Nat.le_refl _)
      obtain ⟨hFs7, h⟩ := h
      have hKs7 : kd s7 = kd σ := hFs7.1.trans hKs5
      have hLs7 : Lay s7 := hLs5.fr hFs7
      refine x_if_eq (tgt := 45) (dxX12_areSame_0 25 rfl) (by decide) (fun hc => ?_) (fun hc => ?_)
      · replace h := h.1 hc
        obtain ⟨x9, e10⟩ : ∃ y : Int32, y = l3 + 1 := ⟨_, rfl⟩
        replace h := h x9 e10
        refine x_iinc (v := x9) (dxX12_areSame_0 28 rfl) (i := 3) rfl (by rw [e10]; rfl) (Nat.le_of_ble_eq_true rfl) rfl rfl ?_
        refine x_goto (tgt := 15) (dxX12_areSame_0 29 rfl) (by decide) ?_
        exact h
      · replace h := h.2 hc
        refine x_iconst (v := 1) (dxX12_areSame_0 26 rfl) rfl ?_
        exact x_iret (ty := .boolean) rfl rfl (dxX12_areSame_0 27 rfl) ⟨_, rfl, h⟩
theorem vcX12_same {g : GV} {d : Nat} {P : Int32 → PS → Prop} {σ : PS} (hL : Lay σ) (p0 : Int32) (p1 : Int32) (h : ∀ s1 : PS, s1 = si σ 179 0 0 → CX12_isGluing g d [.ref 179, .int p0] s1 (fun (v4 : Int32) (s3 : PS) => Fr s1 s3 ∧ (v4 = 0 → P (-1) s3) ∧ (¬ v4 = 0 → CX12_isGluing g d [.ref 179, .int p1] s3 (fun (v6 : Int32) (s5 : PS) => Fr s3 s5 ∧ (v6 = 0 → P (-1) s5) ∧ (¬ v6 = 0 → CX12_areSame g d [.ref 179, .int p0, .int p1] s5 (fun (v8 : Int32) (s7 : PS) => Fr s5 s7 ∧ (v8 = 0 → P 0 s7) ∧ (¬ v8 = 0 → P 1 s7))))))) : CX12_same g (d + 1) [.ref 179, .int p0, .int p1] σ P := by
  refine x_entry (L := [some (.ref 179), some (.int p0), some (.int p1)]) pn_12 (Nat.le_of_ble_eq_true rfl) ⟨0, rfl⟩ ?_
  show VX12_same g (d + 1) P 0 [some (.ref 179), some (.int p0), some (.int p1)] [] σ
  refine x_aload_n (i := 0) (dxX12_same_0 0 rfl) rfl rfl ?_
  refine x_iconst (v := 0) (dxX12_same_0 1 rfl) rfl ?_
  refine pf_12_184 (kd_179 hL) (dxX12_same_0 2 rfl) ?_
  refine x_sto (fun s1 e2 => ?_)
  replace h := h s1 e2
  have hKs1 : kd s1 = kd σ := by rw [e2]; exact (rfl : kd σ = kd σ)
  have hLs1 : Lay s1 := by rw [e2]; exact hL.si
  refine x_aload_n (i := 0) (dxX12_same_0 3 rfl) rfl rfl ?_
  refine x_iload_n (i := 1) (dxX12_same_0 4 rfl) rfl rfl ?_
  refine cl_12_401 (kd_179 hLs1) (Nat.le_of_ble_eq_true rfl) (dxX12_same_0 5 rfl) h (fun v4 s3 h => ?_) (Nat.le_refl _) (Nat.le_refl _)
  obtain ⟨hFs3, h⟩ := h
  have hKs3 : kd s3 = kd σ := hFs3.1.trans hKs1
  have hLs3 : Lay s3 := hLs1.fr hFs3
  refine x_if_eq (tgt := 38) (dxX12_same_0 6 rfl) (by decide) (fun hc => ?_) (fun hc => ?_)
  · replace h := h.1 hc
    refine x_iconst (v := (-1)) (dxX12_same_0 20 rfl) rfl ?_
    exact x_iret (ty := .int) rfl rfl (dxX12_same_0 21 rfl) ⟨_, rfl, h⟩
  · replace h := h.2 hc
    refine x_aload_n (i := 0) (dxX12_same_0 7 rfl) rfl rfl ?_
    refine x_iload_n (i := 2) (dxX12_same_0 8 rfl) rfl rfl ?_
    refine cl_12_401 (kd_179 hLs3) (Nat.le_of_ble_eq_true rfl) (dxX12_same_0 9 rfl) h (fun v6 s5 h => ?_) (Nat.le_refl _) (Nat.le_refl _)
    obtain ⟨hFs5, h⟩ := h
    have hKs5 : kd s5 = kd σ := hFs5.1.trans hKs3
    have hLs5 : Lay s5 := hLs3.fr hFs5
    refine x_if_eq (tgt := 38) (dxX12_same_0 10 rfl) (by decide) (fun hc => ?_) (fun hc => ?_)
    · replace h := h.1 hc
      refine x_iconst (v := (-1)) (dxX12_same_0 20 rfl) rfl ?_
      exact x_iret (ty := .int) rfl rfl (dxX12_same_0 21 rfl) ⟨_, rfl, h⟩
    · replace h := h.2 hc
      refine x_aload_n (i := 0) (dxX12_same_0 11 rfl) rfl rfl ?_
      refine x_iload_n (i := 1) (dxX12_same_0 12 rfl) rfl rfl ?_
      refine x_iload_n (i := 2) (dxX12_same_0 13 rfl) rfl rfl ?_
      refine cl_12_437 (kd_179 hLs5) (Nat.le_of_ble_eq_true rfl) (dxX12_same_0 14 rfl) h (fun v8 s7 h => ?_) (Nat.le_refl _) (Nat.le_refl _)
      obtain ⟨hFs7, h⟩ := h
      have hKs7 : kd s7 = kd σ := hFs7.1.trans hKs5
      have hLs7 : Lay s7 := hLs5.fr hFs7
      refine x_if_eq (tgt := 34) (dxX12_same_0 15 rfl) (by decide) (fun hc => ?_) (fun hc => ?_)
      · replace h := h.1 hc
        refine x_iconst (v := 0) (dxX12_same_0 18 rfl) rfl ?_
        refine x_goto (tgt := 39) (dxX12_same_0 19 rfl) (by decide) ?_
        exact x_iret (ty := .int) rfl rfl (dxX12_same_0 21 rfl) ⟨_, rfl, h⟩
      · replace h := h.2 hc
        refine x_iconst (v := 1) (dxX12_same_0 16 rfl) rfl ?_
        refine x_goto (tgt := 39) (dxX12_same_0 17 rfl) (by decide) ?_
        exact x_iret (ty := .int) rfl rfl (dxX12_same_0 21 rfl) ⟨_, rfl, h⟩
theorem vcX12_hasBodies {g : GV} {d : Nat} {P : Int32 → PS → Prop} {σ : PS} (hL : Lay σ)  (h : CX12_isListed g d [.ref 179] σ (fun (v2 : Int32) (s1 : PS) => Fr σ s1 ∧ (v2 = 0 → P 0 s1) ∧ (¬ v2 = 0 → ((mi s1 179 48) ≤ 300 → ((mi s1 179 59) = 0 → ∀ s3 : PS, s3 = si s1 179 59 1 → VX12_hasBodies g (d + 1) P 35 [some (.ref 179), some (.int 0), none] [] s3) ∧ (¬ (mi s1 179 59) = 0 → P 1 s1)) ∧ (¬ (mi s1 179 48) ≤ 300 → P 0 s1)))) : CX12_hasBodies g (d + 1) [.ref 179] σ P := by
  refine x_entry (L := [some (.ref 179), none, none]) pn_12 (Nat.le_of_ble_eq_true rfl) ⟨2, rfl⟩ ?_
  show VX12_hasBodies g (d + 1) P 0 [some (.ref 179), none, none] [] σ
  refine x_aload_n (i := 0) (dxX12_hasBodies_0 0 rfl) rfl rfl ?_
  refine cl_12_399 (kd_179 hL) (Nat.le_of_ble_eq_true rfl) (dxX12_hasBodies_0 1 rfl) h (fun v2 s1 h => ?_) (Nat.le_refl _) (Nat.le_refl _)
  obtain ⟨hFs1, h⟩ := h
  have hKs1 : kd s1 = kd σ := hFs1.1.trans (rfl : kd σ = kd σ)
  have hLs1 : Lay s1 := hL.fr hFs1
  refine x_if_eq (tgt := 17) (dxX12_hasBodies_0 2 rfl) (by decide) (fun hc => ?_) (fun hc => ?_)
  · replace h := h.1 hc
    refine x_iconst (v := 0) (dxX12_hasBodies_0 7 rfl) rfl ?_
    exact x_iret (ty := .boolean) rfl rfl (dxX12_hasBodies_0 8 rfl) ⟨_, rfl, h⟩
  · replace h := h.2 hc
    refine x_aload_n (i := 0) (dxX12_hasBodies_0 3 rfl) rfl rfl ?_
    refine gf_12_386 (kd_179 hLs1) rfl (dxX12_hasBodies_0 4 rfl) ?_
    refine x_sipush (v := 300) (dxX12_hasBodies_0 5 rfl) rfl ?_
    refine x_icmp_le (tgt := 19) (dxX12_hasBodies_0 6 rfl) (by decide) (fun hc => ?_) (fun hc => ?_)
    · replace h := h.1 hc
      refine x_aload_n (i := 0) (dxX12_hasBodies_0 9 rfl) rfl rfl ?_
      refine gf_12_396 (kd_179 hLs1) rfl (dxX12_hasBodies_0 10 rfl) ?_
      refine x_if_eq (tgt := 28) (dxX12_hasBodies_0 11 rfl) (by decide) (fun hc => ?_) (fun hc => ?_)
      · replace h := h.1 hc
        refine x_aload_n (i := 0) (dxX12_hasBodies_0 14 rfl) rfl rfl ?_
        refine x_iconst (v := 1) (dxX12_hasBodies_0 15 rfl) rfl ?_
        refine pf_12_396 (Or.inr rfl) (kd_179 hLs1) (dxX12_hasBodies_0 16 rfl) ?_
        refine x_sto (fun s3 e4 => ?_)
        replace h := h s3 e4
        have hKs3 : kd s3 = kd σ := by rw [e4]; exact hKs1
        have hLs3 : Lay s3 := by rw [e4]; exact hLs1.si
        refine x_iconst (v := 0) (dxX12_hasBodies_0 17 rfl) rfl ?_
        refine x_istore_n (i := 1) (dxX12_hasBodies_0 18 rfl) rfl (Nat.le_of_ble_eq_true rfl) rfl rfl ?_
        exact h
      · replace h := h.2 hc
        refine x_iconst (v := 1) (dxX12_hasBodies_0 12 rfl) rfl ?_
        exact x_iret (ty := .boolean) rfl rfl (dxX12_hasBodies_0 13 rfl) ⟨_, rfl, h⟩
    · replace h := h.2 hc
      refine x_iconst (v := 0) (dxX12_hasBodies_0 7 rfl) rfl ?_
      exact x_iret (ty := .boolean) rfl rfl (dxX12_hasBodies_0 8 rfl) ⟨_, rfl, h⟩
theorem vcX12_hasBodies_35 {g : GV} {d : Nat} {P : Int32 → PS → Prop} {σ : PS} (hL : Lay σ) (l1 : Int32) (h : ((mi σ 179 48) ≤ l1 → P 1 σ) ∧ (¬ (mi σ 179 48) ≤ l1 → vp_in l1 300 ∧ ∀ s6 : PS, s6 = si σ 219 (Int32.toNatClampNeg l1) l1 → VX12_hasBodies g (d + 1) P 52 [some (.ref 179), some (.int l1), some (.int 0)] [] s6)) : VX12_hasBodies g (d + 1) P 35 [some (.ref 179), some (.int l1), none] [] σ := by
  refine x_iload_n (i := 1) (dxX12_hasBodies_0 19 rfl) rfl rfl ?_
  refine x_aload_n (i := 0) (dxX12_hasBodies_0 20 rfl) rfl rfl ?_
  refine gf_12_386 (kd_179 hL) rfl (dxX12_hasBodies_0 21 rfl) ?_
  refine x_icmp_ge (tgt := 105) (dxX12_hasBodies_0 22 rfl) (by decide) (fun hc => ?_) (fun hc => ?_)
  · replace h := h.1 hc
    refine x_iconst (v := 1) (dxX12_hasBodies_1 27 rfl) rfl ?_
    exact x_iret (ty := .boolean) rfl rfl (dxX12_hasBodies_1 28 rfl) ⟨_, rfl, h⟩
  · replace h := h.2 hc
    refine x_aload_n (i := 0) (dxX12_hasBodies_0 23 rfl) rfl rfl ?_
    refine gf_12_131 (kd_179 hL) (rv_179_60 hL) (dxX12_hasBodies_0 24 rfl) ?_
    refine x_iload_n (i := 1) (dxX12_hasBodies_0 25 rfl) rfl rfl ?_
    refine x_iload_n (i := 1) (dxX12_hasBodies_0 26 rfl) rfl rfl ?_
    obtain ⟨hi5, h⟩ := h
    refine x_iast (kd_219 hL) hi5 (dxX12_hasBodies_0 27 rfl) ?_
    refine x_sto (fun s6 e7 => ?_)
    replace h := h s6 e7
    have hKs6 : kd s6 = kd σ := by rw [e7]; exact (rfl : kd σ = kd σ)
    have hLs6 : Lay s6 := by rw [e7]; exact hL.si
    refine x_iconst (v := 0) (dxX12_hasBodies_0 28 rfl) rfl ?_
    refine x_istore_n (i := 2) (dxX12_hasBodies_0 29 rfl) rfl (Nat.le_of_ble_eq_true rfl) rfl rfl ?_
    exact h
theorem vcX12_hasBodies_52 {g : GV} {d : Nat} {P : Int32 → PS → Prop} {σ : PS} (hL : Lay σ) (l1 : Int32) (l2 : Int32) (h : (l1 ≤ l2 → ∀ x8 : Int32, x8 = l1 + 1 → VX12_hasBodies g (d + 1) P 35 [some (.ref 179), some (.int x8), none] [] σ) ∧ (¬ l1 ≤ l2 → vp_in l1 300 ∧ (¬ (mi σ 219 (Int32.toNatClampNeg l1)) = l1 → ∀ x11 : Int32, x11 = l1 + 1 → VX12_hasBodies g (d + 1) P 35 [some (.ref 179), some (.int x11), none] [] σ) ∧ ((mi σ 219 (Int32.toNatClampNeg l1)) = l1 → vp_in l2 300 ∧ (¬ (mi σ 219 (Int32.toNatClampNeg l2)) = l2 → ∀ x14 : Int32, x14 = l2 + 1 → VX12_hasBodies g (d + 1) P 52 [some (.ref 179), some (.int l1), some (.int x14)] [] σ) ∧ ((mi σ 219 (Int32.toNatClampNeg l2)) = l2 → CX12_areSame g d [.ref 179, .int l1, .int l2] σ (fun (v17 : Int32) (s16 : PS) => Fr σ s16 ∧ (v17 = 0 → ∀ x18 : Int32, x18 = l2 + 1 → VX12_hasBodies g (d + 1) P 52 [some (.ref 179), some (.int l1), some (.int x18)] [] s16) ∧ (¬ v17 = 0 → vp_in l1 300 ∧ ∀ s21 : PS, s21 = si s16 219 (Int32.toNatClampNeg l1) l2 → ∀ x23 : Int32, x23 = l2 + 1 → VX12_hasBodies g (d + 1) P 52 [some (.ref 179), some (.int l1), some (.int x23)] [] s21)))))) : VX12_hasBodies g (d + 1) P 52 [some (.ref 179), some (.int l1), some (.int l2)] [] σ := by
  refine x_iload_n (i := 2) (dxX12_hasBodies_0 30 rfl) rfl rfl ?_
  refine x_iload_n (i := 1) (dxX12_hasBodies_0 31 rfl) rfl rfl ?_
  refine x_icmp_ge (tgt := 99) (dxX12_hasBodies_1 0 rfl) (by decide) (fun hc => ?_) (fun hc => ?_)
  · replace h := h.1 hc
    obtain ⟨x8, e9⟩ : ∃ y : Int32, y = l1 + 1 := ⟨_, rfl⟩
    replace h := h x8 e9
    refine x_iinc (v := x8) (dxX12_hasBodies_1 25 rfl) (i := 1) rfl (by rw [e9]; rfl) (Nat.le_of_ble_eq_true rfl) rfl rfl ?_
    refine x_goto (tgt := 35) (dxX12_hasBodies_1 26 rfl) (by decide) ?_
    refine x_mask [true, true, false] (L1 := [some (.ref 179), some (.int x8), none]) rfl ?_
    exact h
  · replace h := h.2 hc
    refine x_aload_n (i := 0) (dxX12_hasBodies_1 1 rfl) rfl rfl ?_
    refine gf_12_131 (kd_179 hL) (rv_179_60 hL) (dxX12_hasBodies_1 2 rfl) ?_
    refine x_iload_n (i := 1) (dxX12_hasBodies_1 3 rfl) rfl rfl ?_
    obtain ⟨hi10, h⟩ := h
    refine x_iald (kd_219 hL) hi10 (dxX12_hasBodies_1 4 rfl) ?_
    refine x_iload_n (i := 1) (dxX12_hasBodies_1 5 rfl) rfl rfl ?_
    refine x_icmp_ne (tgt := 99) (dxX12_hasBodies_1 6 rfl) (by decide) (fun hc => ?_) (fun hc => ?_)
    · replace h := h.1 hc
      obtain ⟨x11, e12⟩ : ∃ y : Int32, y = l1 + 1 := ⟨_, rfl⟩
      replace h := h x11 e12
      refine x_iinc (v := x11) (dxX12_hasBodies_1 25 rfl) (i := 1) rfl (by rw [e12]; rfl) (Nat.le_of_ble_eq_true rfl) rfl rfl ?_
      refine x_goto (tgt := 35) (dxX12_hasBodies_1 26 rfl) (by decide) ?_
      refine x_mask [true, true, false] (L1 := [some (.ref 179), some (.int x11), none]) rfl ?_
      exact h
    · replace h := h.2 hc
      refine x_aload_n (i := 0) (dxX12_hasBodies_1 7 rfl) rfl rfl ?_
      refine gf_12_131 (kd_179 hL) (rv_179_60 hL) (dxX12_hasBodies_1 8 rfl) ?_
      refine x_iload_n (i := 2) (dxX12_hasBodies_1 9 rfl) rfl rfl ?_
      obtain ⟨hi13, h⟩ := h
      refine x_iald (kd_219 hL) hi13 (dxX12_hasBodies_1 10 rfl) ?_
      refine x_iload_n (i := 2) (dxX12_hasBodies_1 11 rfl) rfl rfl ?_
      refine x_icmp_ne (tgt := 93) (dxX12_hasBodies_1 12 rfl) (by decide) (fun hc => ?_) (fun hc => ?_)
      · replace h := h.1 hc
        obtain ⟨x14, e15⟩ : ∃ y : Int32, y = l2 + 1 := ⟨_, rfl⟩
        replace h := h x14 e15
        refine x_iinc (v := x14) (dxX12_hasBodies_1 23 rfl) (i := 2) rfl (by rw [e15]; rfl) (Nat.le_of_ble_eq_true rfl) rfl rfl ?_
        refine x_goto (tgt := 52) (dxX12_hasBodies_1 24 rfl) (by decide) ?_
        exact h
      · replace h := h.2 hc
        refine x_aload_n (i := 0) (dxX12_hasBodies_1 13 rfl) rfl rfl ?_
        refine x_iload_n (i := 1) (dxX12_hasBodies_1 14 rfl) rfl rfl ?_
        refine x_iload_n (i := 2) (dxX12_hasBodies_1 15 rfl) rfl rfl ?_
        refine cl_12_437 (kd_179 hL) (Nat.le_of_ble_eq_true rfl) (dxX12_hasBodies_1 16 rfl) h (fun v17 s16 h => ?_) (Nat.le_refl _) (Nat.le_refl _)
        obtain ⟨hFs16, h⟩ := h
        have hKs16 : kd s16 = kd σ := hFs16.1.trans (rfl : kd σ = kd σ)
        have hLs16 : Lay s16 := hL.fr hFs16
        refine x_if_eq (tgt := 93) (dxX12_hasBodies_1 17 rfl) (by decide) (fun hc => ?_) (fun hc => ?_)
        · replace h := h.1 hc
          obtain ⟨x18, e19⟩ : ∃ y : Int32, y = l2 + 1 := ⟨_, rfl⟩
          replace h := h x18 e19
          refine x_iinc (v := x18) (dxX12_hasBodies_1 23 rfl) (i := 2) rfl (by rw [e19]; rfl) (Nat.le_of_ble_eq_true rfl) rfl rfl ?_
          refine x_goto (tgt := 52) (dxX12_hasBodies_1 24 rfl) (by decide) ?_
          exact h
        · replace h := h.2 hc
          refine x_aload_n (i := 0) (dxX12_hasBodies_1 18 rfl) rfl rfl ?_
          refine gf_12_131 (kd_179 hLs16) (rv_179_60 hLs16) (dxX12_hasBodies_1 19 rfl) ?_
          refine x_iload_n (i := 1) (dxX12_hasBodies_1 20 rfl) rfl rfl ?_
          refine x_iload_n (i := 2) (dxX12_hasBodies_1 21 rfl) rfl rfl ?_
          obtain ⟨hi20, h⟩ := h
          refine x_iast (kd_219 hLs16) hi20 (dxX12_hasBodies_1 22 rfl) ?_
          refine x_sto (fun s21 e22 => ?_)
          replace h := h s21 e22
          have hKs21 : kd s21 = kd σ := by rw [e22]; exact hKs16
          have hLs21 : Lay s21 := by rw [e22]; exact hLs16.si
          obtain ⟨x23, e24⟩ : ∃ y : Int32, y = l2 + 1 := ⟨_, rfl⟩
          replace h := h x23 e24
          refine x_iinc (v := x23) (dxX12_hasBodies_1 23 rfl) (i := 2) rfl (by rw [e24]; rfl) (Nat.le_of_ble_eq_true rfl) rfl rfl ?_
          refine x_goto (tgt := 52) (dxX12_hasBodies_1 24 rfl) (by decide) ?_
          exact h
theorem vcX12_bodyOf {g : GV} {d : Nat} {P : Int32 → PS → Prop} {σ : PS} (hL : Lay σ) (p0 : Int32) (h : ∀ s1 : PS, s1 = si σ 179 0 0 → CX12_isGluing g d [.ref 179, .int p0] s1 (fun (v4 : Int32) (s3 : PS) => Fr s1 s3 ∧ (v4 = 0 → P (-1) s3) ∧ (¬ v4 = 0 → CX12_hasBodies g d [.ref 179] s3 (fun (v6 : Int32) (s5 : PS) => Fr s3 s5 ∧ (v6 = 0 → P (-1) s5) ∧ (¬ v6 = 0 → vp_in p0 300 ∧ P (mi s5 219 (Int32.toNatClampNeg p0)) s5))))) : CX12_bodyOf g (d + 1) [.ref 179, .int p0] σ P := by
  refine x_entry (L := [some (.ref 179), some (.int p0)]) pn_12 (Nat.le_of_ble_eq_true rfl) ⟨0, rfl⟩ ?_
  show VX12_bodyOf g (d + 1) P 0 [some (.ref 179), some (.int p0)] [] σ
  refine x_aload_n (i := 0) (dxX12_bodyOf_0 0 rfl) rfl rfl ?_
  refine x_iconst (v := 0) (dxX12_bodyOf_0 1 rfl) rfl ?_
  refine pf_12_184 (kd_179 hL) (dxX12_bodyOf_0 2 rfl) ?_
  refine x_sto (fun s1 e2 => ?_)
  replace h := h s1 e2
  have hKs1 : kd s1 = kd σ := by rw [e2]; exact (rfl : kd σ = kd σ)
  have hLs1 : Lay s1 := by rw [e2]; exact hL.si
  refine x_aload_n (i := 0) (dxX12_bodyOf_0 3 rfl) rfl rfl ?_
  refine x_iload_n (i := 1) (dxX12_bodyOf_0 4 rfl) rfl rfl ?_
  refine cl_12_401 (kd_179 hLs1) (Nat.le_of_ble_eq_true rfl) (dxX12_bodyOf_0 5 rfl) h (fun v4 s3 h => ?_) (Nat.le_refl _) (Nat.le_refl _)
  obtain ⟨hFs3, h⟩ := h
  have hKs3 : kd s3 = kd σ := hFs3.1.trans hKs1
  have hLs3 : Lay s3 := hLs1.fr hFs3
  refine x_if_eq (tgt := 29) (dxX12_bodyOf_0 6 rfl) (by decide) (fun hc => ?_) (fun hc => ?_)
  · replace h := h.1 hc
    refine x_iconst (v := (-1)) (dxX12_bodyOf_0 15 rfl) rfl ?_
    exact x_iret (ty := .int) rfl rfl (dxX12_bodyOf_0 16 rfl) ⟨_, rfl, h⟩
  · replace h := h.2 hc
    refine x_aload_n (i := 0) (dxX12_bodyOf_0 7 rfl) rfl rfl ?_
    refine cl_12_440 (kd_179 hLs3) (Nat.le_of_ble_eq_true rfl) (dxX12_bodyOf_0 8 rfl) h (fun v6 s5 h => ?_) (Nat.le_refl _) (Nat.le_refl _)
    obtain ⟨hFs5, h⟩ := h
    have hKs5 : kd s5 = kd σ := hFs5.1.trans hKs3
    have hLs5 : Lay s5 := hLs3.fr hFs5
    refine x_if_eq (tgt := 29) (dxX12_bodyOf_0 9 rfl) (by decide) (fun hc => ?_) (fun hc => ?_)
    · replace h := h.1 hc
      refine x_iconst (v := (-1)) (dxX12_bodyOf_0 15 rfl) rfl ?_
      exact x_iret (ty := .int) rfl rfl (dxX12_bodyOf_0 16 rfl) ⟨_, rfl, h⟩
    · replace h := h.2 hc
      refine x_aload_n (i := 0) (dxX12_bodyOf_0 10 rfl) rfl rfl ?_
      refine gf_12_131 (kd_179 hLs5) (rv_179_60 hLs5) (dxX12_bodyOf_0 11 rfl) ?_
      refine x_iload_n (i := 1) (dxX12_bodyOf_0 12 rfl) rfl rfl ?_
      obtain ⟨hi7, h⟩ := h
      refine x_iald (kd_219 hLs5) hi7 (dxX12_bodyOf_0 13 rfl) ?_
      refine x_goto (tgt := 30) (dxX12_bodyOf_0 14 rfl) (by decide) ?_
      exact x_iret (ty := .int) rfl rfl (dxX12_bodyOf_0 16 rfl) ⟨_, rfl, h⟩
theorem vcX12_bodies {g : GV} {d : Nat} {P : Int32 → PS → Prop} {σ : PS} (hL : Lay σ)  (h : ∀ s1 : PS, s1 = si σ 179 0 0 → CX12_hasBodies g d [.ref 179] s1 (fun (v4 : Int32) (s3 : PS) => Fr s1 s3 ∧ (¬ v4 = 0 → VX12_bodies g (d + 1) P 18 [some (.ref 179), some (.int 0), some (.int 0)] [] s3) ∧ (v4 = 0 → P (-1) s3))) : CX12_bodies g (d + 1) [.ref 179] σ P := by
  refine x_entry (L := [some (.ref 179), none, none]) pn_12 (Nat.le_of_ble_eq_true rfl) ⟨2, rfl⟩ ?_
  show VX12_bodies g (d + 1) P 0 [some (.ref 179), none, none] [] σ
  refine x_aload_n (i := 0) (dxX12_bodies_0 0 rfl) rfl rfl ?_
  refine x_iconst (v := 0) (dxX12_bodies_0 1 rfl) rfl ?_
  refine pf_12_184 (kd_179 hL) (dxX12_bodies_0 2 rfl) ?_
  refine x_sto (fun s1 e2 => ?_)
  replace h := h s1 e2
  have hKs1 : kd s1 = kd σ := by rw [e2]; exact (rfl : kd σ = kd σ)
  have hLs1 : Lay s1 := by rw [e2]; exact hL.si
  refine x_aload_n (i := 0) (dxX12_bodies_0 3 rfl) rfl rfl ?_
  refine cl_12_440 (kd_179 hLs1) (Nat.le_of_ble_eq_true rfl) (dxX12_bodies_0 4 rfl) h (fun v4 s3 h => ?_) (Nat.le_refl _) (Nat.le_refl _)
  obtain ⟨hFs3, h⟩ := h
  have hKs3 : kd s3 = kd σ := hFs3.1.trans hKs1
  have hLs3 : Lay s3 := hLs1.fr hFs3
  refine x_if_ne (tgt := 14) (dxX12_bodies_0 5 rfl) (by decide) (fun hc => ?_) (fun hc => ?_)
  · replace h := h.1 hc
    refine x_iconst (v := 0) (dxX12_bodies_0 8 rfl) rfl ?_
    refine x_istore_n (i := 1) (dxX12_bodies_0 9 rfl) rfl (Nat.le_of_ble_eq_true rfl) rfl rfl ?_
    refine x_iconst (v := 0) (dxX12_bodies_0 10 rfl) rfl ?_
    refine x_istore_n (i := 2) (dxX12_bodies_0 11 rfl) rfl (Nat.le_of_ble_eq_true rfl) rfl rfl ?_
    exact h
  · replace h := h.2 hc
    refine x_iconst (v := (-1)) (dxX12_bodies_0 6 rfl) rfl ?_
    exact x_iret (ty := .int) rfl rfl (dxX12_bodies_0 7 rfl) ⟨_, rfl, h⟩
theorem vcX12_bodies_18 {g : GV} {d : Nat} {P : Int32 → PS → Prop} {σ : PS} (hL : Lay σ) (l1 : Int32) (l2 : Int32) (h : ((mi σ 179 48) ≤ l2 → P l1 σ) ∧ (¬ (mi σ 179 48) ≤ l2 → vp_in l2 300 ∧ (¬ (mi σ 219 (Int32.toNatClampNeg l2)) = l2 → ∀ x6 : Int32, x6 = l1 + 0 → ∀ x8 : Int32, x8 = l2 + 1 → VX12_bodies g (d + 1) P 18 [some (.ref 179), some (.int x6), some (.int x8)] [] σ) ∧ ((mi σ 219 (Int32.toNatClampNeg l2)) = l2 → ∀ x10 : Int32, x10 = l1 + 1 → ∀ x12 : Int32, x12 = l2 + 1 → VX12_bodies g (d + 1) P 18 [some (.ref 179), some (.int x10), some (.int x12)] [] σ))) : VX12_bodies g (d + 1) P 18 [some (.ref 179), some (.int l1), some (.int l2)] [] σ := by
  refine x_iload_n (i := 2) (dxX12_bodies_0 12 rfl) rfl rfl ?_
  refine x_aload_n (i := 0) (dxX12_bodies_0 13 rfl) rfl rfl ?_
  refine gf_12_386 (kd_179 hL) rfl (dxX12_bodies_0 14 rfl) ?_
  refine x_icmp_ge (tgt := 50) (dxX12_bodies_0 15 rfl) (by decide) (fun hc => ?_) (fun hc => ?_)
  · replace h := h.1 hc
    refine x_iload_n (i := 1) (dxX12_bodies_0 30 rfl) rfl rfl ?_
    exact x_iret (ty := .int) rfl rfl (dxX12_bodies_0 31 rfl) ⟨_, rfl, h⟩
  · replace h := h.2 hc
    refine x_iload_n (i := 1) (dxX12_bodies_0 16 rfl) rfl rfl ?_
    refine x_aload_n (i := 0) (dxX12_bodies_0 17 rfl) rfl rfl ?_
    refine gf_12_131 (kd_179 hL) (rv_179_60 hL) (dxX12_bodies_0 18 rfl) ?_
    refine x_iload_n (i := 2) (dxX12_bodies_0 19 rfl) rfl rfl ?_
    obtain ⟨hi5, h⟩ := h
    refine x_iald (kd_219 hL) hi5 (dxX12_bodies_0 20 rfl) ?_
    refine x_iload_n (i := 2) (dxX12_bodies_0 21 rfl) rfl rfl ?_
    refine x_icmp_ne (tgt := 41) (dxX12_bodies_0 22 rfl) (by decide) (fun hc => ?_) (fun hc => ?_)
    · replace h := h.1 hc
      refine x_iconst (v := 0) (dxX12_bodies_0 25 rfl) rfl ?_
      refine x_iadd (dxX12_bodies_0 26 rfl) ?_
      refine x_topi (fun x6 e7 => ?_)
      replace h := h x6 e7
      refine x_istore_n (i := 1) (dxX12_bodies_0 27 rfl) rfl (Nat.le_of_ble_eq_true rfl) rfl rfl ?_
      obtain ⟨x8, e9⟩ : ∃ y : Int32, y = l2 + 1 := ⟨_, rfl⟩
      replace h := h x8 e9
      refine x_iinc (v := x8) (dxX12_bodies_0 28 rfl) (i := 2) rfl (by rw [e9]; rfl) (Nat.le_of_ble_eq_true rfl) rfl rfl ?_
      refine x_goto (tgt := 18) (dxX12_bodies_0 29 rfl) (by decide) ?_
      exact h
    · replace h := h.2 hc
      refine x_iconst (v := 1) (dxX12_bodies_0 23 rfl) rfl ?_
      refine x_goto (tgt := 42) (dxX12_bodies_0 24 rfl) (by decide) ?_
      refine x_iadd (dxX12_bodies_0 26 rfl) ?_
      refine x_topi (fun x10 e11 => ?_)
      replace h := h x10 e11
      refine x_istore_n (i := 1) (dxX12_bodies_0 27 rfl) rfl (Nat.le_of_ble_eq_true rfl) rfl rfl ?_
      obtain ⟨x12, e13⟩ : ∃ y : Int32, y = l2 + 1 := ⟨_, rfl⟩
      replace h := h x12 e13
      refine x_iinc (v := x12) (dxX12_bodies_0 28 rfl) (i := 2) rfl (by rw [e13]; rfl) (Nat.le_of_ble_eq_true rfl) rfl rfl ?_
      refine x_goto (tgt := 18) (dxX12_bodies_0 29 rfl) (by decide) ?_
      exact h
theorem vcX12_goesTo {g : GV} {d : Nat} {P : PS → Prop} {σ : PS} (hL : Lay σ) (p0 : Int32) (h : vp_in ((4 * (mi σ 179 61)) + (jrem (p0 + (mi σ 179 62)) 4)) 80 ∧ ∀ x2 : Int32, x2 = mi σ 215 (Int32.toNatClampNeg ((4 * (mi σ 179 61)) + (jrem (p0 + (mi σ 179 62)) 4))) → ∀ s4 : PS, s4 = si σ 179 61 (x2 / 4) → ∀ s6 : PS, s6 = si s4 179 62 (jrem ((((jrem x2 4) + 8) - p0) - 2) 4) → P s6) : CX12_goesTo g d [.ref 179, .int p0] σ P := by
  refine x_entry (L := [some (.ref 179), some (.int p0), none]) pn_12 (Nat.le_of_ble_eq_true rfl) ⟨1, rfl⟩ ?_
  show VX12_goesTo g d P 0 [some (.ref 179), some (.int p0), none] [] σ
  refine x_aload_n (i := 0) (dxX12_goesTo_0 0 rfl) rfl rfl ?_
  refine gf_12_119 (kd_179 hL) (rv_179_55 hL) (dxX12_goesTo_0 1 rfl) ?_
  refine x_iconst (v := 4) (dxX12_goesTo_0 2 rfl) rfl ?_
  refine x_aload_n (i := 0) (dxX12_goesTo_0 3 rfl) rfl rfl ?_
  refine gf_12_443 (kd_179 hL) rfl (dxX12_goesTo_0 4 rfl) ?_
  refine x_imul (dxX12_goesTo_0 5 rfl) ?_
  refine x_iload_n (i := 1) (dxX12_goesTo_0 6 rfl) rfl rfl ?_
  refine x_aload_n (i := 0) (dxX12_goesTo_0 7 rfl) rfl rfl ?_
  refine gf_12_446 (kd_179 hL) rfl (dxX12_goesTo_0 8 rfl) ?_
  refine x_iadd (dxX12_goesTo_0 9 rfl) ?_
  refine x_iconst (v := 4) (dxX12_goesTo_0 10 rfl) rfl ?_
  refine x_irem (dxX12_goesTo_0 11 rfl) (by decide) ?_
  refine x_iadd (dxX12_goesTo_0 12 rfl) ?_
  obtain ⟨hi1, h⟩ := h
  refine x_iald (kd_215 hL) hi1 (dxX12_goesTo_0 13 rfl) ?_
  refine x_topi (fun x2 e3 => ?_)
  replace h := h x2 e3
  refine x_istore_n (i := 2) (dxX12_goesTo_0 14 rfl) rfl (Nat.le_of_ble_eq_true rfl) rfl rfl ?_
  refine x_aload_n (i := 0) (dxX12_goesTo_0 15 rfl) rfl rfl ?_
  refine x_iload_n (i := 2) (dxX12_goesTo_0 16 rfl) rfl rfl ?_
  refine x_iconst (v := 4) (dxX12_goesTo_0 17 rfl) rfl ?_
  refine x_idiv (dxX12_goesTo_0 18 rfl) (by decide) ?_
  refine pf_12_443 (kd_179 hL) (dxX12_goesTo_0 19 rfl) ?_
  refine x_sto (fun s4 e5 => ?_)
  replace h := h s4 e5
  have hKs4 : kd s4 = kd σ := by rw [e5]; exact (rfl : kd σ = kd σ)
  have hLs4 : Lay s4 := by rw [e5]; exact hL.si
  refine x_aload_n (i := 0) (dxX12_goesTo_0 20 rfl) rfl rfl ?_
  refine x_iload_n (i := 2) (dxX12_goesTo_0 21 rfl) rfl rfl ?_
  refine x_iconst (v := 4) (dxX12_goesTo_0 22 rfl) rfl ?_
  refine x_irem (dxX12_goesTo_0 23 rfl) (by decide) ?_
  refine x_bipush (v := 8) (dxX12_goesTo_0 24 rfl) rfl ?_
  refine x_iadd (dxX12_goesTo_0 25 rfl) ?_
  refine x_iload_n (i := 1) (dxX12_goesTo_0 26 rfl) rfl rfl ?_
  refine x_isub (dxX12_goesTo_0 27 rfl) ?_
  refine x_iconst (v := 2) (dxX12_goesTo_0 28 rfl) rfl ?_
  refine x_isub (dxX12_goesTo_0 29 rfl) ?_
  refine x_iconst (v := 4) (dxX12_goesTo_0 30 rfl) rfl ?_
  refine x_irem (dxX12_goesTo_0 31 rfl) (by decide) ?_
  refine pf_12_446 (kd_179 hLs4) (dxX12_goesTo_1 0 rfl) ?_
  refine x_sto (fun s6 e7 => ?_)
  replace h := h s6 e7
  have hKs6 : kd s6 = kd σ := by rw [e7]; exact hKs4
  have hLs6 : Lay s6 := by rw [e7]; exact hLs4.si
  exact x_vret rfl (dxX12_goesTo_1 1 rfl) ⟨rfl, h⟩
theorem vcX12_leads {g : GV} {d : Nat} {P : Int32 → PS → Prop} {σ : PS} (hL : Lay σ) (p0 : Int32) (p1 : Int32) (p2 : Int32) (h : (0 ≤ p1 → (0 ≤ p2 → VX12_leads g (d + 1) P 22 [some (.ref 179), some (.int p0), some (.int p1), some (.int p2), some (.int p1), none, none, none, none, none, none, none, none] [.int p2] σ) ∧ (¬ 0 ≤ p2 → VX12_leads g (d + 1) P 22 [some (.ref 179), some (.int p0), some (.int p1), some (.int p2), some (.int p1), none, none, none, none, none, none, none, none] [.int (-p2)] σ)) ∧ (¬ 0 ≤ p1 → ∀ x1 : Int32, x1 = -p1 → (0 ≤ p2 → VX12_leads g (d + 1) P 22 [some (.ref 179), some (.int p0), some (.int p1), some (.int p2), some (.int x1), none, none, none, none, none, none, none, none] [.int p2] σ) ∧ (¬ 0 ≤ p2 → VX12_leads g (d + 1) P 22 [some (.ref 179), some (.int p0), some (.int p1), some (.int p2), some (.int x1), none, none, none, none, none, none, none, none] [.int (-p2)] σ))) : CX12_leads g (d + 1) [.ref 179, .int p0, .int p1, .int p2] σ P := by
  refine x_entry (L := [some (.ref 179), some (.int p0), some (.int p1), some (.int p2), none, none, none, none, none, none, none, none, none]) pn_12 (Nat.le_of_ble_eq_true rfl) ⟨9, rfl⟩ ?_
  show VX12_leads g (d + 1) P 0 [some (.ref 179), some (.int p0), some (.int p1), some (.int p2), none, none, none, none, none, none, none, none, none] [] σ
  refine x_iload_n (i := 2) (dxX12_leads_0 0 rfl) rfl rfl ?_
  refine x_if_ge (tgt := 9) (dxX12_leads_0 1 rfl) (by decide) (fun hc => ?_) (fun hc => ?_)
  · replace h := h.1 hc
    refine x_iload_n (i := 2) (dxX12_leads_0 5 rfl) rfl rfl ?_
    refine x_istore (dxX12_leads_0 6 rfl) (Nat.le_of_ble_eq_true rfl) rfl rfl ?_
    refine x_iload_n (i := 3) (dxX12_leads_0 7 rfl) rfl rfl ?_
    refine x_if_ge (tgt := 21) (dxX12_leads_0 8 rfl) (by decide) (fun hc => ?_) (fun hc => ?_)
    · replace h := h.1 hc
      refine x_iload_n (i := 3) (dxX12_leads_0 12 rfl) rfl rfl ?_
      exact h
    · replace h := h.2 hc
      refine x_iload_n (i := 3) (dxX12_leads_0 9 rfl) rfl rfl ?_
      refine x_ineg (dxX12_leads_0 10 rfl) ?_
      refine x_goto (tgt := 22) (dxX12_leads_0 11 rfl) (by decide) ?_
      exact h
  · replace h := h.2 hc
    refine x_iload_n (i := 2) (dxX12_leads_0 2 rfl) rfl rfl ?_
    refine x_ineg (dxX12_leads_0 3 rfl) ?_
    refine x_goto (tgt := 10) (dxX12_leads_0 4 rfl) (by decide) ?_
    refine x_topi (fun x1 e2 => ?_)
    replace h := h x1 e2
    refine x_istore (dxX12_leads_0 6 rfl) (Nat.le_of_ble_eq_true rfl) rfl rfl ?_
    refine x_iload_n (i := 3) (dxX12_leads_0 7 rfl) rfl rfl ?_
    refine x_if_ge (tgt := 21) (dxX12_leads_0 8 rfl) (by decide) (fun hc => ?_) (fun hc => ?_)
    · replace h := h.1 hc
      refine x_iload_n (i := 3) (dxX12_leads_0 12 rfl) rfl rfl ?_
      exact h
    · replace h := h.2 hc
      refine x_iload_n (i := 3) (dxX12_leads_0 9 rfl) rfl rfl ?_
      refine x_ineg (dxX12_leads_0 10 rfl) ?_
      refine x_goto (tgt := 22) (dxX12_leads_0 11 rfl) (by decide) ?_
      exact h
theorem vcX12_leads_22 {g : GV} {d : Nat} {P : Int32 → PS → Prop} {σ : PS} (hL : Lay σ) (l1 : Int32) (l2 : Int32) (l3 : Int32) (l4 : Int32) (t0 : Int32) (h : (0 ≤ l2 → (0 ≤ l3 → ∀ s3 : PS, s3 = si σ 179 61 l1 → ∀ s5 : PS, s5 = si s3 179 62 0 → VX12_leads g (d + 1) P 62 [some (.ref 179), none, none, none, some (.int l4), some (.int t0), some (.int 1), some (.int 2), some (.int 1), some (.int 1), none, none, none] [] s5) ∧ (¬ 0 ≤ l3 → ∀ s7 : PS, s7 = si σ 179 61 l1 → ∀ s9 : PS, s9 = si s7 179 62 0 → VX12_leads g (d + 1) P 62 [some (.ref 179), none, none, none, some (.int l4), some (.int t0), some (.int 1), some (.int 0), some (.int 1), some (.int 1), none, none, none] [] s9)) ∧ (¬ 0 ≤ l2 → (0 ≤ l3 → ∀ s11 : PS, s11 = si σ 179 61 l1 → ∀ s13 : PS, s13 = si s11 179 62 0 → VX12_leads g (d + 1) P 62 [some (.ref 179), none, none, none, some (.int l4), some (.int t0), some (.int 3), some (.int 2), some (.int 1), some (.int 1), none, none, none] [] s13) ∧ (¬ 0 ≤ l3 → ∀ s15 : PS, s15 = si σ 179 61 l1 → ∀ s17 : PS, s17 = si s15 179 62 0 → VX12_leads g (d + 1) P 62 [some (.ref 179), none, none, none, some (.int l4), some (.int t0), some (.int 3), some (.int 0), some (.int 1), some (.int 1), none, none, none] [] s17))) : VX12_leads g (d + 1) P 22 [some (.ref 179), some (.int l1), some (.int l2), some (.int l3), some (.int l4), none, none, none, none, none, none, none, none] [.int t0] σ := by
  refine x_istore (dxX12_leads_0 13 rfl) (Nat.le_of_ble_eq_true rfl) rfl rfl ?_
  refine x_iload_n (i := 2) (dxX12_leads_0 14 rfl) rfl rfl ?_
  refine x_if_ge (tgt := 32) (dxX12_leads_0 15 rfl) (by decide) (fun hc => ?_) (fun hc => ?_)
  · replace h := h.1 hc
    refine x_iconst (v := 1) (dxX12_leads_0 18 rfl) rfl ?_
    refine x_istore (dxX12_leads_0 19 rfl) (Nat.le_of_ble_eq_true rfl) rfl rfl ?_
    refine x_iload_n (i := 3) (dxX12_leads_0 20 rfl) rfl rfl ?_
    refine x_if_ge (tgt := 43) (dxX12_leads_0 21 rfl) (by decide) (fun hc => ?_) (fun hc => ?_)
    · replace h := h.1 hc
      refine x_iconst (v := 2) (dxX12_leads_0 24 rfl) rfl ?_
      refine x_istore (dxX12_leads_0 25 rfl) (Nat.le_of_ble_eq_true rfl) rfl rfl ?_
      refine x_aload_n (i := 0) (dxX12_leads_0 26 rfl) rfl rfl ?_
      refine x_iload_n (i := 1) (dxX12_leads_0 27 rfl) rfl rfl ?_
      refine pf_12_443 (kd_179 hL) (dxX12_leads_0 28 rfl) ?_
      refine x_sto (fun s3 e4 => ?_)
      replace h := h s3 e4
      have hKs3 : kd s3 = kd σ := by rw [e4]; exact (rfl : kd σ = kd σ)
      have hLs3 : Lay s3 := by rw [e4]; exact hL.si
      refine x_aload_n (i := 0) (dxX12_leads_0 29 rfl) rfl rfl ?_
      refine x_iconst (v := 0) (dxX12_leads_0 30 rfl) rfl ?_
      refine pf_12_446 (kd_179 hLs3) (dxX12_leads_0 31 rfl) ?_
      refine x_sto (fun s5 e6 => ?_)
      replace h := h s5 e6
      have hKs5 : kd s5 = kd σ := by rw [e6]; exact hKs3
      have hLs5 : Lay s5 := by rw [e6]; exact hLs3.si
      refine x_iconst (v := 1) (dxX12_leads_1 0 rfl) rfl ?_
      refine x_istore (dxX12_leads_1 1 rfl) (Nat.le_of_ble_eq_true rfl) rfl rfl ?_
      refine x_iconst (v := 1) (dxX12_leads_1 2 rfl) rfl ?_
      refine x_istore (dxX12_leads_1 3 rfl) (Nat.le_of_ble_eq_true rfl) rfl rfl ?_
      refine x_mask [true, false, false, false, true, true, true, true, true, true, false, false, false] (L1 := [some (.ref 179), none, none, none, some (.int l4), some (.int t0), some (.int 1), some (.int 2), some (.int 1), some (.int 1), none, none, none]) rfl ?_
      exact h
    · replace h := h.2 hc
      refine x_iconst (v := 0) (dxX12_leads_0 22 rfl) rfl ?_
      refine x_goto (tgt := 44) (dxX12_leads_0 23 rfl) (by decide) ?_
      refine x_istore (dxX12_leads_0 25 rfl) (Nat.le_of_ble_eq_true rfl) rfl rfl ?_
      refine x_aload_n (i := 0) (dxX12_leads_0 26 rfl) rfl rfl ?_
      refine x_iload_n (i := 1) (dxX12_leads_0 27 rfl) rfl rfl ?_
      refine pf_12_443 (kd_179 hL) (dxX12_leads_0 28 rfl) ?_
      refine x_sto (fun s7 e8 => ?_)
      replace h := h s7 e8
      have hKs7 : kd s7 = kd σ := by rw [e8]; exact (rfl : kd σ = kd σ)
      have hLs7 : Lay s7 := by rw [e8]; exact hL.si
      refine x_aload_n (i := 0) (dxX12_leads_0 29 rfl) rfl rfl ?_
      refine x_iconst (v := 0) (dxX12_leads_0 30 rfl) rfl ?_
      refine pf_12_446 (kd_179 hLs7) (dxX12_leads_0 31 rfl) ?_
      refine x_sto (fun s9 e10 => ?_)
      replace h := h s9 e10
      have hKs9 : kd s9 = kd σ := by rw [e10]; exact hKs7
      have hLs9 : Lay s9 := by rw [e10]; exact hLs7.si
      refine x_iconst (v := 1) (dxX12_leads_1 0 rfl) rfl ?_
      refine x_istore (dxX12_leads_1 1 rfl) (Nat.le_of_ble_eq_true rfl) rfl rfl ?_
      refine x_iconst (v := 1) (dxX12_leads_1 2 rfl) rfl ?_
      refine x_istore (dxX12_leads_1 3 rfl) (Nat.le_of_ble_eq_true rfl) rfl rfl ?_
      refine x_mask [true, false, false, false, true, true, true, true, true, true, false, false, false] (L1 := [some (.ref 179), none, none, none, some (.int l4), some (.int t0), some (.int 1), some (.int 0), some (.int 1), some (.int 1), none, none, none]) rfl ?_
      exact h
  · replace h := h.2 hc
    refine x_iconst (v := 3) (dxX12_leads_0 16 rfl) rfl ?_
    refine x_goto (tgt := 33) (dxX12_leads_0 17 rfl) (by decide) ?_
    refine x_istore (dxX12_leads_0 19 rfl) (Nat.le_of_ble_eq_true rfl) rfl rfl ?_
    refine x_iload_n (i := 3) (dxX12_leads_0 20 rfl) rfl rfl ?_
    refine x_if_ge (tgt := 43) (dxX12_leads_0 21 rfl) (by decide) (fun hc => ?_) (fun hc => ?_)
    · replace h := h.1 hc
      refine x_iconst (v := 2) (dxX12_leads_0 24 rfl) rfl ?_
      refine x_istore (dxX12_leads_0 25 rfl) (Nat.le_of_ble_eq_true rfl) rfl rfl ?_
      refine x_aload_n (i := 0) (dxX12_leads_0 26 rfl) rfl rfl ?_
      refine x_iload_n (i := 1) (dxX12_leads_0 27 rfl) rfl rfl ?_
      refine pf_12_443 (kd_179 hL) (dxX12_leads_0 28 rfl) ?_
      refine x_sto (fun s11 e12 => ?_)
      replace h := h s11 e12
      have hKs11 : kd s11 = kd σ := by rw [e12]; exact (rfl : kd σ = kd σ)
      have hLs11 : Lay s11 := by rw [e12]; exact hL.si
      refine x_aload_n (i := 0) (dxX12_leads_0 29 rfl) rfl rfl ?_
      refine x_iconst (v := 0) (dxX12_leads_0 30 rfl) rfl ?_
      refine pf_12_446 (kd_179 hLs11) (dxX12_leads_0 31 rfl) ?_
      refine x_sto (fun s13 e14 => ?_)
      replace h := h s13 e14
      have hKs13 : kd s13 = kd σ := by rw [e14]; exact hKs11
      have hLs13 : Lay s13 := by rw [e14]; exact hLs11.si
      refine x_iconst (v := 1) (dxX12_leads_1 0 rfl) rfl ?_
      refine x_istore (dxX12_leads_1 1 rfl) (Nat.le_of_ble_eq_true rfl) rfl rfl ?_
      refine x_iconst (v := 1) (dxX12_leads_1 2 rfl) rfl ?_
      refine x_istore (dxX12_leads_1 3 rfl) (Nat.le_of_ble_eq_true rfl) rfl rfl ?_
      refine x_mask [true, false, false, false, true, true, true, true, true, true, false, false, false] (L1 := [some (.ref 179), none, none, none, some (.int l4), some (.int t0), some (.int 3), some (.int 2), some (.int 1), some (.int 1), none, none, none]) rfl ?_
      exact h
    · replace h := h.2 hc
      refine x_iconst (v := 0) (dxX12_leads_0 22 rfl) rfl ?_
      refine x_goto (tgt := 44) (dxX12_leads_0 23 rfl) (by decide) ?_
      refine x_istore (dxX12_leads_0 25 rfl) (Nat.le_of_ble_eq_true rfl) rfl rfl ?_
      refine x_aload_n (i := 0) (dxX12_leads_0 26 rfl) rfl rfl ?_
      refine x_iload_n (i := 1) (dxX12_leads_0 27 rfl) rfl rfl ?_
      refine pf_12_443 (kd_179 hL) (dxX12_leads_0 28 rfl) ?_
      refine x_sto (fun s15 e16 => ?_)
      replace h := h s15 e16
      have hKs15 : kd s15 = kd σ := by rw [e16]; exact (rfl : kd σ = kd σ)
      have hLs15 : Lay s15 := by rw [e16]; exact hL.si
      refine x_aload_n (i := 0) (dxX12_leads_0 29 rfl) rfl rfl ?_
      refine x_iconst (v := 0) (dxX12_leads_0 30 rfl) rfl ?_
      refine pf_12_446 (kd_179 hLs15) (dxX12_leads_0 31 rfl) ?_
      refine x_sto (fun s17 e18 => ?_)
      replace h := h s17 e18
      have hKs17 : kd s17 = kd σ := by rw [e18]; exact hKs15
      have hLs17 : Lay s17 := by rw [e18]; exact hLs15.si
      refine x_iconst (v := 1) (dxX12_leads_1 0 rfl) rfl ?_
      refine x_istore (dxX12_leads_1 1 rfl) (Nat.le_of_ble_eq_true rfl) rfl rfl ?_
      refine x_iconst (v := 1) (dxX12_leads_1 2 rfl) rfl ?_
      refine x_istore (dxX12_leads_1 3 rfl) (Nat.le_of_ble_eq_true rfl) rfl rfl ?_
      refine x_mask [true, false, false, false, true, true, true, true, true, true, false, false, false] (L1 := [some (.ref 179), none, none, none, some (.int l4), some (.int t0), some (.int 3), some (.int 0), some (.int 1), some (.int 1), none, none, none]) rfl ?_
      exact h
theorem vcX12_leads_62 {g : GV} {d : Nat} {P : Int32 → PS → Prop} {σ : PS} (hL : Lay σ) (l4 : Int32) (l5 : Int32) (l6 : Int32) (l7 : Int32) (l8 : Int32) (l9 : Int32) (h : (l8 ≤ l4 → (l8 ≤ l4 → (l9 ≤ l5 → VX12_leads g (d + 1) P 117 [some (.ref 179), none, none, none, some (.int l4), some (.int l5), some (.int l6), some (.int l7), some (.int l8), some (.int l9), none, none, none] [.int ((((2 * l8) - 1) * l5) - (((2 * l9) - 1) * l4))] σ) ∧ (¬ l9 ≤ l5 → VX12_leads g (d + 1) P 117 [some (.ref 179), none, none, none, some (.int l4), some (.int l5), some (.int l6), some (.int l7), some (.int l8), some (.int l9), none, none, none] [.int (-1)] σ)) ∧ (¬ l8 ≤ l4 → VX12_leads g (d + 1) P 117 [some (.ref 179), none, none, none, some (.int l4), some (.int l5), some (.int l6), some (.int l7), some (.int l8), some (.int l9), none, none, none] [.int 1] σ)) ∧ (¬ l8 ≤ l4 → (l5 < l9 → P 1 σ) ∧ (¬ l5 < l9 → (l8 ≤ l4 → (l9 ≤ l5 → VX12_leads g (d + 1) P 117 [some (.ref 179), none, none, none, some (.int l4), some (.int l5), some (.int l6), some (.int l7), some (.int l8), some (.int l9), none, none, none] [.int ((((2 * l8) - 1) * l5) - (((2 * l9) - 1) * l4))] σ) ∧ (¬ l9 ≤ l5 → VX12_leads g (d + 1) P 117 [some (.ref 179), none, none, none, some (.int l4), some (.int l5), some (.int l6), some (.int l7), some (.int l8), some (.int l9), none, none, none] [.int (-1)] σ)) ∧ (¬ l8 ≤ l4 → VX12_leads g (d + 1) P 117 [some (.ref 179), none, none, none, some (.int l4), some (.int l5), some (.int l6), some (.int l7), some (.int l8), some (.int l9), none, none, none] [.int 1] σ)))) : VX12_leads g (d + 1) P 62 [some (.ref 179), none, none, none, some (.int l4), some (.int l5), some (.int l6), some (.int l7), some (.int l8), some (.int l9), none, none, none] [] σ := by
  refine x_iload (dxX12_leads_1 4 rfl) rfl ?_
  refine x_iload (dxX12_leads_1 5 rfl) rfl ?_
  refine x_icmp_le (tgt := 76) (dxX12_leads_1 6 rfl) (by decide) (fun hc => ?_) (fun hc => ?_)
  · replace h := h.1 hc
    refine x_iload (dxX12_leads_1 10 rfl) rfl ?_
    refine x_iload (dxX12_leads_1 11 rfl) rfl ?_
    refine x_icmp_le (tgt := 87) (dxX12_leads_1 12 rfl) (by decide) (fun hc => ?_) (fun hc => ?_)
    · replace h := h.1 hc
      refine x_iload (dxX12_leads_1 15 rfl) rfl ?_
      refine x_iload (dxX12_leads_1 16 rfl) rfl ?_
      refine x_icmp_le (tgt := 98) (dxX12_leads_1 17 rfl) (by decide) (fun hc => ?_) (fun hc => ?_)
      · replace h := h.1 hc
        refine x_iconst (v := 2) (dxX12_leads_1 20 rfl) rfl ?_
        refine x_iload (dxX12_leads_1 21 rfl) rfl ?_
        refine x_imul (dxX12_leads_1 22 rfl) ?_
        refine x_iconst (v := 1) (dxX12_leads_1 23 rfl) rfl ?_
        refine x_isub (dxX12_leads_1 24 rfl) ?_
        refine x_iload (dxX12_leads_1 25 rfl) rfl ?_
        refine x_imul (dxX12_leads_1 26 rfl) ?_
        refine x_iconst (v := 2) (dxX12_leads_1 27 rfl) rfl ?_
        refine x_iload (dxX12_leads_1 28 rfl) rfl ?_
        refine x_imul (dxX12_leads_1 29 rfl) ?_
        refine x_iconst (v := 1) (dxX12_leads_1 30 rfl) rfl ?_
        refine x_isub (dxX12_leads_1 31 rfl) ?_
        refine x_iload (dxX12_leads_2 0 rfl) rfl ?_
        refine x_imul (dxX12_leads_2 1 rfl) ?_
        refine x_isub (dxX12_leads_2 2 rfl) ?_
        exact h
      · replace h := h.2 hc
        refine x_iconst (v := (-1)) (dxX12_leads_1 18 rfl) rfl ?_
        refine x_goto (tgt := 117) (dxX12_leads_1 19 rfl) (by decide) ?_
        exact h
    · replace h := h.2 hc
      refine x_iconst (v := 1) (dxX12_leads_1 13 rfl) rfl ?_
      refine x_goto (tgt := 117) (dxX12_leads_1 14 rfl) (by decide) ?_
      exact h
  · replace h := h.2 hc
    refine x_iload (dxX12_leads_1 7 rfl) rfl ?_
    refine x_iload (dxX12_leads_1 8 rfl) rfl ?_
    refine x_icmp_gt (tgt := 213) (dxX12_leads_1 9 rfl) (by decide) (fun hc => ?_) (fun hc => ?_)
    · replace h := h.1 hc
      refine x_iconst (v := 1) (dxX12_leads_3 23 rfl) rfl ?_
      exact x_iret (ty := .boolean) rfl rfl (dxX12_leads_3 24 rfl) ⟨_, rfl, h⟩
    · replace h := h.2 hc
      refine x_iload (dxX12_leads_1 10 rfl) rfl ?_
      refine x_iload (dxX12_leads_1 11 rfl) rfl ?_
      refine x_icmp_le (tgt := 87) (dxX12_leads_1 12 rfl) (by decide) (fun hc => ?_) (fun hc => ?_)
      · replace h := h.1 hc
        refine x_iload (dxX12_leads_1 15 rfl) rfl ?_
        refine x_iload (dxX12_leads_1 16 rfl) rfl ?_
        refine x_icmp_le (tgt := 98) (dxX12_leads_1 17 rfl) (by decide) (fun hc => ?_) (fun hc => ?_)
        · replace h := h.1 hc
          refine x_iconst (v := 2) (dxX12_leads_1 20 rfl) rfl ?_
          refine x_iload (dxX12_leads_1 21 rfl) rfl ?_
          refine x_imul (dxX12_leads_1 22 rfl) ?_
          refine x_iconst (v := 1) (dxX12_leads_1 23 rfl) rfl ?_
          refine x_isub (dxX12_leads_1 24 rfl) ?_
          refine x_iload (dxX12_leads_1 25 rfl) rfl ?_
          refine x_imul (dxX12_leads_1 26 rfl) ?_
          refine x_iconst (v := 2) (dxX12_leads_1 27 rfl) rfl ?_
          refine x_iload (dxX12_leads_1 28 rfl) rfl ?_
          refine x_imul (dxX12_leads_1 29 rfl) ?_
          refine x_iconst (v := 1) (dxX12_leads_1 30 rfl) rfl ?_
          refine x_isub (dxX12_leads_1 31 rfl) ?_
          refine x_iload (dxX12_leads_2 0 rfl) rfl ?_
          refine x_imul (dxX12_leads_2 1 rfl) ?_
          refine x_isub (dxX12_leads_2 2 rfl) ?_
          exact h
        · replace h := h.2 hc
          refine x_iconst (v := (-1)) (dxX12_leads_1 18 rfl) rfl ?_
          refine x_goto (tgt := 117) (dxX12_leads_1 19 rfl) (by decide) ?_
          exact h
      · replace h := h.2 hc
        refine x_iconst (v := 1) (dxX12_leads_1 13 rfl) rfl ?_
        refine x_goto (tgt := 117) (dxX12_leads_1 14 rfl) (by decide) ?_
        exact h
theorem vcX12_leads_117 {g : GV} {d : Nat} {P : Int32 → PS → Prop} {σ : PS} (hL : Lay σ) (l4 : Int32) (l5 : Int32) (l6 : Int32) (l7 : Int32) (l8 : Int32) (l9 : Int32) (t0 : Int32) (h : (¬ t0 = 0 → (0 < t0 → (t0 < 0 → VX12_leads g (d + 1) P 62 [some (.ref 179), none, none, none, some (.int l4), some (.int l5), some (.int l6), some (.int l7), some (.int l8), some (.int l9), none, none, none] [] σ) ∧ (¬ t0 < 0 → CX12_goesTo g d [.ref 179, .int l7] σ (fun (s19 : PS) => Fr σ s19 ∧ ∀ x21 : Int32, x21 = l9 + 1 → VX12_leads g (d + 1) P 62 [some (.ref 179), none, none, none, some (.int l4), some (.int l5), some (.int l6), some (.int l7), some (.int l8), some (.int x21), none, none, none] [] s19))) ∧ (¬ 0 < t0 → CX12_goesTo g d [.ref 179, .int l6] σ (fun (s23 : PS) => Fr σ s23 ∧ ∀ x25 : Int32, x25 = l8 + 1 → (t0 < 0 → VX12_leads g (d + 1) P 62 [some (.ref 179), none, none, none, some (.int l4), some (.int l5), some (.int l6), some (.int l7), some (.int x25), some (.int l9), none, none, none] [] s23) ∧ (¬ t0 < 0 → CX12_goesTo g d [.ref 179, .int l7] s23 (fun (s27 : PS) => Fr s23 s27 ∧ ∀ x29 : Int32, x29 = l9 + 1 → VX12_leads g (d + 1) P 62 [some (.ref 179), none, none, none, some (.int l4), some (.int l5), some (.int l6), some (.int l7), some (.int x25), some (.int x29), none, none, none] [] s27))))) ∧ (t0 = 0 → ∀ x31 : Int32, x31 = jrem (l6 + (mi σ 179 62)) 4 → ∀ x33 : Int32, x33 = jrem (l7 + (mi σ 179 62)) 4 → (¬ x33 = (jrem (x31 + 1) 4) → CX12_turnAt g d [.ref 179, .int 0, .int ((4 * (mi σ 179 61)) + x33)] σ (fun (v36 : Int32) (s35 : PS) => Fr σ s35 ∧ (v36 = 4 → (0 < t0 → (t0 < 0 → VX12_leads g (d + 1) P 62 [some (.ref 179), none, none, none, some (.int l4), some (.int l5), some (.int l6), some (.int l7), some (.int l8), some (.int l9), none, none, none] [] s35) ∧ (¬ t0 < 0 → CX12_goesTo g d [.ref 179, .int l7] s35 (fun (s37 : PS) => Fr s35 s37 ∧ ∀ x39 : Int32, x39 = l9 + 1 → VX12_leads g (d + 1) P 62 [some (.ref 179), none, none, none, some (.int l4), some (.int l5), some (.int l6), some (.int l7), some (.int l8), some (.int x39), none, none, none] [] s37))) ∧ (¬ 0 < t0 → CX12_goesTo g d [.ref 179, .int l6] s35 (fun (s41 : PS) => Fr s35 s41 ∧ ∀ x43 : Int32, x43 = l8 + 1 → (t0 < 0 → VX12_leads g (d + 1) P 62 [some (.ref 179), none, none, none, some (.int l4), some (.int l5), some (.int l6), some (.int l7), some (.int x43), some (.int l9), none, none, none] [] s41) ∧ (¬ t0 < 0 → CX12_goesTo g d [.ref 179, .int l7] s41 (fun (s45 : PS) => Fr s41 s45 ∧ ∀ x47 : Int32, x47 = l9 + 1 → VX12_leads g (d + 1) P 62 [some (.ref 179), none, none, none, some (.int l4), some (.int l5), some (.int l6), some (.int l7), some (.int x43), some (.int x47), none, none, none] [] s45))))) ∧ (¬ v36 = 4 → P 0 s35))) ∧ (x33 = (jrem (x31 + 1) 4) → CX12_turnAt g d [.ref 179, .int 0, .int ((4 * (mi σ 179 61)) + x31)] σ (fun (v50 : Int32) (s49 : PS) => Fr σ s49 ∧ (v50 = 4 → (0 < t0 → (t0 < 0 → VX12_leads g (d + 1) P 62 [some (.ref 179), none, none, none, some (.int l4), some (.int l5), some (.int l6), some (.int l7), some (.int l8), some (.int l9), none, none, none] [] s49) ∧ (¬ t0 < 0 → CX12_goesTo g d [.ref 179, .int l7] s49 (fun (s51 : PS) => Fr s49 s51 ∧ ∀ x53 : Int32, x53 = l9 + 1 → VX12_leads g (d + 1) P 62 [some (.ref 179), none, none, none, some (.int l4), some (.int l5), some (.int l6), some (.int l7), some (.int l8), some (.int x53), none, none, none] [] s51))) ∧ (¬ 0 < t0 → CX12_goesTo g d [.ref 179, .int l6] s49 (fun (s55 : PS) => Fr s49 s55 ∧ ∀ x57 : Int32, x57 = l8 + 1 → (t0 < 0 → VX12_leads g (d + 1) P 62 [some (.ref 179), none, none, none, some (.int l4), some (.int l5), some (.int l6), some (.int l7), some (.int x57), some (.int l9), none, none, none] [] s55) ∧ (¬ t0 < 0 → CX12_goesTo g d [.ref 179, .int l7] s55 (fun (s59 : PS) => Fr s55 s59 ∧ ∀ x61 : Int32, x61 = l9 + 1 → VX12_leads g (d + 1) P 62 [some (.ref 179), none, none, none, some (.int l4), some (.int l5), some (.int l6), some (.int l7), some (.int x57), some (.int x61), none, none, none] [] s59))))) ∧ (¬ v50 = 4 → P 0 s49))))) : VX12_leads g (d + 1) P 117 [some (.ref 179), none, none, none, some (.int l4), some (.int l5), some (.int l6), some (.int l7), some (.int l8), some (.int l9), none, none, none] [.int t0] σ := by
  refine x_istore (dxX12_leads_2 3 rfl) (Nat.le_of_ble_eq_true rfl) rfl rfl ?_
  refine x_iload (dxX12_leads_2 4 rfl) rfl ?_
  refine x_if_ne (tgt := 182) (dxX12_leads_2 5 rfl) (by decide) (fun hc => ?_) (fun hc => ?_)
  · replace h := h.1 hc
    refine x_iload (dxX12_leads_3 10 rfl) rfl ?_
    refine x_if_gt (tgt := 196) (dxX12_leads_3 11 rfl) (by decide) (fun hc => ?_) (fun hc => ?_)
    · replace h := h.1 hc
      refine x_iload (dxX12_leads_3 16 rfl) rfl ?_
      refine x_if_lt (tgt := 210) (dxX12_leads_3 17 rfl) (by decide) (fun hc => ?_) (fun hc => ?_)
      · replace h := h.1 hc
        refine x_goto (tgt := 62) (dxX12_leads_3 22 rfl) (by decide) ?_
        refine x_mask [true, false, false, false, true, true, true, true, true, true, false, false, false] (L1 := [some (.ref 179), none, none, none, some (.int l4), some (.int l5), some (.int l6), some (.int l7), some (.int l8), some (.int l9), none, none, none]) rfl ?_
        exact h
      · replace h := h.2 hc
        refine x_aload_n (i := 0) (dxX12_leads_3 18 rfl) rfl rfl ?_
        refine x_iload (dxX12_leads_3 19 rfl) rfl ?_
        refine cl_12_449 (kd_179 hL) (Nat.le_of_ble_eq_true rfl) (dxX12_leads_3 20 rfl) h (fun s19 h => ?_) (Nat.le_refl _) (Nat.le_refl _)
        obtain ⟨hFs19, h⟩ := h
        have hKs19 : kd s19 = kd σ := hFs19.1.trans (rfl : kd σ = kd σ)
        have hLs19 : Lay s19 := hL.fr hFs19
        obtain ⟨x21, e22⟩ : ∃ y : Int32, y = l9 + 1 := ⟨_, rfl⟩
        replace h := h x21 e22
        refine x_iinc (v := x21) (dxX12_leads_3 21 rfl) (i := 9) rfl (by rw [e22]; rfl) (Nat.le_of_ble_eq_true rfl) rfl rfl ?_
        refine x_goto (tgt := 62) (dxX12_leads_3 22 rfl) (by decide) ?_
        refine x_mask [true, false, false, false, true, true, true, true, true, true, false, false, false] (L1 := [some (.ref 179), none, none, none, some (.int l4), some (.int l5), some (.int l6), some (.int l7), some (.int l8), some (.int x21), none, none, none]) rfl ?_
        exact h
    · replace h := h.2 hc
      refine x_aload_n (i := 0) (dxX12_leads_3 12 rfl) rfl rfl ?_
      refine x_iload (dxX12_leads_3 13 rfl) rfl ?_
      refine cl_12_449 (kd_179 hL) (Nat.le_of_ble_eq_true rfl) (dxX12_leads_3 14 rfl) h (fun s23 h => ?_) (Nat.le_refl _) (Nat.le_refl _)
      obtain ⟨hFs23, h⟩ := h
      have hKs23 : kd s23 = kd σ := hFs23.1.trans (rfl : kd σ = kd σ)
      have hLs23 : Lay s23 := hL.fr hFs23
      obtain ⟨x25, e26⟩ : ∃ y : Int32, y = l8 + 1 := ⟨_, rfl⟩
      replace h := h x25 e26
      refine x_iinc (v := x25) (dxX12_leads_3 15 rfl) (i := 8) rfl (by rw [e26]; rfl) (Nat.le_of_ble_eq_true rfl) rfl rfl ?_
      refine x_iload (dxX12_leads_3 16 rfl) rfl ?_
      refine x_if_lt (tgt := 210) (dxX12_leads_3 17 rfl) (by decide) (fun hc => ?_) (fun hc => ?_)
      · replace h := h.1 hc
        refine x_goto (tgt := 62) (dxX12_leads_3 22 rfl) (by decide) ?_
        refine x_mask [true, false, false, false, true, true, true, true, true, true, false, false, false] (L1 := [some (.ref 179), none, none, none, some (.int l4), some (.int l5), some (.int l6), some (.int l7), some (.int x25), some (.int l9), none, none, none]) rfl ?_
        exact h
      · replace h := h.2 hc
        refine x_aload_n (i := 0) (dxX12_leads_3 18 rfl) rfl rfl ?_
        refine x_iload (dxX12_leads_3 19 rfl) rfl ?_
        refine cl_12_449 (kd_179 hLs23) (Nat.le_of_ble_eq_true rfl) (dxX12_leads_3 20 rfl) h (fun s27 h => ?_) (Nat.le_refl _) (Nat.le_refl _)
        obtain ⟨hFs27, h⟩ := h
        have hKs27 : kd s27 = kd σ := hFs27.1.trans hKs23
        have hLs27 : Lay s27 := hLs23.fr hFs27
        obtain ⟨x29, e30⟩ : ∃ y : Int32, y = l9 + 1 := ⟨_, rfl⟩
        replace h := h x29 e30
        refine x_iinc (v := x29) (dxX12_leads_3 21 rfl) (i := 9) rfl (by rw [e30]; rfl) (Nat.le_of_ble_eq_true rfl) rfl rfl ?_
        refine x_goto (tgt := 62) (dxX12_leads_3 22 rfl) (by decide) ?_
        refine x_mask [true, false, false, false, true, true, true, true, true, true, false, false, false] (L1 := [some (.ref 179), none, none, none, some (.int l4), some (.int l5), some (.int l6), some (.int l7), some (.int x25), some (.int x29), none, none, none]) rfl ?_
        exact h
  · replace h := h.2 hc
    refine x_iload (dxX12_leads_2 6 rfl) rfl ?_
    refine x_aload_n (i := 0) (dxX12_leads_2 7 rfl) rfl rfl ?_
    refine gf_12_446 (kd_179 hL) rfl (dxX12_leads_2 8 rfl) ?_
    refine x_iadd (dxX12_leads_2 9 rfl) ?_
    refine x_iconst (v := 4) (dxX12_leads_2 10 rfl) rfl ?_
    refine x_irem (dxX12_leads_2 11 rfl) (by decide) ?_
    refine x_topi (fun x31 e32 => ?_)
    replace h := h x31 e32
    refine x_istore (dxX12_leads_2 12 rfl) (Nat.le_of_ble_eq_true rfl) rfl rfl ?_
    refine x_iload (dxX12_leads_2 13 rfl) rfl ?_
    refine x_aload_n (i := 0) (dxX12_leads_2 14 rfl) rfl rfl ?_
    refine gf_12_446 (kd_179 hL) rfl (dxX12_leads_2 15 rfl) ?_
    refine x_iadd (dxX12_leads_2 16 rfl) ?_
    refine x_iconst (v := 4) (dxX12_leads_2 17 rfl) rfl ?_
    refine x_irem (dxX12_leads_2 18 rfl) (by decide) ?_
    refine x_topi (fun x33 e34 => ?_)
    replace h := h x33 e34
    refine x_istore (dxX12_leads_2 19 rfl) (Nat.le_of_ble_eq_true rfl) rfl rfl ?_
    refine x_aload_n (i := 0) (dxX12_leads_2 20 rfl) rfl rfl ?_
    refine x_iconst (v := 0) (dxX12_leads_2 21 rfl) rfl ?_
    refine x_iconst (v := 4) (dxX12_leads_2 22 rfl) rfl ?_
    refine x_aload_n (i := 0) (dxX12_leads_2 23 rfl) rfl rfl ?_
    refine gf_12_443 (kd_179 hL) rfl (dxX12_leads_2 24 rfl) ?_
    refine x_imul (dxX12_leads_2 25 rfl) ?_
    refine x_iload (dxX12_leads_2 26 rfl) rfl ?_
    refine x_iload (dxX12_leads_2 27 rfl) rfl ?_
    refine x_iconst (v := 1) (dxX12_leads_2 28 rfl) rfl ?_
    refine x_iadd (dxX12_leads_2 29 rfl) ?_
    refine x_iconst (v := 4) (dxX12_leads_2 30 rfl) rfl ?_
    refine x_irem (dxX12_leads_2 31 rfl) (by decide) ?_
    refine x_icmp_ne (tgt := 170) (dxX12_leads_3 0 rfl) (by decide) (fun hc => ?_) (fun hc => ?_)
    · replace h := h.1 hc
      refine x_iload (dxX12_leads_3 3 rfl) rfl ?_
      refine x_iadd (dxX12_leads_3 4 rfl) ?_
      refine cl_12_426 (kd_179 hL) (Nat.le_of_ble_eq_true rfl) (dxX12_leads_3 5 rfl) h (fun v36 s35 h => ?_) (Nat.le_refl _) (Nat.le_refl _)
      obtain ⟨hFs35, h⟩ := h
      have hKs35 : kd s35 = kd σ := hFs35.1.trans (rfl : kd σ = kd σ)
      have hLs35 : Lay s35 := hL.fr hFs35
      refine x_iconst (v := 4) (dxX12_leads_3 6 rfl) rfl ?_
      refine x_icmp_eq (tgt := 182) (dxX12_leads_3 7 rfl) (by decide) (fun hc => ?_) (fun hc => ?_)
      · replace h := h.1 hc
        refine x_iload (dxX12_leads_3 10 rfl) rfl ?_
        refine x_if_gt (tgt := 196) (dxX12_leads_3 11 rfl) (by decide) (fun hc => ?_) (fun hc => ?_)
        · replace h := h.1 hc
          refine x_iload (dxX12_leads_3 16 rfl) rfl ?_
          refine x_if_lt (tgt := 210) (dxX12_leads_3 17 rfl) (by decide) (fun hc => ?_) (fun hc => ?_)
          · replace h := h.1 hc
            refine x_goto (tgt := 62) (dxX12_leads_3 22 rfl) (by decide) ?_
            refine x_mask [true, false, false, false, true, true, true, true, true, true, false, false, false] (L1 := [some (.ref 179), none, none, none, some (.int l4), some (.int l5), some (.int l6), some (.int l7), some (.int l8), some (.int l9), none, none, none]) rfl ?_
            exact h
          · replace h := h.2 hc
            refine x_aload_n (i := 0) (dxX12_leads_3 18 rfl) rfl rfl ?_
            refine x_iload (dxX12_leads_3 19 rfl) rfl ?_
            refine cl_12_449 (kd_179 hLs35) (Nat.le_of_ble_eq_true rfl) (dxX12_leads_3 20 rfl) h (fun s37 h => ?_) (Nat.le_refl _) (Nat.le_refl _)
            obtain ⟨hFs37, h⟩ := h
            have hKs37 : kd s37 = kd σ := hFs37.1.trans hKs35
            have hLs37 : Lay s37 := hLs35.fr hFs37
            obtain ⟨x39, e40⟩ : ∃ y : Int32, y = l9 + 1 := ⟨_, rfl⟩
            replace h := h x39 e40
            refine x_iinc (v := x39) (dxX12_leads_3 21 rfl) (i := 9) rfl (by rw [e40]; rfl) (Nat.le_of_ble_eq_true rfl) rfl rfl ?_
            refine x_goto (tgt := 62) (dxX12_leads_3 22 rfl) (by decide) ?_
            refine x_mask [true, false, false, false, true, true, true, true, true, true, false, false, false] (L1 := [some (.ref 179), none, none, none, some (.int l4), some (.int l5), some (.int l6), some (.int l7), some (.int l8), some (.int x39), none, none, none]) rfl ?_
            exact h
        · replace h := h.2 hc
          refine x_aload_n (i := 0) (dxX12_leads_3 12 rfl) rfl rfl ?_
          refine x_iload (dxX12_leads_3 13 rfl) rfl ?_
          refine cl_12_449 (kd_179 hLs35) (Nat.le_of_ble_eq_true rfl) (dxX12_leads_3 14 rfl) h (fun s41 h => ?_) (Nat.le_refl _) (Nat.le_refl _)
          obtain ⟨hFs41, h⟩ := h
          have hKs41 : kd s41 = kd σ := hFs41.1.trans hKs35
          have hLs41 : Lay s41 := hLs35.fr hFs41
          obtain ⟨x43, e44⟩ : ∃ y : Int32, y = l8 + 1 := ⟨_, rfl⟩
          replace h := h x43 e44
          refine x_iinc (v := x43) (dxX12_leads_3 15 rfl) (i := 8) rfl (by rw [e44]; rfl) (Nat.le_of_ble_eq_true rfl) rfl rfl ?_
          refine x_iload (dxX12_leads_3 16 rfl) rfl ?_
          refine x_if_lt (tgt := 210) (dxX12_leads_3 17 rfl) (by decide) (fun hc => ?_) (fun hc => ?_)
          · replace h := h.1 hc
            refine x_goto (tgt := 62) (dxX12_leads_3 22 rfl) (by decide) ?_
            refine x_mask [true, false, false, false, true, true, true, true, true, true, false, false, false] (L1 := [some (.ref 179), none, none, none, some (.int l4), some (.int l5), some (.int l6), some (.int l7), some (.int x43), some (.int l9), none, none, none]) rfl ?_
            exact h
          · replace h := h.2 hc
            refine x_aload_n (i := 0) (dxX12_leads_3 18 rfl) rfl rfl ?_
            refine x_iload (dxX12_leads_3 19 rfl) rfl ?_
            refine cl_12_449 (kd_179 hLs41) (Nat.le_of_ble_eq_true rfl) (dxX12_leads_3 20 rfl) h (fun s45 h => ?_) (Nat.le_refl _) (Nat.le_refl _)
            obtain ⟨hFs45, h⟩ := h
            have hKs45 : kd s45 = kd σ := hFs45.1.trans hKs41
            have hLs45 : Lay s45 := hLs41.fr hFs45
            obtain ⟨x47, e48⟩ : ∃ y : Int32, y = l9 + 1 := ⟨_, rfl⟩
            replace h := h x47 e48
            refine x_iinc (v := x47) (dxX12_leads_3 21 rfl) (i := 9) rfl (by rw [e48]; rfl) (Nat.le_of_ble_eq_true rfl) rfl rfl ?_
            refine x_goto (tgt := 62) (dxX12_leads_3 22 rfl) (by decide) ?_
            refine x_mask [true, false, false, false, true, true, true, true, true, true, false, false, false] (L1 := [some (.ref 179), none, none, none, some (.int l4), some (.int l5), some (.int l6), some (.int l7), some (.int x43), some (.int x47), none, none, none]) rfl ?_
            exact h
      · replace h := h.2 hc
        refine x_iconst (v := 0) (dxX12_leads_3 8 rfl) rfl ?_
        exact x_iret (ty := .boolean) rfl rfl (dxX12_leads_3 9 rfl) ⟨_, rfl, h⟩
    · replace h := h.2 hc
      refine x_iload (dxX12_leads_3 1 rfl) rfl ?_
      refine x_goto (tgt := 172) (dxX12_leads_3 2 rfl) (by decide) ?_
      refine x_iadd (dxX12_leads_3 4 rfl) ?_
      refine cl_12_426 (kd_179 hL) (Nat.le_of_ble_eq_true rfl) (dxX12_leads_3 5 rfl) h (fun v50 s49 h => ?_) (Nat.le_refl _) (Nat.le_refl _)
      obtain ⟨hFs49, h⟩ := h
      have hKs49 : kd s49 = kd σ := hFs49.1.trans (rfl : kd σ = kd σ)
      have hLs49 : Lay s49 := hL.fr hFs49
      refine x_iconst (v := 4) (dxX12_leads_3 6 rfl) rfl ?_
      refine x_icmp_eq (tgt := 182) (dxX12_leads_3 7 rfl) (by decide) (fun hc => ?_) (fun hc => ?_)
      · replace h := h.1 hc
        refine x_iload (dxX12_leads_3 10 rfl) rfl ?_
        refine x_if_gt (tgt := 196) (dxX12_leads_3 11 rfl) (by decide) (fun hc => ?_) (fun hc => ?_)
        · replace h := h.1 hc
          refine x_iload (dxX12_leads_3 16 rfl) rfl ?_
          refine x_if_lt (tgt := 210) (dxX12_leads_3 17 rfl) (by decide) (fun hc => ?_) (fun hc => ?_)
          · replace h := h.1 hc
            refine x_goto (tgt := 62) (dxX12_leads_3 22 rfl) (by decide) ?_
            refine x_mask [true, false, false, false, true, true, true, true, true, true, false, false, false] (L1 := [some (.ref 179), none, none, none, some (.int l4), some (.int l5), some (.int l6), some (.int l7), some (.int l8), some (.int l9), none, none, none]) rfl ?_
            exact h
          · replace h := h.2 hc
            refine x_aload_n (i := 0) (dxX12_leads_3 18 rfl) rfl rfl ?_
            refine x_iload (dxX12_leads_3 19 rfl) rfl ?_
            refine cl_12_449 (kd_179 hLs49) (Nat.le_of_ble_eq_true rfl) (dxX12_leads_3 20 rfl) h (fun s51 h => ?_) (Nat.le_refl _) (Nat.le_refl _)
            obtain ⟨hFs51, h⟩ := h
            have hKs51 : kd s51 = kd σ := hFs51.1.trans hKs49
            have hLs51 : Lay s51 := hLs49.fr hFs51
            obtain ⟨x53, e54⟩ : ∃ y : Int32, y = l9 + 1 := ⟨_, rfl⟩
            replace h := h x53 e54
            refine x_iinc (v := x53) (dxX12_leads_3 21 rfl) (i := 9) rfl (by rw [e54]; rfl) (Nat.le_of_ble_eq_true rfl) rfl rfl ?_
            refine x_goto (tgt := 62) (dxX12_leads_3 22 rfl) (by decide) ?_
            refine x_mask [true, false, false, false, true, true, true, true, true, true, false, false, false] (L1 := [some (.ref 179), none, none, none, some (.int l4), some (.int l5), some (.int l6), some (.int l7), some (.int l8), some (.int x53), none, none, none]) rfl ?_
            exact h
        · replace h := h.2 hc
          refine x_aload_n (i := 0) (dxX12_leads_3 12 rfl) rfl rfl ?_
          refine x_iload (dxX12_leads_3 13 rfl) rfl ?_
          refine cl_12_449 (kd_179 hLs49) (Nat.le_of_ble_eq_true rfl) (dxX12_leads_3 14 rfl) h (fun s55 h => ?_) (Nat.le_refl _) (Nat.le_refl _)
          obtain ⟨hFs55, h⟩ := h
          have hKs55 : kd s55 = kd σ := hFs55.1.trans hKs49
          have hLs55 : Lay s55 := hLs49.fr hFs55
          obtain ⟨x57, e58⟩ : ∃ y : Int32, y = l8 + 1 := ⟨_, rfl⟩
          replace h := h x57 e58
          refine x_iinc (v := x57) (dxX12_leads_3 15 rfl) (i := 8) rfl (by rw [e58]; rfl) (Nat.le_of_ble_eq_true rfl) rfl rfl ?_
          refine x_iload (dxX12_leads_3 16 rfl) rfl ?_
          refine x_if_lt (tgt := 210) (dxX12_leads_3 17 rfl) (by decide) (fun hc => ?_) (fun hc => ?_)
          · replace h := h.1 hc
            refine x_goto (tgt := 62) (dxX12_leads_3 22 rfl) (by decide) ?_
            refine x_mask [true, false, false, false, true, true, true, true, true, true, false, false, false] (L1 := [some (.ref 179), none, none, none, some (.int l4), some (.int l5), some (.int l6), some (.int l7), some (.int x57), some (.int l9), none, none, none]) rfl ?_
            exact h
          · replace h := h.2 hc
            refine x_aload_n (i := 0) (dxX12_leads_3 18 rfl) rfl rfl ?_
            refine x_iload (dxX12_leads_3 19 rfl) rfl ?_
            refine cl_12_449 (kd_179 hLs55) (Nat.le_of_ble_eq_true rfl) (dxX12_leads_3 20 rfl) h (fun s59 h => ?_) (Nat.le_refl _) (Nat.le_refl _)
            obtain ⟨hFs59, h⟩ := h
            have hKs59 : kd s59 = kd σ := hFs59.1.trans hKs55
            have hLs59 : Lay s59 := hLs55.fr hFs59
            obtain ⟨x61, e62⟩ : ∃ y : Int32, y = l9 + 1 := ⟨_, rfl⟩
            replace h := h x61 e62
            refine x_iinc (v := x61) (dxX12_leads_3 21 rfl) (i := 9) rfl (by rw [e62]; rfl) (Nat.le_of_ble_eq_true rfl) rfl rfl ?_
            refine x_goto (tgt := 62) (dxX12_leads_3 22 rfl) (by decide) ?_
            refine x_mask [true, false, false, false, true, true, true, true, true, true, false, false, false] (L1 := [some (.ref 179), none, none, none, some (.int l4), some (.int l5), some (.int l6), some (.int l7), some (.int x57), some (.int x61), none, none, none]) rfl ?_
            exact h
      · replace h := h.2 hc
        refine x_iconst (v := 0) (dxX12_leads_3 8 rfl) rfl ?_
        exact x_iret (ty := .boolean) rfl rfl (dxX12_leads_3 9 rfl) ⟨_, rfl, h⟩
theorem vcX12_way {g : GV} {d : Nat} {P : Int32 → PS → Prop} {σ : PS} (hL : Lay σ) (p0 : Int32) (p1 : Int32) (p2 : Int32) (p3 : Int32) (h : ∀ s1 : PS, s1 = si σ 179 0 0 → CX12_isCell g d [.ref 179, .int p0] s1 (fun (v4 : Int32) (s3 : PS) => Fr s1 s3 ∧ (v4 = 0 → P (-1) s3) ∧ (¬ v4 = 0 → CX12_within g d [.int p1, .int (-12), .int 12] s3 (fun (v6 : Int32) (s5 : PS) => Fr s3 s5 ∧ (v6 = 0 → P (-1) s5) ∧ (¬ v6 = 0 → CX12_within g d [.int p2, .int (-12), .int 12] s5 (fun (v8 : Int32) (s7 : PS) => Fr s5 s7 ∧ (v8 = 0 → P (-1) s7) ∧ (¬ v8 = 0 → CX12_within g d [.int p3, .int 0, .int 1] s7 (fun (v10 : Int32) (s9 : PS) => Fr s7 s9 ∧ (v10 = 0 → P (-1) s9) ∧ (¬ v10 = 0 → CX12_isBody g d [.ref 179] s9 (fun (v12 : Int32) (s11 : PS) => Fr s9 s11 ∧ (¬ v12 = 0 → CX12_laysBody g d [.ref 179, .int 0, .int (-1)] s11 (fun (s13 : PS) => Fr s11 s13 ∧ CX12_leads g d [.ref 179, .int p0, .int p1, .int p2] s13 (fun (v16 : Int32) (s15 : PS) => Fr s13 s15 ∧ (¬ v16 = 0 → (¬ p3 = 0 → P (mi s15 179 62) s15) ∧ (p3 = 0 → P (mi s15 179 61) s15)) ∧ (v16 = 0 → P (-1) s15)))) ∧ (v12 = 0 → P (-1) s11))))))))))) : CX12_way g (d + 1) [.ref 179, .int p0, .int p1, .int p2, .int p3] σ P := by
  refine x_entry (L := [some (.ref 179), some (.int p0), some (.int p1), some (.int p2), some (.int p3)]) pn_12 (Nat.le_of_ble_eq_true rfl) ⟨0, rfl⟩ ?_
  show VX12_way g (d + 1) P 0 [some (.ref 179), some (.int p0), some (.int p1), some (.int p2), some (.int p3)] [] σ
  refine x_aload_n (i := 0) (dxX12_way_0 0 rfl) rfl rfl ?_
  refine x_iconst (v := 0) (dxX12_way_0 1 rfl) rfl ?_
  refine pf_12_184 (kd_179 hL) (dxX12_way_0 2 rfl) ?_
  refine x_sto (fun s1 e2 => ?_)
  replace h := h s1 e2
  have hKs1 : kd s1 = kd σ := by rw [e2]; exact (rfl : kd σ = kd σ)
  have hLs1 : Lay s1 := by rw [e2]; exact hL.si
  refine x_aload_n (i := 0) (dxX12_way_0 3 rfl) rfl rfl ?_
  refine x_iload_n (i := 1) (dxX12_way_0 4 rfl) rfl rfl ?_
  refine cl_12_366 (kd_179 hLs1) (Nat.le_of_ble_eq_true rfl) (dxX12_way_0 5 rfl) h (fun v4 s3 h => ?_) (Nat.le_refl _) (Nat.le_refl _)
  obtain ⟨hFs3, h⟩ := h
  have hKs3 : kd s3 = kd σ := hFs3.1.trans hKs1
  have hLs3 : Lay s3 := hLs1.fr hFs3
  refine x_if_eq (tgt := 52) (dxX12_way_0 6 rfl) (by decide) (fun hc => ?_) (fun hc => ?_)
  · replace h := h.1 hc
    refine x_iconst (v := (-1)) (dxX12_way_0 25 rfl) rfl ?_
    exact x_iret (ty := .int) rfl rfl (dxX12_way_0 26 rfl) ⟨_, rfl, h⟩
  · replace h := h.2 hc
    refine x_iload_n (i := 2) (dxX12_way_0 7 rfl) rfl rfl ?_
    refine x_bipush (v := (-12)) (dxX12_way_0 8 rfl) rfl ?_
    refine x_bipush (v := 12) (dxX12_way_0 9 rfl) rfl ?_
    refine cl_12_307 (Nat.le_of_ble_eq_true rfl) (dxX12_way_0 10 rfl) h (fun v6 s5 h => ?_) (Nat.le_refl _) (Nat.le_refl _)
    obtain ⟨hFs5, h⟩ := h
    have hKs5 : kd s5 = kd σ := hFs5.1.trans hKs3
    have hLs5 : Lay s5 := hLs3.fr hFs5
    refine x_if_eq (tgt := 52) (dxX12_way_0 11 rfl) (by decide) (fun hc => ?_) (fun hc => ?_)
    · replace h := h.1 hc
      refine x_iconst (v := (-1)) (dxX12_way_0 25 rfl) rfl ?_
      exact x_iret (ty := .int) rfl rfl (dxX12_way_0 26 rfl) ⟨_, rfl, h⟩
    · replace h := h.2 hc
      refine x_iload_n (i := 3) (dxX12_way_0 12 rfl) rfl rfl ?_
      refine x_bipush (v := (-12)) (dxX12_way_0 13 rfl) rfl ?_
      refine x_bipush (v := 12) (dxX12_way_0 14 rfl) rfl ?_
      refine cl_12_307 (Nat.le_of_ble_eq_true rfl) (dxX12_way_0 15 rfl) h (fun v8 s7 h => ?_) (Nat.le_refl _) (Nat.le_refl _)
      obtain ⟨hFs7, h⟩ := h
      have hKs7 : kd s7 = kd σ := hFs7.1.trans hKs5
      have hLs7 : Lay s7 := hLs5.fr hFs7
      refine x_if_eq (tgt := 52) (dxX12_way_0 16 rfl) (by decide) (fun hc => ?_) (fun hc => ?_)
      · replace h := h.1 hc
        refine x_iconst (v := (-1)) (dxX12_way_0 25 rfl) rfl ?_
        exact x_iret (ty := .int) rfl rfl (dxX12_way_0 26 rfl) ⟨_, rfl, h⟩
      · replace h := h.2 hc
        refine x_iload (dxX12_way_0 17 rfl) rfl ?_
        refine x_iconst (v := 0) (dxX12_way_0 18 rfl) rfl ?_
        refine x_iconst (v := 1) (dxX12_way_0 19 rfl) rfl ?_
        refine cl_12_307 (Nat.le_of_ble_eq_true rfl) (dxX12_way_0 20 rfl) h (fun v10 s9 h => ?_) (Nat.le_refl _) (Nat.le_refl _)
        obtain ⟨hFs9, h⟩ := h
        have hKs9 : kd s9 = kd σ := hFs9.1.trans hKs7
        have hLs9 : Lay s9 := hLs7.fr hFs9
        refine x_if_eq (tgt := 52) (dxX12_way_0 21 rfl) (by decide) (fun hc => ?_) (fun hc => ?_)
        · replace h := h.1 hc
          refine x_iconst (v := (-1)) (dxX12_way_0 25 rfl) rfl ?_
          exact x_iret (ty := .int) rfl rfl (dxX12_way_0 26 rfl) ⟨_, rfl, h⟩
        · replace h := h.2 hc
          refine x_aload_n (i := 0) (dxX12_way_0 22 rfl) rfl rfl ?_
          refine cl_12_420 (kd_179 hLs9) (Nat.le_of_ble_eq_true rfl) (dxX12_way_0 23 rfl) h (fun v12 s11 h => ?_) (Nat.le_refl _) (Nat.le_refl _)
          obtain ⟨hFs11, h⟩ := h
          have hKs11 : kd s11 = kd σ := hFs11.1.trans hKs9
          have hLs11 : Lay s11 := hLs9.fr hFs11
          refine x_if_ne (tgt := 54) (dxX12_way_0 24 rfl) (by decide) (fun hc => ?_) (fun hc => ?_)
          · replace h := h.1 hc
            refine x_aload_n (i := 0) (dxX12_way_0 27 rfl) rfl rfl ?_
            refine x_iconst (v := 0) (dxX12_way_0 28 rfl) rfl ?_
            refine x_iconst (v := (-1)) (dxX12_way_0 29 rfl) rfl ?_
            refine cl_12_423 (kd_179 hLs11) (Nat.le_of_ble_eq_true rfl) (dxX12_way_0 30 rfl) h (fun s13 h => ?_) (Nat.le_refl _) (Nat.le_refl _)
            obtain ⟨hFs13, h⟩ := h
            have hKs13 : kd s13 = kd σ := hFs13.1.trans hKs11
            have hLs13 : Lay s13 := hLs11.fr hFs13
            refine x_aload_n (i := 0) (dxX12_way_0 31 rfl) rfl rfl ?_
            refine x_iload_n (i := 1) (dxX12_way_1 0 rfl) rfl rfl ?_
            refine x_iload_n (i := 2) (dxX12_way_1 1 rfl) rfl rfl ?_
            refine x_iload_n (i := 3) (dxX12_way_1 2 rfl) rfl rfl ?_
            refine cl_12_452 (kd_179 hLs13) (Nat.le_of_ble_eq_true rfl) (dxX12_way_1 3 rfl) h (fun v16 s15 h => ?_) (Nat.le_refl _) (Nat.le_refl _)
            obtain ⟨hFs15, h⟩ := h
            have hKs15 : kd s15 = kd σ := hFs15.1.trans hKs13
            have hLs15 : Lay s15 := hLs13.fr hFs15
            refine x_if_ne (tgt := 72) (dxX12_way_1 4 rfl) (by decide) (fun hc => ?_) (fun hc => ?_)
            · replace h := h.1 hc
              refine x_iload (dxX12_way_1 7 rfl) rfl ?_
              refine x_if_ne (tgt := 84) (dxX12_way_1 8 rfl) (by decide) (fun hc => ?_) (fun hc => ?_)
              · replace h := h.1 hc
                refine x_aload_n (i := 0) (dxX12_way_1 12 rfl) rfl rfl ?_
                refine gf_12_446 (kd_179 hLs15) rfl (dxX12_way_1 13 rfl) ?_
                exact x_iret (ty := .int) rfl rfl (dxX12_way_1 14 rfl) ⟨_, rfl, h⟩
              · replace h := h.2 hc
                refine x_aload_n (i := 0) (dxX12_way_1 9 rfl) rfl rfl ?_
                refine gf_12_443 (kd_179 hLs15) rfl (dxX12_way_1 10 rfl) ?_
                refine x_goto (tgt := 88) (dxX12_way_1 11 rfl) (by decide) ?_
                exact x_iret (ty := .int) rfl rfl (dxX12_way_1 14 rfl) ⟨_, rfl, h⟩
            · replace h := h.2 hc
              refine x_iconst (v := (-1)) (dxX12_way_1 5 rfl) rfl ?_
              exact x_iret (ty := .int) rfl rfl (dxX12_way_1 6 rfl) ⟨_, rfl, h⟩
          · replace h := h.2 hc
            refine x_iconst (v := (-1)) (dxX12_way_0 25 rfl) rfl ?_
            exact x_iret (ty := .int) rfl rfl (dxX12_way_0 26 rfl) ⟨_, rfl, h⟩
theorem vcX12_shortests {g : GV} {d : Nat} {P : PS → Prop} {σ : PS} (hL : Lay σ) (p0 : Int32) (p1 : Int32) (p2 : Int32) (h : ∀ s1 : PS, s1 = si σ 179 63 145 → ∀ s3 : PS, s3 = si s1 179 64 0 → VX12_shortests g (d + 1) P 16 [some (.ref 179), some (.int p0), some (.int p1), some (.int p2), some (.int (-12)), none, none] [] s3) : CX12_shortests g (d + 1) [.ref 179, .int p0, .int p1, .int p2] σ P := by
  refine x_entry (L := [some (.ref 179), some (.int p0), some (.int p1), some (.int p2), none, none, none]) pn_12 (Nat.le_of_ble_eq_true rfl) ⟨3, rfl⟩ ?_
  show VX12_shortests g (d + 1) P 0 [some (.ref 179), some (.int p0), some (.int p1), some (.int p2), none, none, none] [] σ
  refine x_aload_n (i := 0) (dxX12_shortests_0 0 rfl) rfl rfl ?_
  refine x_sipush (v := 145) (dxX12_shortests_0 1 rfl) rfl ?_
  refine pf_12_455 (kd_179 hL) (dxX12_shortests_0 2 rfl) ?_
  refine x_sto (fun s1 e2 => ?_)
  replace h := h s1 e2
  have hKs1 : kd s1 = kd σ := by rw [e2]; exact (rfl : kd σ = kd σ)
  have hLs1 : Lay s1 := by rw [e2]; exact hL.si
  refine x_aload_n (i := 0) (dxX12_shortests_0 3 rfl) rfl rfl ?_
  refine x_iconst (v := 0) (dxX12_shortests_0 4 rfl) rfl ?_
  refine pf_12_458 (kd_179 hLs1) (dxX12_shortests_0 5 rfl) ?_
  refine x_sto (fun s3 e4 => ?_)
  replace h := h s3 e4
  have hKs3 : kd s3 = kd σ := by rw [e4]; exact hKs1
  have hLs3 : Lay s3 := by rw [e4]; exact hLs1.si
  refine x_bipush (v := (-12)) (dxX12_shortests_0 6 rfl) rfl ?_
  refine x_istore (dxX12_shortests_0 7 rfl) (Nat.le_of_ble_eq_true rfl) rfl rfl ?_
  exact h
theorem vcX12_shortests_16 {g : GV} {d : Nat} {P : PS → Prop} {σ : PS} (hL : Lay σ) (l1 : Int32) (l2 : Int32) (l3 : Int32) (l4 : Int32) (h : (12 < l4 → P σ) ∧ (¬ 12 < l4 → VX12_shortests g (d + 1) P 27 [some (.ref 179), some (.int l1), some (.int l2), some (.int l3), some (.int l4), some (.int (-12)), none] [] σ)) : VX12_shortests g (d + 1) P 16 [some (.ref 179), some (.int l1), some (.int l2), some (.int l3), some (.int l4), none, none] [] σ := by
  refine x_iload (dxX12_shortests_0 8 rfl) rfl ?_
  refine x_bipush (v := 12) (dxX12_shortests_0 9 rfl) rfl ?_
  refine x_icmp_gt (tgt := 161) (dxX12_shortests_0 10 rfl) (by decide) (fun hc => ?_) (fun hc => ?_)
  · replace h := h.1 hc
    exact x_vret rfl (dxX12_shortests_2 13 rfl) ⟨rfl, h⟩
  · replace h := h.2 hc
    refine x_bipush (v := (-12)) (dxX12_shortests_0 11 rfl) rfl ?_
    refine x_istore (dxX12_shortests_0 12 rfl) (Nat.le_of_ble_eq_true rfl) rfl rfl ?_
    exact h
theorem vcX12_shortests_27 {g : GV} {d : Nat} {P : PS → Prop} {σ : PS} (hL : Lay σ) (l1 : Int32) (l2 : Int32) (l3 : Int32) (l4 : Int32) (l5 : Int32) (h : (12 < l5 → ∀ x5 : Int32, x5 = l4 + 1 → VX12_shortests g (d + 1) P 16 [some (.ref 179), some (.int l1), some (.int l2), some (.int l3), some (.int x5), none, none] [] σ) ∧ (¬ 12 < l5 → ∀ x7 : Int32, x7 = (l4 * l4) + (l5 * l5) → (144 < x7 → ∀ x9 : Int32, x9 = l5 + 1 → VX12_shortests g (d + 1) P 27 [some (.ref 179), some (.int l1), some (.int l2), some (.int l3), some (.int l4), some (.int x9), none] [] σ) ∧ (¬ 144 < x7 → ((mi σ 179 63) < x7 → ∀ x11 : Int32, x11 = l5 + 1 → VX12_shortests g (d + 1) P 27 [some (.ref 179), some (.int l1), some (.int l2), some (.int l3), some (.int l4), some (.int x11), none] [] σ) ∧ (¬ (mi σ 179 63) < x7 → (l3 = 0 → VX12_shortests g (d + 1) P 73 [some (.ref 179), some (.int l1), some (.int l2), some (.int l3), some (.int l4), some (.int l5), some (.int x7)] [] σ) ∧ (¬ l3 = 0 → (x7 = 0 → ∀ x13 : Int32, x13 = l5 + 1 → VX12_shortests g (d + 1) P 27 [some (.ref 179), some (.int l1), some (.int l2), some (.int l3), some (.int l4), some (.int x13), none] [] σ) ∧ (¬ x7 = 0 → VX12_shortests g (d + 1) P 73 [some (.ref 179), some (.int l1), some (.int l2), some (.int l3), some (.int l4), some (.int l5), some (.int x7)] [] σ)))))) : VX12_shortests g (d + 1) P 27 [some (.ref 179), some (.int l1), some (.int l2), some (.int l3), some (.int l4), some (.int l5), none] [] σ := by
  refine x_iload (dxX12_shortests_0 13 rfl) rfl ?_
  refine x_bipush (v := 12) (dxX12_shortests_0 14 rfl) rfl ?_
  refine x_icmp_gt (tgt := 155) (dxX12_shortests_0 15 rfl) (by decide) (fun hc => ?_) (fun hc => ?_)
  · replace h := h.1 hc
    obtain ⟨x5, e6⟩ : ∃ y : Int32, y = l4 + 1 := ⟨_, rfl⟩
    replace h := h x5 e6
    refine x_iinc (v := x5) (dxX12_shortests_2 11 rfl) (i := 4) rfl (by rw [e6]; rfl) (Nat.le_of_ble_eq_true rfl) rfl rfl ?_
    refine x_goto (tgt := 16) (dxX12_shortests_2 12 rfl) (by decide) ?_
    refine x_mask [true, true, true, true, true, false, false] (L1 := [some (.ref 179), some (.int l1), some (.int l2), some (.int l3), some (.int x5), none, none]) rfl ?_
    exact h
  · replace h := h.2 hc
    refine x_iload (dxX12_shortests_0 16 rfl) rfl ?_
    refine x_iload (dxX12_shortests_0 17 rfl) rfl ?_
    refine x_imul (dxX12_shortests_0 18 rfl) ?_
    refine x_iload (dxX12_shortests_0 19 rfl) rfl ?_
    refine x_iload (dxX12_shortests_0 20 rfl) rfl ?_
    refine x_imul (dxX12_shortests_0 21 rfl) ?_
    refine x_iadd (dxX12_shortests_0 22 rfl) ?_
    refine x_topi (fun x7 e8 => ?_)
    replace h := h x7 e8
    refine x_istore (dxX12_shortests_0 23 rfl) (Nat.le_of_ble_eq_true rfl) rfl rfl ?_
    refine x_iload (dxX12_shortests_0 24 rfl) rfl ?_
    refine x_sipush (v := 144) (dxX12_shortests_0 25 rfl) rfl ?_
    refine x_icmp_gt (tgt := 149) (dxX12_shortests_0 26 rfl) (by decide) (fun hc => ?_) (fun hc => ?_)
    · replace h := h.1 hc
      obtain ⟨x9, e10⟩ : ∃ y : Int32, y = l5 + 1 := ⟨_, rfl⟩
      replace h := h x9 e10
      refine x_iinc (v := x9) (dxX12_shortests_2 9 rfl) (i := 5) rfl (by rw [e10]; rfl) (Nat.le_of_ble_eq_true rfl) rfl rfl ?_
      refine x_goto (tgt := 27) (dxX12_shortests_2 10 rfl) (by decide) ?_
      refine x_mask [true, true, true, true, true, true, false] (L1 := [some (.ref 179), some (.int l1), some (.int l2), some (.int l3), some (.int l4), some (.int x9), none]) rfl ?_
      exact h
    · replace h := h.2 hc
      refine x_iload (dxX12_shortests_0 27 rfl) rfl ?_
      refine x_aload_n (i := 0) (dxX12_shortests_0 28 rfl) rfl rfl ?_
      refine gf_12_455 (kd_179 hL) rfl (dxX12_shortests_0 29 rfl) ?_
      refine x_icmp_gt (tgt := 149) (dxX12_shortests_0 30 rfl) (by decide) (fun hc => ?_) (fun hc => ?_)
      · replace h := h.1 hc
        obtain ⟨x11, e12⟩ : ∃ y : Int32, y = l5 + 1 := ⟨_, rfl⟩
        replace h := h x11 e12
        refine x_iinc (v := x11) (dxX12_shortests_2 9 rfl) (i := 5) rfl (by rw [e12]; rfl) (Nat.le_of_ble_eq_true rfl) rfl rfl ?_
        refine x_goto (tgt := 27) (dxX12_shortests_2 10 rfl) (by decide) ?_
        refine x_mask [true, true, true, true, true, true, false] (L1 := [some (.ref 179), some (.int l1), some (.int l2), some (.int l3), some (.int l4), some (.int x11), none]) rfl ?_
        exact h
      · replace h := h.2 hc
        refine x_iload_n (i := 3) (dxX12_shortests_0 31 rfl) rfl rfl ?_
        refine x_if_eq (tgt := 73) (dxX12_shortests_1 0 rfl) (by decide) (fun hc => ?_) (fun hc => ?_)
        · replace h := h.1 hc
          exact h
        · replace h := h.2 hc
          refine x_iload (dxX12_shortests_1 1 rfl) rfl ?_
          refine x_if_eq (tgt := 149) (dxX12_shortests_1 2 rfl) (by decide) (fun hc => ?_) (fun hc => ?_)
          · replace h := h.1 hc
            obtain ⟨x13, e14⟩ : ∃ y : Int32, y = l5 + 1 := ⟨_, rfl⟩
            replace h := h x13 e14
            refine x_iinc (v := x13) (dxX12_shortests_2 9 rfl) (i := 5) rfl (by rw [e14]; rfl) (Nat.le_of_ble_eq_true rfl) rfl rfl ?_
            refine x_goto (tgt := 27) (dxX12_shortests_2 10 rfl) (by decide) ?_
            refine x_mask [true, true, true, true, true, true, false] (L1 := [some (.ref 179), some (.int l1), some (.int l2), some (.int l3), some (.int l4), some (.int x13), none]) rfl ?_
            exact h
          · replace h := h.2 hc
            exact h
theorem vcX12_shortests_73 {g : GV} {d : Nat} {P : PS → Prop} {σ : PS} (hL : Lay σ) (l1 : Int32) (l2 : Int32) (l3 : Int32) (l4 : Int32) (l5 : Int32) (l6 : Int32) (h : CX12_leads g d [.ref 179, .int l1, .int l4, .int l5] σ (fun (v16 : Int32) (s15 : PS) => Fr σ s15 ∧ (v16 = 0 → ∀ x17 : Int32, x17 = l5 + 1 → VX12_shortests g (d + 1) P 27 [some (.ref 179), some (.int l1), some (.int l2), some (.int l3), some (.int l4), some (.int x17), none] [] s15) ∧ (¬ v16 = 0 → (¬ (mi s15 179 61) = l2 → ∀ x19 : Int32, x19 = l5 + 1 → VX12_shortests g (d + 1) P 27 [some (.ref 179), some (.int l1), some (.int l2), some (.int l3), some (.int l4), some (.int x19), none] [] s15) ∧ ((mi s15 179 61) = l2 → (l3 = 0 → ((mi s15 179 63) ≤ l6 → ∀ s21 : PS, s21 = si s15 179 64 ((mi s15 179 64) + 1) → ∀ x23 : Int32, x23 = l5 + 1 → VX12_shortests g (d + 1) P 27 [some (.ref 179), some (.int l1), some (.int l2), some (.int l3), some (.int l4), some (.int x23), none] [] s21) ∧ (¬ (mi s15 179 63) ≤ l6 → ∀ s25 : PS, s25 = si s15 179 63 l6 → ∀ s27 : PS, s27 = si s25 179 64 0 → ∀ s29 : PS, s29 = si s27 179 65 l4 → ∀ s31 : PS, s31 = si s29 179 66 l5 → ∀ s33 : PS, s33 = si s31 179 64 ((mi s31 179 64) + 1) → ∀ x35 : Int32, x35 = l5 + 1 → VX12_shortests g (d + 1) P 27 [some (.ref 179), some (.int l1), some (.int l2), some (.int l3), some (.int l4), some (.int x35), none] [] s33)) ∧ (¬ l3 = 0 → ((mi s15 179 62) = 0 → ((mi s15 179 63) ≤ l6 → ∀ s37 : PS, s37 = si s15 179 64 ((mi s15 179 64) + 1) → ∀ x39 : Int32, x39 = l5 + 1 → VX12_shortests g (d + 1) P 27 [some (.ref 179), some (.int l1), some (.int l2), some (.int l3), some (.int l4), some (.int x39), none] [] s37) ∧ (¬ (mi s15 179 63) ≤ l6 → ∀ s41 : PS, s41 = si s15 179 63 l6 → ∀ s43 : PS, s43 = si s41 179 64 0 → ∀ s45 : PS, s45 = si s43 179 65 l4 → ∀ s47 : PS, s47 = si s45 179 66 l5 → ∀ s49 : PS, s49 = si s47 179 64 ((mi s47 179 64) + 1) → ∀ x51 : Int32, x51 = l5 + 1 → VX12_shortests g (d + 1) P 27 [some (.ref 179), some (.int l1), some (.int l2), some (.int l3), some (.int l4), some (.int x51), none] [] s49)) ∧ (¬ (mi s15 179 62) = 0 → ∀ x53 : Int32, x53 = l5 + 1 → VX12_shortests g (d + 1) P 27 [some (.ref 179), some (.int l1), some (.int l2), some (.int l3), some (.int l4), some (.int x53), none] [] s15)))))) : VX12_shortests g (d + 1) P 73 [some (.ref 179), some (.int l1), some (.int l2), some (.int l3), some (.int l4), some (.int l5), some (.int l6)] [] σ := by
  refine x_aload_n (i := 0) (dxX12_shortests_1 3 rfl) rfl rfl ?_
  refine x_iload_n (i := 1) (dxX12_shortests_1 4 rfl) rfl rfl ?_
  refine x_iload (dxX12_shortests_1 5 rfl) rfl ?_
  refine x_iload (dxX12_shortests_1 6 rfl) rfl ?_
  refine cl_12_452 (kd_179 hL) (Nat.le_of_ble_eq_true rfl) (dxX12_shortests_1 7 rfl) h (fun v16 s15 h => ?_) (Nat.le_refl _) (Nat.le_refl _)
  obtain ⟨hFs15, h⟩ := h
  have hKs15 : kd s15 = kd σ := hFs15.1.trans (rfl : kd σ = kd σ)
  have hLs15 : Lay s15 := hL.fr hFs15
  refine x_if_eq (tgt := 149) (dxX12_shortests_1 8 rfl) (by decide) (fun hc => ?_) (fun hc => ?_)
  · replace h := h.1 hc
    obtain ⟨x17, e18⟩ : ∃ y : Int32, y = l5 + 1 := ⟨_, rfl⟩
    replace h := h x17 e18
    refine x_iinc (v := x17) (dxX12_shortests_2 9 rfl) (i := 5) rfl (by rw [e18]; rfl) (Nat.le_of_ble_eq_true rfl) rfl rfl ?_
    refine x_goto (tgt := 27) (dxX12_shortests_2 10 rfl) (by decide) ?_
    refine x_mask [true, true, true, true, true, true, false] (L1 := [some (.ref 179), some (.int l1), some (.int l2), some (.int l3), some (.int l4), some (.int x17), none]) rfl ?_
    exact h
  · replace h := h.2 hc
    refine x_aload_n (i := 0) (dxX12_shortests_1 9 rfl) rfl rfl ?_
    refine gf_12_443 (kd_179 hLs15) rfl (dxX12_shortests_1 10 rfl) ?_
    refine x_iload_n (i := 2) (dxX12_shortests_1 11 rfl) rfl rfl ?_
    refine x_icmp_ne (tgt := 149) (dxX12_shortests_1 12 rfl) (by decide) (fun hc => ?_) (fun hc => ?_)
    · replace h := h.1 hc
      obtain ⟨x19, e20⟩ : ∃ y : Int32, y = l5 + 1 := ⟨_, rfl⟩
      replace h := h x19 e20
      refine x_iinc (v := x19) (dxX12_shortests_2 9 rfl) (i := 5) rfl (by rw [e20]; rfl) (Nat.le_of_ble_eq_true rfl) rfl rfl ?_
      refine x_goto (tgt := 27) (dxX12_shortests_2 10 rfl) (by decide) ?_
      refine x_mask [true, true, true, true, true, true, false] (L1 := [some (.ref 179), some (.int l1), some (.int l2), some (.int l3), some (.int l4), some (.int x19), none]) rfl ?_
      exact h
    · replace h := h.2 hc
      refine x_iload_n (i := 3) (dxX12_shortests_1 13 rfl) rfl rfl ?_
      refine x_if_eq (tgt := 107) (dxX12_shortests_1 14 rfl) (by decide) (fun hc => ?_) (fun hc => ?_)
      · replace h := h.1 hc
        refine x_iload (dxX12_shortests_1 19 rfl) rfl ?_
        refine x_aload_n (i := 0) (dxX12_shortests_1 20 rfl) rfl rfl ?_
        refine gf_12_455 (kd_179 hLs15) rfl (dxX12_shortests_1 21 rfl) ?_
        refine x_icmp_ge (tgt := 139) (dxX12_shortests_1 22 rfl) (by decide) (fun hc => ?_) (fun hc => ?_)
        · replace h := h.1 hc
          refine x_aload_n (i := 0) (dxX12_shortests_2 3 rfl) rfl rfl ?_
          refine x_dup (dxX12_shortests_2 4 rfl) rfl ?_
          refine gf_12_458 (kd_179 hLs15) rfl (dxX12_shortests_2 5 rfl) ?_
          refine x_iconst (v := 1) (dxX12_shortests_2 6 rfl) rfl ?_
          refine x_iadd (dxX12_shortests_2 7 rfl) ?_
          refine pf_12_458 (kd_179 hLs15) (dxX12_shortests_2 8 rfl) ?_
          refine x_sto (fun s21 e22 => ?_)
          replace h := h s21 e22
          have hKs21 : kd s21 = kd σ := by rw [e22]; exact hKs15
          have hLs21 : Lay s21 := by rw [e22]; exact hLs15.si
          obtain ⟨x23, e24⟩ : ∃ y : Int32, y = l5 + 1 := ⟨_, rfl⟩
          replace h := h x23 e24
          refine x_iinc (v := x23) (dxX12_shortests_2 9 rfl) (i := 5) rfl (by rw [e24]; rfl) (Nat.le_of_ble_eq_true rfl) rfl rfl ?_
          refine x_goto (tgt := 27) (dxX12_shortests_2 10 rfl) (by decide) ?_
          refine x_mask [true, true, true, true, true, true, false] (L1 := [some (.ref 179), some (.int l1), some (.int l2), some (.int l3), some (.int l4), some (.int x23), none]) rfl ?_
          exact h
        · replace h := h.2 hc
          refine x_aload_n (i := 0) (dxX12_shortests_1 23 rfl) rfl rfl ?_
          refine x_iload (dxX12_shortests_1 24 rfl) rfl ?_
          refine pf_12_455 (kd_179 hLs15) (dxX12_shortests_1 25 rfl) ?_
          refine x_sto (fun s25 e26 => ?_)
          replace h := h s25 e26
          have hKs25 : kd s25 = kd σ := by rw [e26]; exact hKs15
          have hLs25 : Lay s25 := by rw [e26]; exact hLs15.si
          refine x_aload_n (i := 0) (dxX12_shortests_1 26 rfl) rfl rfl ?_
          refine x_iconst (v := 0) (dxX12_shortests_1 27 rfl) rfl ?_
          refine pf_12_458 (kd_179 hLs25) (dxX12_shortests_1 28 rfl) ?_
          refine x_sto (fun s27 e28 => ?_)
          replace h := h s27 e28
          have hKs27 : kd s27 = kd σ := by rw [e28]; exact hKs25
          have hLs27 : Lay s27 := by rw [e28]; exact hLs25.si
          refine x_aload_n (i := 0) (dxX12_shortests_1 29 rfl) rfl rfl ?_
          refine x_iload (dxX12_shortests_1 30 rfl) rfl ?_
          refine pf_12_461 (kd_179 hLs27) (dxX12_shortests_1 31 rfl) ?_
          refine x_sto (fun s29 e30 => ?_)
          replace h := h s29 e30
          have hKs29 : kd s29 = kd σ := by rw [e30]; exact hKs27
          have hLs29 : Lay s29 := by rw [e30]; exact hLs27.si
          refine x_aload_n (i := 0) (dxX12_shortests_2 0 rfl) rfl rfl ?_
          refine x_iload (dxX12_shortests_2 1 rfl) rfl ?_
          refine pf_12_464 (kd_179 hLs29) (dxX12_shortests_2 2 rfl) ?_
          refine x_sto (fun s31 e32 => ?_)
          replace h := h s31 e32
          have hKs31 : kd s31 = kd σ := by rw [e32]; exact hKs29
          have hLs31 : Lay s31 := by rw [e32]; exact hLs29.si
          refine x_aload_n (i := 0) (dxX12_shortests_2 3 rfl) rfl rfl ?_
          refine x_dup (dxX12_shortests_2 4 rfl) rfl ?_
          refine gf_12_458 (kd_179 hLs31) rfl (dxX12_shortests_2 5 rfl) ?_
          refine x_iconst (v := 1) (dxX12_shortests_2 6 rfl) rfl ?_
          refine x_iadd (dxX12_shortests_2 7 rfl) ?_
          refine pf_12_458 (kd_179 hLs31) (dxX12_shortests_2 8 rfl) ?_
          refine x_sto (fun s33 e34 => ?_)
          replace h := h s33 e34
          have hKs33 : kd s33 = kd σ := by rw [e34]; exact hKs31
          have hLs33 : Lay s33 := by rw [e34]; exact hLs31.si
          obtain ⟨x35, e36⟩ : ∃ y : Int32, y = l5 + 1 := ⟨_, rfl⟩
          replace h := h x35 e36
          refine x_iinc (v := x35) (dxX12_shortests_2 9 rfl) (i := 5) rfl (by rw [e36]; rfl) (Nat.le_of_ble_eq_true rfl) rfl rfl ?_
          refine x_goto (tgt := 27) (dxX12_shortests_2 10 rfl) (by decide) ?_
          refine x_mask [true, true, true, true, true, true, false] (L1 := [some (.ref 179), some (.int l1), some (.int l2), some (.int l3), some (.int l4), some (.int x35), none]) rfl ?_
          exact h
      · replace h := h.2 hc
        refine x_aload_n (i := 0) (dxX12_shortests_1 15 rfl) rfl rfl ?_
        refine gf_12_446 (kd_179 hLs15) rfl (dxX12_shortests_1 16 rfl) ?_
        refine x_if_eq (tgt := 107) (dxX12_shortests_1 17 rfl) (by decide) (fun hc => ?_) (fun hc => ?_)
        · replace h := h.1 hc
          refine x_iload (dxX12_shortests_1 19 rfl) rfl ?_
          refine x_aload_n (i := 0) (dxX12_shortests_1 20 rfl) rfl rfl ?_
          refine gf_12_455 (kd_179 hLs15) rfl (dxX12_shortests_1 21 rfl) ?_
          refine x_icmp_ge (tgt := 139) (dxX12_shortests_1 22 rfl) (by decide) (fun hc => ?_) (fun hc => ?_)
          · replace h := h.1 hc
            refine x_aload_n (i := 0) (dxX12_shortests_2 3 rfl) rfl rfl ?_
            refine x_dup (dxX12_shortests_2 4 rfl) rfl ?_
            refine gf_12_458 (kd_179 hLs15) rfl (dxX12_shortests_2 5 rfl) ?_
            refine x_iconst (v := 1) (dxX12_shortests_2 6 rfl) rfl ?_
            refine x_iadd (dxX12_shortests_2 7 rfl) ?_
            refine pf_12_458 (kd_179 hLs15) (dxX12_shortests_2 8 rfl) ?_
            refine x_sto (fun s37 e38 => ?_)
            replace h := h s37 e38
            have hKs37 : kd s37 = kd σ := by rw [e38]; exact hKs15
            have hLs37 : Lay s37 := by rw [e38]; exact hLs15.si
            obtain ⟨x39, e40⟩ : ∃ y : Int32, y = l5 + 1 := ⟨_, rfl⟩
            replace h := h x39 e40
            refine x_iinc (v := x39) (dxX12_shortests_2 9 rfl) (i := 5) rfl (by rw [e40]; rfl) (Nat.le_of_ble_eq_true rfl) rfl rfl ?_
            refine x_goto (tgt := 27) (dxX12_shortests_2 10 rfl) (by decide) ?_
            refine x_mask [true, true, true, true, true, true, false] (L1 := [some (.ref 179), some (.int l1), some (.int l2), some (.int l3), some (.int l4), some (.int x39), none]) rfl ?_
            exact h
          · replace h := h.2 hc
            refine x_aload_n (i := 0) (dxX12_shortests_1 23 rfl) rfl rfl ?_
            refine x_iload (dxX12_shortests_1 24 rfl) rfl ?_
            refine pf_12_455 (kd_179 hLs15) (dxX12_shortests_1 25 rfl) ?_
            refine x_sto (fun s41 e42 => ?_)
            replace h := h s41 e42
            have hKs41 : kd s41 = kd σ := by rw [e42]; exact hKs15
            have hLs41 : Lay s41 := by rw [e42]; exact hLs15.si
            refine x_aload_n (i := 0) (dxX12_shortests_1 26 rfl) rfl rfl ?_
            refine x_iconst (v := 0) (dxX12_shortests_1 27 rfl) rfl ?_
            refine pf_12_458 (kd_179 hLs41) (dxX12_shortests_1 28 rfl) ?_
            refine x_sto (fun s43 e44 => ?_)
            replace h := h s43 e44
            have hKs43 : kd s43 = kd σ := by rw [e44]; exact hKs41
            have hLs43 : Lay s43 := by rw [e44]; exact hLs41.si
            refine x_aload_n (i := 0) (dxX12_shortests_1 29 rfl) rfl rfl ?_
            refine x_iload (dxX12_shortests_1 30 rfl) rfl ?_
            refine pf_12_461 (kd_179 hLs43) (dxX12_shortests_1 31 rfl) ?_
            refine x_sto (fun s45 e46 => ?_)
            replace h := h s45 e46
            have hKs45 : kd s45 = kd σ := by rw [e46]; exact hKs43
            have hLs45 : Lay s45 := by rw [e46]; exact hLs43.si
            refine x_aload_n (i := 0) (dxX12_shortests_2 0 rfl) rfl rfl ?_
            refine x_iload (dxX12_shortests_2 1 rfl) rfl ?_
            refine pf_12_464 (kd_179 hLs45) (dxX12_shortests_2 2 rfl) ?_
            refine x_sto (fun s47 e48 => ?_)
            replace h := h s47 e48
            have hKs47 : kd s47 = kd σ := by rw [e48]; exact hKs45
            have hLs47 : Lay s47 := by rw [e48]; exact hLs45.si
            refine x_aload_n (i := 0) (dxX12_shortests_2 3 rfl) rfl rfl ?_
            refine x_dup (dxX12_shortests_2 4 rfl) rfl ?_
            refine gf_12_458 (kd_179 hLs47) rfl (dxX12_shortests_2 5 rfl) ?_
            refine x_iconst (v := 1) (dxX12_shortests_2 6 rfl) rfl ?_
            refine x_iadd (dxX12_shortests_2 7 rfl) ?_
            refine pf_12_458 (kd_179 hLs47) (dxX12_shortests_2 8 rfl) ?_
            refine x_sto (fun s49 e50 => ?_)
            replace h := h s49 e50
            have hKs49 : kd s49 = kd σ := by rw [e50]; exact hKs47
            have hLs49 : Lay s49 := by rw [e50]; exact hLs47.si
            obtain ⟨x51, e52⟩ : ∃ y : Int32, y = l5 + 1 := ⟨_, rfl⟩
            replace h := h x51 e52
            refine x_iinc (v := x51) (dxX12_shortests_2 9 rfl) (i := 5) rfl (by rw [e52]; rfl) (Nat.le_of_ble_eq_true rfl) rfl rfl ?_
            refine x_goto (tgt := 27) (dxX12_shortests_2 10 rfl) (by decide) ?_
            refine x_mask [true, true, true, true, true, true, false] (L1 := [some (.ref 179), some (.int l1), some (.int l2), some (.int l3), some (.int l4), some (.int x51), none]) rfl ?_
            exact h
        · replace h := h.2 hc
          refine x_goto (tgt := 149) (dxX12_shortests_1 18 rfl) (by decide) ?_
          obtain ⟨x53, e54⟩ : ∃ y : Int32, y = l5 + 1 := ⟨_, rfl⟩
          replace h := h x53 e54
          refine x_iinc (v := x53) (dxX12_shortests_2 9 rfl) (i := 5) rfl (by rw [e54]; rfl) (Nat.le_of_ble_eq_true rfl) rfl rfl ?_
          refine x_goto (tgt := 27) (dxX12_shortests_2 10 rfl) (by decide) ?_
          refine x_mask [true, true, true, true, true, true, false] (L1 := [some (.ref 179), some (.int l1), some (.int l2), some (.int l3), some (.int l4), some (.int x53), none]) rfl ?_
          exact h
theorem vcX12_told0 {g : GV} {d : Nat} {P : Int32 → PS → Prop} {σ : PS} (hL : Lay σ) (p0 : Int32) (h : (145 ≤ (mi σ 179 63) → ∀ s1 : PS, s1 = si σ 179 0 1 → (¬ (mi s1 179 0) = 1 → (¬ p0 = 0 → (¬ p0 = 1 → (¬ p0 = 2 → P (mi s1 179 66) s1) ∧ (p0 = 2 → P (mi s1 179 65) s1)) ∧ (p0 = 1 → P (mi s1 179 64) s1)) ∧ (p0 = 0 → P (mi s1 179 63) s1)) ∧ ((mi s1 179 0) = 1 → P 0 s1)) ∧ (¬ 145 ≤ (mi σ 179 63) → ∀ s3 : PS, s3 = si σ 179 0 0 → (¬ (mi s3 179 0) = 1 → (¬ p0 = 0 → (¬ p0 = 1 → (¬ p0 = 2 → P (mi s3 179 66) s3) ∧ (p0 = 2 → P (mi s3 179 65) s3)) ∧ (p0 = 1 → P (mi s3 179 64) s3)) ∧ (p0 = 0 → P (mi s3 179 63) s3)) ∧ ((mi s3 179 0) = 1 → P 0 s3))) : CX12_told0 g d [.ref 179, .int p0] σ P := by
  refine x_entry (L := [some (.ref 179), some (.int p0)]) pn_12 (Nat.le_of_ble_eq_true rfl) ⟨0, rfl⟩ ?_
  show VX12_told0 g d P 0 [some (.ref 179), some (.int p0)] [] σ
  refine x_aload_n (i := 0) (dxX12_told0_0 0 rfl) rfl rfl ?_
  refine x_aload_n (i := 0) (dxX12_told0_0 1 rfl) rfl rfl ?_
  refine gf_12_455 (kd_179 hL) rfl (dxX12_told0_0 2 rfl) ?_
  refine x_sipush (v := 145) (dxX12_told0_0 3 rfl) rfl ?_
  refine x_icmp_ge (tgt := 15) (dxX12_told0_0 4 rfl) (by decide) (fun hc => ?_) (fun hc => ?_)
  · replace h := h.1 hc
    refine x_iconst (v := 1) (dxX12_told0_0 7 rfl) rfl ?_
    refine pf_12_184 (kd_179 hL) (dxX12_told0_0 8 rfl) ?_
    refine x_sto (fun s1 e2 => ?_)
    replace h := h s1 e2
    have hKs1 : kd s1 = kd σ := by rw [e2]; exact (rfl : kd σ = kd σ)
    have hLs1 : Lay s1 := by rw [e2]; exact hL.si
    refine x_aload_n (i := 0) (dxX12_told0_0 9 rfl) rfl rfl ?_
    refine gf_12_184 (kd_179 hLs1) rfl (dxX12_told0_0 10 rfl) ?_
    refine x_iconst (v := 1) (dxX12_told0_0 11 rfl) rfl ?_
    refine x_icmp_ne (tgt := 31) (dxX12_told0_0 12 rfl) (by decide) (fun hc => ?_) (fun hc => ?_)
    · replace h := h.1 hc
      refine x_iload_n (i := 1) (dxX12_told0_0 15 rfl) rfl rfl ?_
      refine x_if_ne (tgt := 42) (dxX12_told0_0 16 rfl) (by decide) (fun hc => ?_) (fun hc => ?_)
      · replace h := h.1 hc
        refine x_iload_n (i := 1) (dxX12_told0_0 20 rfl) rfl rfl ?_
        refine x_iconst (v := 1) (dxX12_told0_0 21 rfl) rfl ?_
        refine x_icmp_ne (tgt := 54) (dxX12_told0_0 22 rfl) (by decide) (fun hc => ?_) (fun hc => ?_)
        · replace h := h.1 hc
          refine x_iload_n (i := 1) (dxX12_told0_0 26 rfl) rfl rfl ?_
          refine x_iconst (v := 2) (dxX12_told0_0 27 rfl) rfl ?_
          refine x_icmp_ne (tgt := 66) (dxX12_told0_0 28 rfl) (by decide) (fun hc => ?_) (fun hc => ?_)
          · replace h := h.1 hc
            refine x_aload_n (i := 0) (dxX12_told0_1 0 rfl) rfl rfl ?_
            refine gf_12_464 (kd_179 hLs1) rfl (dxX12_told0_1 1 rfl) ?_
            exact x_iret (ty := .int) rfl rfl (dxX12_told0_1 2 rfl) ⟨_, rfl, h⟩
          · replace h := h.2 hc
            refine x_aload_n (i := 0) (dxX12_told0_0 29 rfl) rfl rfl ?_
            refine gf_12_461 (kd_179 hLs1) rfl (dxX12_told0_0 30 rfl) ?_
            refine x_goto (tgt := 70) (dxX12_told0_0 31 rfl) (by decide) ?_
            exact x_iret (ty := .int) rfl rfl (dxX12_told0_1 2 rfl) ⟨_, rfl, h⟩
        · replace h := h.2 hc
          refine x_aload_n (i := 0) (dxX12_told0_0 23 rfl) rfl rfl ?_
          refine gf_12_458 (kd_179 hLs1) rfl (dxX12_told0_0 24 rfl) ?_
          refine x_goto (tgt := 70) (dxX12_told0_0 25 rfl) (by decide) ?_
          exact x_iret (ty := .int) rfl rfl (dxX12_told0_1 2 rfl) ⟨_, rfl, h⟩
      · replace h := h.2 hc
        refine x_aload_n (i := 0) (dxX12_told0_0 17 rfl) rfl rfl ?_
        refine gf_12_455 (kd_179 hLs1) rfl (dxX12_told0_0 18 rfl) ?_
        refine x_goto (tgt := 70) (dxX12_told0_0 19 rfl) (by decide) ?_
        exact x_iret (ty := .int) rfl rfl (dxX12_told0_1 2 rfl) ⟨_, rfl, h⟩
    · replace h := h.2 hc
      refine x_iconst (v := 0) (dxX12_told0_0 13 rfl) rfl ?_
      refine x_goto (tgt := 70) (dxX12_told0_0 14 rfl) (by decide) ?_
      exact x_iret (ty := .int) rfl rfl (dxX12_told0_1 2 rfl) ⟨_, rfl, h⟩
  · replace h := h.2 hc
    refine x_iconst (v := 0) (dxX12_told0_0 5 rfl) rfl ?_
    refine x_goto (tgt := 16) (dxX12_told0_0 6 rfl) (by decide) ?_
    refine pf_12_184 (kd_179 hL) (dxX12_told0_0 8 rfl) ?_
    refine x_sto (fun s3 e4 => ?_)
    replace h := h s3 e4
    have hKs3 : kd s3 = kd σ := by rw [e4]; exact (rfl : kd σ = kd σ)
    have hLs3 : Lay s3 := by rw [e4]; exact hL.si
    refine x_aload_n (i := 0) (dxX12_told0_0 9 rfl) rfl rfl ?_
    refine gf_12_184 (kd_179 hLs3) rfl (dxX12_told0_0 10 rfl) ?_
    refine x_iconst (v := 1) (dxX12_told0_0 11 rfl) rfl ?_
    refine x_icmp_ne (tgt := 31) (dxX12_told0_0 12 rfl) (by decide) (fun hc => ?_) (fun hc => ?_)
    · replace h := h.1 hc
      refine x_iload_n (i := 1) (dxX12_told0_0 15 rfl) rfl rfl ?_
      refine x_if_ne (tgt := 42) (dxX12_told0_0 16 rfl) (by decide) (fun hc => ?_) (fun hc => ?_)
      · replace h := h.1 hc
        refine x_iload_n (i := 1) (dxX12_told0_0 20 rfl) rfl rfl ?_
        refine x_iconst (v := 1) (dxX12_told0_0 21 rfl) rfl ?_
        refine x_icmp_ne (tgt := 54) (dxX12_told0_0 22 rfl) (by decide) (fun hc => ?_) (fun hc => ?_)
        · replace h := h.1 hc
          refine x_iload_n (i := 1) (dxX12_told0_0 26 rfl) rfl rfl ?_
          refine x_iconst (v := 2) (dxX12_told0_0 27 rfl) rfl ?_
          refine x_icmp_ne (tgt := 66) (dxX12_told0_0 28 rfl) (by decide) (fun hc => ?_) (fun hc => ?_)
          · replace h := h.1 hc
            refine x_aload_n (i := 0) (dxX12_told0_1 0 rfl) rfl rfl ?_
            refine gf_12_464 (kd_179 hLs3) rfl (dxX12_told0_1 1 rfl) ?_
            exact x_iret (ty := .int) rfl rfl (dxX12_told0_1 2 rfl) ⟨_, rfl, h⟩
          · replace h := h.2 hc
            refine x_aload_n (i := 0) (dxX12_told0_0 29 rfl) rfl rfl ?_
            refine gf_12_461 (kd_179 hLs3) rfl (dxX12_told0_0 30 rfl) ?_
            refine x_goto (tgt := 70) (dxX12_told0_0 31 rfl) (by decide) ?_
            exact x_iret (ty := .int) rfl rfl (dxX12_told0_1 2 rfl) ⟨_, rfl, h⟩
        · replace h := h.2 hc
          refine x_aload_n (i := 0) (dxX12_told0_0 23 rfl) rfl rfl ?_
          refine gf_12_458 (kd_179 hLs3) rfl (dxX12_told0_0 24 rfl) ?_
          refine x_goto (tgt := 70) (dxX12_told0_0 25 rfl) (by decide) ?_
          exact x_iret (ty := .int) rfl rfl (dxX12_told0_1 2 rfl) ⟨_, rfl, h⟩
      · replace h := h.2 hc
        refine x_aload_n (i := 0) (dxX12_told0_0 17 rfl) rfl rfl ?_
        refine gf_12_455 (kd_179 hLs3) rfl (dxX12_told0_0 18 rfl) ?_
        refine x_goto (tgt := 70) (dxX12_told0_0 19 rfl) (by decide) ?_
        exact x_iret (ty := .int) rfl rfl (dxX12_told0_1 2 rfl) ⟨_, rfl, h⟩
    · replace h := h.2 hc
      refine x_iconst (v := 0) (dxX12_told0_0 13 rfl) rfl ?_
      refine x_goto (tgt := 70) (dxX12_told0_0 14 rfl) (by decide) ?_
      exact x_iret (ty := .int) rfl rfl (dxX12_told0_1 2 rfl) ⟨_, rfl, h⟩
