theorem vcX8_put {g : GV} {d : Nat} {P : PS → Prop} {σ : PS} (hL : Lay σ) (p0 : Int64) (h : VX8_put g d P 3 [some (.ref 11), some (.long p0), none, some (.int 56), none, none] [] σ) : CX8_put g d [.ref 11, .long p0] σ P := by
  refine x_entry (L := [some (.ref 11), some (.long p0), none, none, none, none]) pn_8 (Nat.le_of_ble_eq_true rfl) ⟨3, rfl⟩ ?_
  show VX8_put g d P 0 [some (.ref 11), some (.long p0), none, none, none, none] [] σ
  refine x_bipush (v := 56) (dxX8_put_0 0 rfl) rfl ?_
  refine x_istore_n (i := 3) (dxX8_put_0 1 rfl) rfl (Nat.le_of_ble_eq_true rfl) rfl rfl ?_
  exact h
theorem vcX8_put_3 {g : GV} {d : Nat} {P : PS → Prop} {σ : PS} (hL : Lay σ) (l1 : Int64) (l3 : Int32) (h : (l3 < 0 → P σ) ∧ (¬ l3 < 0 → ∀ x1 : Int32, x1 = Int64.toInt32 ((jlushr l1 l3) &&& 255) → (x1 = 10 → (1000 ≤ (mi σ 11 1) → ∀ x3 : Int32, x3 = l3 + (-8) → VX8_put g d P 3 [some (.ref 11), some (.long l1), none, some (.int x3), none, none] [] σ) ∧ (¬ 1000 ≤ (mi σ 11 1) → vp_in (mi σ 11 1) 1000 ∧ ∀ s6 : PS, s6 = si σ 12 (Int32.toNatClampNeg (mi σ 11 1)) (vp_nar .char (ji2c x1)) → ∀ s8 : PS, s8 = si s6 11 1 ((mi s6 11 1) + 1) → ∀ x10 : Int32, x10 = l3 + (-8) → VX8_put g d P 3 [some (.ref 11), some (.long l1), none, some (.int x10), none, none] [] s8)) ∧ (¬ x1 = 10 → (x1 < 32 → ∀ x12 : Int32, x12 = l3 + (-8) → VX8_put g d P 3 [some (.ref 11), some (.long l1), none, some (.int x12), none, none] [] σ) ∧ (¬ x1 < 32 → (126 < x1 → ∀ x14 : Int32, x14 = l3 + (-8) → VX8_put g d P 3 [some (.ref 11), some (.long l1), none, some (.int x14), none, none] [] σ) ∧ (¬ 126 < x1 → (1000 ≤ (mi σ 11 1) → ∀ x16 : Int32, x16 = l3 + (-8) → VX8_put g d P 3 [some (.ref 11), some (.long l1), none, some (.int x16), none, none] [] σ) ∧ (¬ 1000 ≤ (mi σ 11 1) → vp_in (mi σ 11 1) 1000 ∧ ∀ s19 : PS, s19 = si σ 12 (Int32.toNatClampNeg (mi σ 11 1)) (vp_nar .char (ji2c x1)) → ∀ s21 : PS, s21 = si s19 11 1 ((mi s19 11 1) + 1) → ∀ x23 : Int32, x23 = l3 + (-8) → VX8_put g d P 3 [some (.ref 11), some (.long l1), none, some (.int x23), none, none] [] s21)))))) : VX8_put g d P 3 [some (.ref 11), some (.long l1), none, some (.int l3), none, none] [] σ := by
  refine x_iload_n (i := 3) (dxX8_put_0 2 rfl) rfl rfl ?_
  refine x_if_lt (tgt := 88) (dxX8_put_0 3 rfl) (by decide) (fun hc => ?_) (fun hc => ?_)
  · replace h := h.1 hc
    exact x_vret rfl (dxX8_put_1 13 rfl) ⟨rfl, h⟩
  · replace h := h.2 hc
    refine x_lload_n (i := 1) (dxX8_put_0 4 rfl) rfl rfl ?_
    refine x_iload_n (i := 3) (dxX8_put_0 5 rfl) rfl rfl ?_
    refine x_lushr (dxX8_put_0 6 rfl) ?_
    refine x_ldc2 (dxX8_put_0 7 rfl) gw_670 ?_
    refine x_land (dxX8_put_0 8 rfl) ?_
    refine x_l2i (dxX8_put_0 9 rfl) ?_
    refine x_topi (fun x1 e2 => ?_)
    replace h := h x1 e2
    refine x_istore (dxX8_put_0 10 rfl) (Nat.le_of_ble_eq_true rfl) rfl rfl ?_
    refine x_iload (dxX8_put_0 11 rfl) rfl ?_
    refine x_bipush (v := 10) (dxX8_put_0 12 rfl) rfl ?_
    refine x_icmp_eq (tgt := 38) (dxX8_put_0 13 rfl) (by decide) (fun hc => ?_) (fun hc => ?_)
    · replace h := h.1 hc
      refine x_iconst (v := 1) (dxX8_put_0 20 rfl) rfl ?_
      refine x_goto (tgt := 43) (dxX8_put_0 21 rfl) (by decide) ?_
      refine x_istore (dxX8_put_0 23 rfl) (Nat.le_of_ble_eq_true rfl) rfl rfl ?_
      refine x_iload (dxX8_put_0 24 rfl) rfl ?_
      refine x_if_eq (tgt := 82) (dxX8_put_0 25 rfl) (by decide) (fun hc => ?_) (fun hc => ?_)
      · exact absurd hc (by decide)
      · clear hc
        refine x_aload_n (i := 0) (dxX8_put_0 26 rfl) rfl rfl ?_
        refine gf_8_13 (kd_11 hL) rfl (dxX8_put_0 27 rfl) ?_
        refine x_sipush (v := 1000) (dxX8_put_0 28 rfl) rfl ?_
        refine x_icmp_ge (tgt := 82) (dxX8_put_0 29 rfl) (by decide) (fun hc => ?_) (fun hc => ?_)
        · replace h := h.1 hc
          obtain ⟨x3, e4⟩ : ∃ y : Int32, y = l3 + (-8) := ⟨_, rfl⟩
          replace h := h x3 e4
          refine x_iinc (v := x3) (dxX8_put_1 11 rfl) (i := 3) rfl (by rw [e4]; rfl) (Nat.le_of_ble_eq_true rfl) rfl rfl ?_
          refine x_goto (tgt := 3) (dxX8_put_1 12 rfl) (by decide) ?_
          refine x_mask [true, true, false, true, false, false] (L1 := [some (.ref 11), some (.long l1), none, some (.int x3), none, none]) rfl ?_
          exact h
        · replace h := h.2 hc
          refine x_aload_n (i := 0) (dxX8_put_0 30 rfl) rfl rfl ?_
          refine gf_8_9 (kd_11 hL) (rv_11_0 hL) (dxX8_put_0 31 rfl) ?_
          refine x_aload_n (i := 0) (dxX8_put_1 0 rfl) rfl rfl ?_
          refine gf_8_13 (kd_11 hL) rfl (dxX8_put_1 1 rfl) ?_
          refine x_iload (dxX8_put_1 2 rfl) rfl ?_
          refine x_i2c (dxX8_put_1 3 rfl) ?_
          obtain ⟨hi5, h⟩ := h
          refine x_cast (kd_12 hL) hi5 (dxX8_put_1 4 rfl) ?_
          refine x_sto (fun s6 e7 => ?_)
          replace h := h s6 e7
          have hKs6 : kd s6 = kd σ := by rw [e7]; exact (rfl : kd σ = kd σ)
          have hLs6 : Lay s6 := by rw [e7]; exact hL.si
          refine x_aload_n (i := 0) (dxX8_put_1 5 rfl) rfl rfl ?_
          refine x_dup (dxX8_put_1 6 rfl) rfl ?_
          refine gf_8_13 (kd_11 hLs6) rfl (dxX8_put_1 7 rfl) ?_
          refine x_iconst (v := 1) (dxX8_put_1 8 rfl) rfl ?_
          refine x_iadd (dxX8_put_1 9 rfl) ?_
          refine pf_8_13 (kd_11 hLs6) (dxX8_put_1 10 rfl) ?_
          refine x_sto (fun s8 e9 => ?_)
          replace h := h s8 e9
          have hKs8 : kd s8 = kd σ := by rw [e9]; exact hKs6
          have hLs8 : Lay s8 := by rw [e9]; exact hLs6.si
          obtain ⟨x10, e11⟩ : ∃ y : Int32, y = l3 + (-8) := ⟨_, rfl⟩
          replace h := h x10 e11
          refine x_iinc (v := x10) (dxX8_put_1 11 rfl) (i := 3) rfl (by rw [e11]; rfl) (Nat.le_of_ble_eq_true rfl) rfl rfl ?_
          refine x_goto (tgt := 3) (dxX8_put_1 12 rfl) (by decide) ?_
          refine x_mask [true, true, false, true, false, false] (L1 := [some (.ref 11), some (.long l1), none, some (.int x10), none, none]) rfl ?_
          exact h
    · replace h := h.2 hc
      refine x_iload (dxX8_put_0 14 rfl) rfl ?_
      refine x_bipush (v := 32) (dxX8_put_0 15 rfl) rfl ?_
      refine x_icmp_lt (tgt := 42) (dxX8_put_0 16 rfl) (by decide) (fun hc => ?_) (fun hc => ?_)
      · replace h := h.1 hc
        refine x_iconst (v := 0) (dxX8_put_0 22 rfl) rfl ?_
        refine x_istore (dxX8_put_0 23 rfl) (Nat.le_of_ble_eq_true rfl) rfl rfl ?_
        refine x_iload (dxX8_put_0 24 rfl) rfl ?_
        refine x_if_eq (tgt := 82) (dxX8_put_0 25 rfl) (by decide) (fun hc => ?_) (fun hc => ?_)
        · clear hc
          obtain ⟨x12, e13⟩ : ∃ y : Int32, y = l3 + (-8) := ⟨_, rfl⟩
          replace h := h x12 e13
          refine x_iinc (v := x12) (dxX8_put_1 11 rfl) (i := 3) rfl (by rw [e13]; rfl) (Nat.le_of_ble_eq_true rfl) rfl rfl ?_
          refine x_goto (tgt := 3) (dxX8_put_1 12 rfl) (by decide) ?_
          refine x_mask [true, true, false, true, false, false] (L1 := [some (.ref 11), some (.long l1), none, some (.int x12), none, none]) rfl ?_
          exact h
        · exact absurd hc (by decide)
      · replace h := h.2 hc
        refine x_iload (dxX8_put_0 17 rfl) rfl ?_
        refine x_bipush (v := 126) (dxX8_put_0 18 rfl) rfl ?_
        refine x_icmp_gt (tgt := 42) (dxX8_put_0 19 rfl) (by decide) (fun hc => ?_) (fun hc => ?_)
        · replace h := h.1 hc
          refine x_iconst (v := 0) (dxX8_put_0 22 rfl) rfl ?_
          refine x_istore (dxX8_put_0 23 rfl) (Nat.le_of_ble_eq_true rfl) rfl rfl ?_
          refine x_iload (dxX8_put_0 24 rfl) rfl ?_
          refine x_if_eq (tgt := 82) (dxX8_put_0 25 rfl) (by decide) (fun hc => ?_) (fun hc => ?_)
          · clear hc
            obtain ⟨x14, e15⟩ : ∃ y : Int32, y = l3 + (-8) := ⟨_, rfl⟩
            replace h := h x14 e15
            refine x_iinc (v := x14) (dxX8_put_1 11 rfl) (i := 3) rfl (by rw [e15]; rfl) (Nat.le_of_ble_eq_true rfl) rfl rfl ?_
            refine x_goto (tgt := 3) (dxX8_put_1 12 rfl) (by decide) ?_
            refine x_mask [true, true, false, true, false, false] (L1 := [some (.ref 11), some (.long l1), none, some (.int x14), none, none]) rfl ?_
            exact h
          · exact absurd hc (by decide)
        · replace h := h.2 hc
          refine x_iconst (v := 1) (dxX8_put_0 20 rfl) rfl ?_
          refine x_goto (tgt := 43) (dxX8_put_0 21 rfl) (by decide) ?_
          refine x_istore (dxX8_put_0 23 rfl) (Nat.le_of_ble_eq_true rfl) rfl rfl ?_
          refine x_iload (dxX8_put_0 24 rfl) rfl ?_
          refine x_if_eq (tgt := 82) (dxX8_put_0 25 rfl) (by decide) (fun hc => ?_) (fun hc => ?_)
          · exact absurd hc (by decide)
          · clear hc
            refine x_aload_n (i := 0) (dxX8_put_0 26 rfl) rfl rfl ?_
            refine gf_8_13 (kd_11 hL) rfl (dxX8_put_0 27 rfl) ?_
            refine x_sipush (v := 1000) (dxX8_put_0 28 rfl) rfl ?_
            refine x_icmp_ge (tgt := 82) (dxX8_put_0 29 rfl) (by decide) (fun hc => ?_) (fun hc => ?_)
            · replace h := h.1 hc
              obtain ⟨x16, e17⟩ : ∃ y : Int32, y = l3 + (-8) := ⟨_, rfl⟩
              replace h := h x16 e17
              refine x_iinc (v := x16) (dxX8_put_1 11 rfl) (i := 3) rfl (by rw [e17]; rfl) (Nat.le_of_ble_eq_true rfl) rfl rfl ?_
              refine x_goto (tgt := 3) (dxX8_put_1 12 rfl) (by decide) ?_
              refine x_mask [true, true, false, true, false, false] (L1 := [some (.ref 11), some (.long l1), none, some (.int x16), none, none]) rfl ?_
              exact h
            · replace h := h.2 hc
              refine x_aload_n (i := 0) (dxX8_put_0 30 rfl) rfl rfl ?_
              refine gf_8_9 (kd_11 hL) (rv_11_0 hL) (dxX8_put_0 31 rfl) ?_
              refine x_aload_n (i := 0) (dxX8_put_1 0 rfl) rfl rfl ?_
              refine gf_8_13 (kd_11 hL) rfl (dxX8_put_1 1 rfl) ?_
              refine x_iload (dxX8_put_1 2 rfl) rfl ?_
              refine x_i2c (dxX8_put_1 3 rfl) ?_
              obtain ⟨hi18, h⟩ := h
              refine x_cast (kd_12 hL) hi18 (dxX8_put_1 4 rfl) ?_
              refine x_sto (fun s19 e20 => ?_)
              replace h := h s19 e20
              have hKs19 : kd s19 = kd σ := by rw [e20]; exact (rfl : kd σ = kd σ)
              have hLs19 : Lay s19 := by rw [e20]; exact hL.si
              refine x_aload_n (i := 0) (dxX8_put_1 5 rfl) rfl rfl ?_
              refine x_dup (dxX8_put_1 6 rfl) rfl ?_
              refine gf_8_13 (kd_11 hLs19) rfl (dxX8_put_1 7 rfl) ?_
              refine x_iconst (v := 1) (dxX8_put_1 8 rfl) rfl ?_
              refine x_iadd (dxX8_put_1 9 rfl) ?_
              refine pf_8_13 (kd_11 hLs19) (dxX8_put_1 10 rfl) ?_
              refine x_sto (fun s21 e22 => ?_)
              replace h := h s21 e22
              have hKs21 : kd s21 = kd σ := by rw [e22]; exact hKs19
              have hLs21 : Lay s21 := by rw [e22]; exact hLs19.si
              obtain ⟨x23, e24⟩ : ∃ y : Int32, y = l3 + (-8) := ⟨_, rfl⟩
              replace h := h x23 e24
              refine x_iinc (v := x23) (dxX8_put_1 11 rfl) (i := 3) rfl (by rw [e24]; rfl) (Nat.le_of_ble_eq_true rfl) rfl rfl ?_
              refine x_goto (tgt := 3) (dxX8_put_1 12 rfl) (by decide) ?_
              refine x_mask [true, true, false, true, false, false] (L1 := [some (.ref 11), some (.long l1), none, some (.int x23), none, none]) rfl ?_
              exact h
theorem vcX8_cut {g : GV} {d : Nat} {P : PS → Prop} {σ : PS} (hL : Lay σ)  (h : ∀ s1 : PS, s1 = si σ 11 5 0 → VX8_cut g (d + 1) P 9 [some (.ref 11), some (.int 0), some (.int 0)] [] s1) : CX8_cut g (d + 1) [.ref 11] σ P := by
  refine x_entry (L := [some (.ref 11), none, none]) pn_8 (Nat.le_of_ble_eq_true rfl) ⟨2, rfl⟩ ?_
  show VX8_cut g (d + 1) P 0 [some (.ref 11), none, none] [] σ
  refine x_aload_n (i := 0) (dxX8_cut_0 0 rfl) rfl rfl ?_
  refine x_iconst (v := 0) (dxX8_cut_0 1 rfl) rfl ?_
  refine pf_8_28 (kd_11 hL) (dxX8_cut_0 2 rfl) ?_
  refine x_sto (fun s1 e2 => ?_)
  replace h := h s1 e2
  have hKs1 : kd s1 = kd σ := by rw [e2]; exact (rfl : kd σ = kd σ)
  have hLs1 : Lay s1 := by rw [e2]; exact hL.si
  refine x_iconst (v := 0) (dxX8_cut_0 3 rfl) rfl ?_
  refine x_istore_n (i := 1) (dxX8_cut_0 4 rfl) rfl (Nat.le_of_ble_eq_true rfl) rfl rfl ?_
  refine x_iconst (v := 0) (dxX8_cut_0 5 rfl) rfl ?_
  refine x_istore_n (i := 2) (dxX8_cut_0 6 rfl) rfl (Nat.le_of_ble_eq_true rfl) rfl rfl ?_
  exact h
theorem vcX8_cut_9 {g : GV} {d : Nat} {P : PS → Prop} {σ : PS} (hL : Lay σ) (l1 : Int32) (l2 : Int32) (h : ((mi σ 11 1) ≤ l2 → vp_in (mi σ 11 5) 1001 ∧ ∀ s4 : PS, s4 = si σ 13 (Int32.toNatClampNeg (mi σ 11 5)) 0 → vp_in (mi s4 11 5) 1001 ∧ ∀ s7 : PS, s7 = si s4 14 (Int32.toNatClampNeg (mi s4 11 5)) (mi s4 11 1) → P s7) ∧ (¬ (mi σ 11 1) ≤ l2 → (l2 < l1 → ∀ x9 : Int32, x9 = l2 + 1 → VX8_cut g (d + 1) P 9 [some (.ref 11), some (.int l1), some (.int x9)] [] σ) ∧ (¬ l2 < l1 → vp_in l2 1000 ∧ CX8_isBlank g d [.int (mi σ 12 (Int32.toNatClampNeg l2))] σ (fun (v13 : Int32) (s12 : PS) => Fr σ s12 ∧ (¬ v13 = 0 → ∀ x14 : Int32, x14 = l2 + 1 → VX8_cut g (d + 1) P 9 [some (.ref 11), some (.int l1), some (.int x14)] [] s12) ∧ (v13 = 0 → CX8_endOfRun g d [.ref 11, .int l2] s12 (fun (v17 : Int32) (s16 : PS) => Fr s12 s16 ∧ CX8_keep g d [.ref 11, .int l2, .int v17] s16 (fun (s18 : PS) => Fr s16 s18 ∧ ∀ x20 : Int32, x20 = l2 + 1 → VX8_cut g (d + 1) P 9 [some (.ref 11), some (.int v17), some (.int x20)] [] s18))))))) : VX8_cut g (d + 1) P 9 [some (.ref 11), some (.int l1), some (.int l2)] [] σ := by
  refine x_iload_n (i := 2) (dxX8_cut_0 7 rfl) rfl rfl ?_
  refine x_aload_n (i := 0) (dxX8_cut_0 8 rfl) rfl rfl ?_
  refine gf_8_13 (kd_11 hL) rfl (dxX8_cut_0 9 rfl) ?_
  refine x_icmp_ge (tgt := 52) (dxX8_cut_0 10 rfl) (by decide) (fun hc => ?_) (fun hc => ?_)
  · replace h := h.1 hc
    refine x_aload_n (i := 0) (dxX8_cut_0 30 rfl) rfl rfl ?_
    refine gf_8_17 (kd_11 hL) (rv_11_2 hL) (dxX8_cut_0 31 rfl) ?_
    refine x_aload_n (i := 0) (dxX8_cut_1 0 rfl) rfl rfl ?_
    refine gf_8_28 (kd_11 hL) rfl (dxX8_cut_1 1 rfl) ?_
    refine x_iconst (v := 0) (dxX8_cut_1 2 rfl) rfl ?_
    obtain ⟨hi3, h⟩ := h
    refine x_iast (kd_13 hL) hi3 (dxX8_cut_1 3 rfl) ?_
    refine x_sto (fun s4 e5 => ?_)
    replace h := h s4 e5
    have hKs4 : kd s4 = kd σ := by rw [e5]; exact (rfl : kd σ = kd σ)
    have hLs4 : Lay s4 := by rw [e5]; exact hL.si
    refine x_aload_n (i := 0) (dxX8_cut_1 4 rfl) rfl rfl ?_
    refine gf_8_21 (kd_11 hLs4) (rv_11_3 hLs4) (dxX8_cut_1 5 rfl) ?_
    refine x_aload_n (i := 0) (dxX8_cut_1 6 rfl) rfl rfl ?_
    refine gf_8_28 (kd_11 hLs4) rfl (dxX8_cut_1 7 rfl) ?_
    refine x_aload_n (i := 0) (dxX8_cut_1 8 rfl) rfl rfl ?_
    refine gf_8_13 (kd_11 hLs4) rfl (dxX8_cut_1 9 rfl) ?_
    obtain ⟨hi6, h⟩ := h
    refine x_iast (kd_14 hLs4) hi6 (dxX8_cut_1 10 rfl) ?_
    refine x_sto (fun s7 e8 => ?_)
    replace h := h s7 e8
    have hKs7 : kd s7 = kd σ := by rw [e8]; exact hKs4
    have hLs7 : Lay s7 := by rw [e8]; exact hLs4.si
    exact x_vret rfl (dxX8_cut_1 11 rfl) ⟨rfl, h⟩
  · replace h := h.2 hc
    refine x_iload_n (i := 2) (dxX8_cut_0 11 rfl) rfl rfl ?_
    refine x_iload_n (i := 1) (dxX8_cut_0 12 rfl) rfl rfl ?_
    refine x_icmp_lt (tgt := 46) (dxX8_cut_0 13 rfl) (by decide) (fun hc => ?_) (fun hc => ?_)
    · replace h := h.1 hc
      obtain ⟨x9, e10⟩ : ∃ y : Int32, y = l2 + 1 := ⟨_, rfl⟩
      replace h := h x9 e10
      refine x_iinc (v := x9) (dxX8_cut_0 28 rfl) (i := 2) rfl (by rw [e10]; rfl) (Nat.le_of_ble_eq_true rfl) rfl rfl ?_
      refine x_goto (tgt := 9) (dxX8_cut_0 29 rfl) (by decide) ?_
      exact h
    · replace h := h.2 hc
      refine x_aload_n (i := 0) (dxX8_cut_0 14 rfl) rfl rfl ?_
      refine gf_8_9 (kd_11 hL) (rv_11_0 hL) (dxX8_cut_0 15 rfl) ?_
      refine x_iload_n (i := 2) (dxX8_cut_0 16 rfl) rfl rfl ?_
      obtain ⟨hi11, h⟩ := h
      refine x_cald (kd_12 hL) hi11 (dxX8_cut_0 17 rfl) ?_
      refine cl_8_33 (Nat.le_of_ble_eq_true rfl) (dxX8_cut_0 18 rfl) h (fun v13 s12 h => ?_) (Nat.le_refl _) (Nat.le_refl _)
      obtain ⟨hFs12, h⟩ := h
      have hKs12 : kd s12 = kd σ := hFs12.1.trans (rfl : kd σ = kd σ)
      have hLs12 : Lay s12 := hL.fr hFs12
      refine x_if_ne (tgt := 46) (dxX8_cut_0 19 rfl) (by decide) (fun hc => ?_) (fun hc => ?_)
      · replace h := h.1 hc
        obtain ⟨x14, e15⟩ : ∃ y : Int32, y = l2 + 1 := ⟨_, rfl⟩
        replace h := h x14 e15
        refine x_iinc (v := x14) (dxX8_cut_0 28 rfl) (i := 2) rfl (by rw [e15]; rfl) (Nat.le_of_ble_eq_true rfl) rfl rfl ?_
        refine x_goto (tgt := 9) (dxX8_cut_0 29 rfl) (by decide) ?_
        exact h
      · replace h := h.2 hc
        refine x_aload_n (i := 0) (dxX8_cut_0 20 rfl) rfl rfl ?_
        refine x_iload_n (i := 2) (dxX8_cut_0 21 rfl) rfl rfl ?_
        refine cl_8_37 (kd_11 hLs12) (Nat.le_of_ble_eq_true rfl) (dxX8_cut_0 22 rfl) h (fun v17 s16 h => ?_) (Nat.le_refl _) (Nat.le_refl _)
        obtain ⟨hFs16, h⟩ := h
        have hKs16 : kd s16 = kd σ := hFs16.1.trans hKs12
        have hLs16 : Lay s16 := hLs12.fr hFs16
        refine x_istore_n (i := 1) (dxX8_cut_0 23 rfl) rfl (Nat.le_of_ble_eq_true rfl) rfl rfl ?_
        refine x_aload_n (i := 0) (dxX8_cut_0 24 rfl) rfl rfl ?_
        refine x_iload_n (i := 2) (dxX8_cut_0 25 rfl) rfl rfl ?_
        refine x_iload_n (i := 1) (dxX8_cut_0 26 rfl) rfl rfl ?_
        refine cl_8_41 (kd_11 hLs16) (Nat.le_of_ble_eq_true rfl) (dxX8_cut_0 27 rfl) h (fun s18 h => ?_) (Nat.le_refl _) (Nat.le_refl _)
        obtain ⟨hFs18, h⟩ := h
        have hKs18 : kd s18 = kd σ := hFs18.1.trans hKs16
        have hLs18 : Lay s18 := hLs16.fr hFs18
        obtain ⟨x20, e21⟩ : ∃ y : Int32, y = l2 + 1 := ⟨_, rfl⟩
        replace h := h x20 e21
        refine x_iinc (v := x20) (dxX8_cut_0 28 rfl) (i := 2) rfl (by rw [e21]; rfl) (Nat.le_of_ble_eq_true rfl) rfl rfl ?_
        refine x_goto (tgt := 9) (dxX8_cut_0 29 rfl) (by decide) ?_
        exact h
theorem vcX8_keep {g : GV} {d : Nat} {P : PS → Prop} {σ : PS} (hL : Lay σ) (p0 : Int32) (p1 : Int32) (h : vp_in p0 1000 ∧ CX8_isLetter g d [.int (mi σ 12 (Int32.toNatClampNeg p0))] σ (fun (v3 : Int32) (s2 : PS) => Fr σ s2 ∧ (v3 = 0 → VX8_keep g (d + 1) P 68 [some (.ref 11), some (.int p0), some (.int p1), some (.long 0), none, none] [] s2) ∧ (¬ v3 = 0 → (8 < (p1 - p0) → VX8_keep g (d + 1) P 68 [some (.ref 11), some (.int p0), some (.int p1), some (.long 0), none, none] [] s2) ∧ (¬ 8 < (p1 - p0) → VX8_keep g (d + 1) P 25 [some (.ref 11), some (.int p0), some (.int p1), some (.long 0), none, some (.int p0)] [] s2)))) : CX8_keep g (d + 1) [.ref 11, .int p0, .int p1] σ P := by
  refine x_entry (L := [some (.ref 11), some (.int p0), some (.int p1), none, none, none]) pn_8 (Nat.le_of_ble_eq_true rfl) ⟨3, rfl⟩ ?_
  show VX8_keep g (d + 1) P 0 [some (.ref 11), some (.int p0), some (.int p1), none, none, none] [] σ
  refine x_lconst (v := 0) (dxX8_keep_0 0 rfl) rfl ?_
  refine x_lstore_n (i := 3) (dxX8_keep_0 1 rfl) rfl (Nat.le_of_ble_eq_true rfl) rfl rfl ?_
  refine x_aload_n (i := 0) (dxX8_keep_0 2 rfl) rfl rfl ?_
  refine gf_8_9 (kd_11 hL) (rv_11_0 hL) (dxX8_keep_0 3 rfl) ?_
  refine x_iload_n (i := 1) (dxX8_keep_0 4 rfl) rfl rfl ?_
  obtain ⟨hi1, h⟩ := h
  refine x_cald (kd_12 hL) hi1 (dxX8_keep_0 5 rfl) ?_
  refine cl_8_45 (Nat.le_of_ble_eq_true rfl) (dxX8_keep_0 6 rfl) h (fun v3 s2 h => ?_) (Nat.le_refl _) (Nat.le_refl _)
  obtain ⟨hFs2, h⟩ := h
  have hKs2 : kd s2 = kd σ := hFs2.1.trans (rfl : kd σ = kd σ)
  have hLs2 : Lay s2 := hL.fr hFs2
  refine x_if_eq (tgt := 68) (dxX8_keep_0 7 rfl) (by decide) (fun hc => ?_) (fun hc => ?_)
  · replace h := h.1 hc
    exact h
  · replace h := h.2 hc
    refine x_iload_n (i := 2) (dxX8_keep_0 8 rfl) rfl rfl ?_
    refine x_iload_n (i := 1) (dxX8_keep_0 9 rfl) rfl rfl ?_
    refine x_isub (dxX8_keep_0 10 rfl) ?_
    refine x_bipush (v := 8) (dxX8_keep_0 11 rfl) rfl ?_
    refine x_icmp_gt (tgt := 68) (dxX8_keep_0 12 rfl) (by decide) (fun hc => ?_) (fun hc => ?_)
    · replace h := h.1 hc
      exact h
    · replace h := h.2 hc
      refine x_iload_n (i := 1) (dxX8_keep_0 13 rfl) rfl rfl ?_
      refine x_istore (dxX8_keep_0 14 rfl) (Nat.le_of_ble_eq_true rfl) rfl rfl ?_
      exact h
theorem vcX8_keep_68 {g : GV} {d : Nat} {P : PS → Prop} {σ : PS} (hL : Lay σ) (l1 : Int32) (l2 : Int32) (l3 : Int64) (h : vp_in l1 1000 ∧ CX8_isDigit g d [.int (mi σ 12 (Int32.toNatClampNeg l1))] σ (fun (v6 : Int32) (s5 : PS) => Fr σ s5 ∧ (v6 = 0 → vp_in l1 1000 ∧ CX8_isSign g d [.int (mi s5 12 (Int32.toNatClampNeg l1))] s5 (fun (v9 : Int32) (s8 : PS) => Fr s5 s8 ∧ (v9 = 0 → vp_in (mi s5 11 5) 1001 ∧ ∀ s11 : PS, s11 = si s8 13 (Int32.toNatClampNeg (mi s5 11 5)) 1 → vp_in (mi s11 11 5) 1001 ∧ ∀ s14 : PS, s14 = si s11 14 (Int32.toNatClampNeg (mi s11 11 5)) l1 → vp_in (mi s14 11 5) 1001 ∧ ∀ s17 : PS, s17 = sj s14 15 (Int32.toNatClampNeg (mi s14 11 5)) l3 → ∀ s19 : PS, s19 = si s17 11 5 ((mi s17 11 5) + 1) → P s19) ∧ (¬ v9 = 0 → vp_in l1 1000 ∧ vp_in (mi s5 11 5) 1001 ∧ ∀ s23 : PS, s23 = si s8 13 (Int32.toNatClampNeg (mi s5 11 5)) (mi s8 12 (Int32.toNatClampNeg l1)) → vp_in (mi s23 11 5) 1001 ∧ ∀ s26 : PS, s26 = si s23 14 (Int32.toNatClampNeg (mi s23 11 5)) l1 → vp_in (mi s26 11 5) 1001 ∧ ∀ s29 : PS, s29 = sj s26 15 (Int32.toNatClampNeg (mi s26 11 5)) l3 → ∀ s31 : PS, s31 = si s29 11 5 ((mi s29 11 5) + 1) → P s31))) ∧ (¬ v6 = 0 → (4 < (l2 - l1) → vp_in l1 1000 ∧ CX8_isSign g d [.int (mi s5 12 (Int32.toNatClampNeg l1))] s5 (fun (v35 : Int32) (s34 : PS) => Fr s5 s34 ∧ (v35 = 0 → vp_in (mi s5 11 5) 1001 ∧ ∀ s37 : PS, s37 = si s34 13 (Int32.toNatClampNeg (mi s5 11 5)) 1 → vp_in (mi s37 11 5) 1001 ∧ ∀ s40 : PS, s40 = si s37 14 (Int32.toNatClampNeg (mi s37 11 5)) l1 → vp_in (mi s40 11 5) 1001 ∧ ∀ s43 : PS, s43 = sj s40 15 (Int32.toNatClampNeg (mi s40 11 5)) l3 → ∀ s45 : PS, s45 = si s43 11 5 ((mi s43 11 5) + 1) → P s45) ∧ (¬ v35 = 0 → vp_in l1 1000 ∧ vp_in (mi s5 11 5) 1001 ∧ ∀ s49 : PS, s49 = si s34 13 (Int32.toNatClampNeg (mi s5 11 5)) (mi s34 12 (Int32.toNatClampNeg l1)) → vp_in (mi s49 11 5) 1001 ∧ ∀ s52 : PS, s52 = si s49 14 (Int32.toNatClampNeg (mi s49 11 5)) l1 → vp_in (mi s52 11 5) 1001 ∧ ∀ s55 : PS, s55 = sj s52 15 (Int32.toNatClampNeg (mi s52 11 5)) l3 → ∀ s57 : PS, s57 = si s55 11 5 ((mi s55 11 5) + 1) → P s57))) ∧ (¬ 4 < (l2 - l1) → VX8_keep g (d + 1) P 90 [some (.ref 11), some (.int l1), some (.int l2), some (.long l3), none, some (.int l1)] [] s5)))) : VX8_keep g (d + 1) P 68 [some (.ref 11), some (.int l1), some (.int l2), some (.long l3), none, none] [] σ := by
  refine x_aload_n (i := 0) (dxX8_keep_1 6 rfl) rfl rfl ?_
  refine gf_8_9 (kd_11 hL) (rv_11_0 hL) (dxX8_keep_1 7 rfl) ?_
  refine x_iload_n (i := 1) (dxX8_keep_1 8 rfl) rfl rfl ?_
  obtain ⟨hi4, h⟩ := h
  refine x_cald (kd_12 hL) hi4 (dxX8_keep_1 9 rfl) ?_
  refine cl_8_54 (Nat.le_of_ble_eq_true rfl) (dxX8_keep_1 10 rfl) h (fun v6 s5 h => ?_) (Nat.le_refl _) (Nat.le_refl _)
  obtain ⟨hFs5, h⟩ := h
  have hKs5 : kd s5 = kd σ := hFs5.1.trans (rfl : kd σ = kd σ)
  have hLs5 : Lay s5 := hL.fr hFs5
  refine x_if_eq (tgt := 134) (dxX8_keep_1 11 rfl) (by decide) (fun hc => ?_) (fun hc => ?_)
  · replace h := h.1 hc
    refine x_aload_n (i := 0) (dxX8_keep_2 11 rfl) rfl rfl ?_
    refine gf_8_17 (kd_11 hLs5) (rv_11_2 hLs5) (dxX8_keep_2 12 rfl) ?_
    refine x_aload_n (i := 0) (dxX8_keep_2 13 rfl) rfl rfl ?_
    refine gf_8_28 (kd_11 hLs5) rfl (dxX8_keep_2 14 rfl) ?_
    refine x_aload_n (i := 0) (dxX8_keep_2 15 rfl) rfl rfl ?_
    refine gf_8_9 (kd_11 hLs5) (rv_11_0 hLs5) (dxX8_keep_2 16 rfl) ?_
    refine x_iload_n (i := 1) (dxX8_keep_2 17 rfl) rfl rfl ?_
    obtain ⟨hi7, h⟩ := h
    refine x_cald (kd_12 hLs5) hi7 (dxX8_keep_2 18 rfl) ?_
    refine cl_8_61 (Nat.le_of_ble_eq_true rfl) (dxX8_keep_2 19 rfl) h (fun v9 s8 h => ?_) (Nat.le_refl _) (Nat.le_refl _)
    obtain ⟨hFs8, h⟩ := h
    have hKs8 : kd s8 = kd σ := hFs8.1.trans hKs5
    have hLs8 : Lay s8 := hLs5.fr hFs8
    refine x_if_eq (tgt := 163) (dxX8_keep_2 20 rfl) (by decide) (fun hc => ?_) (fun hc => ?_)
    · replace h := h.1 hc
      refine x_iconst (v := 1) (dxX8_keep_2 26 rfl) rfl ?_
      obtain ⟨hi10, h⟩ := h
      refine x_iast (kd_13 hLs8) hi10 (dxX8_keep_2 27 rfl) ?_
      refine x_sto (fun s11 e12 => ?_)
      replace h := h s11 e12
      have hKs11 : kd s11 = kd σ := by rw [e12]; exact hKs8
      have hLs11 : Lay s11 := by rw [e12]; exact hLs8.si
      refine x_aload_n (i := 0) (dxX8_keep_2 28 rfl) rfl rfl ?_
      refine gf_8_21 (kd_11 hLs11) (rv_11_3 hLs11) (dxX8_keep_2 29 rfl) ?_
      refine x_aload_n (i := 0) (dxX8_keep_2 30 rfl) rfl rfl ?_
      refine gf_8_28 (kd_11 hLs11) rfl (dxX8_keep_2 31 rfl) ?_
      refine x_iload_n (i := 1) (dxX8_keep_3 0 rfl) rfl rfl ?_
      obtain ⟨hi13, h⟩ := h
      refine x_iast (kd_14 hLs11) hi13 (dxX8_keep_3 1 rfl) ?_
      refine x_sto (fun s14 e15 => ?_)
      replace h := h s14 e15
      have hKs14 : kd s14 = kd σ := by rw [e15]; exact hKs11
      have hLs14 : Lay s14 := by rw [e15]; exact hLs11.si
      refine x_aload_n (i := 0) (dxX8_keep_3 2 rfl) rfl rfl ?_
      refine gf_8_24 (kd_11 hLs14) (rv_11_4 hLs14) (dxX8_keep_3 3 rfl) ?_
      refine x_aload_n (i := 0) (dxX8_keep_3 4 rfl) rfl rfl ?_
      refine gf_8_28 (kd_11 hLs14) rfl (dxX8_keep_3 5 rfl) ?_
      refine x_lload_n (i := 3) (dxX8_keep_3 6 rfl) rfl rfl ?_
      obtain ⟨hi16, h⟩ := h
      refine x_last (kd_15 hLs14) hi16 (dxX8_keep_3 7 rfl) ?_
      refine x_sto (fun s17 e18 => ?_)
      replace h := h s17 e18
      have hKs17 : kd s17 = kd σ := by rw [e18]; exact hKs14
      have hLs17 : Lay s17 := by rw [e18]; exact hLs14.sj
      refine x_aload_n (i := 0) (dxX8_keep_3 8 rfl) rfl rfl ?_
      refine x_dup (dxX8_keep_3 9 rfl) rfl ?_
      refine gf_8_28 (kd_11 hLs17) rfl (dxX8_keep_3 10 rfl) ?_
      refine x_iconst (v := 1) (dxX8_keep_3 11 rfl) rfl ?_
      refine x_iadd (dxX8_keep_3 12 rfl) ?_
      refine pf_8_28 (kd_11 hLs17) (dxX8_keep_3 13 rfl) ?_
      refine x_sto (fun s19 e20 => ?_)
      replace h := h s19 e20
      have hKs19 : kd s19 = kd σ := by rw [e20]; exact hKs17
      have hLs19 : Lay s19 := by rw [e20]; exact hLs17.si
      exact x_vret rfl (dxX8_keep_3 14 rfl) ⟨rfl, h⟩
    · replace h := h.2 hc
      refine x_aload_n (i := 0) (dxX8_keep_2 21 rfl) rfl rfl ?_
      refine gf_8_9 (kd_11 hLs8) (rv_11_0 hLs8) (dxX8_keep_2 22 rfl) ?_
      refine x_iload_n (i := 1) (dxX8_keep_2 23 rfl) rfl rfl ?_
      obtain ⟨hi21, h⟩ := h
      refine x_cald (kd_12 hLs8) hi21 (dxX8_keep_2 24 rfl) ?_
      refine x_goto (tgt := 164) (dxX8_keep_2 25 rfl) (by decide) ?_
      obtain ⟨hi22, h⟩ := h
      refine x_iast (kd_13 hLs8) hi22 (dxX8_keep_2 27 rfl) ?_
      refine x_sto (fun s23 e24 => ?_)
      replace h := h s23 e24
      have hKs23 : kd s23 = kd σ := by rw [e24]; exact hKs8
      have hLs23 : Lay s23 := by rw [e24]; exact hLs8.si
      refine x_aload_n (i := 0) (dxX8_keep_2 28 rfl) rfl rfl ?_
      refine gf_8_21 (kd_11 hLs23) (rv_11_3 hLs23) (dxX8_keep_2 29 rfl) ?_
      refine x_aload_n (i := 0) (dxX8_keep_2 30 rfl) rfl rfl ?_
      refine gf_8_28 (kd_11 hLs23) rfl (dxX8_keep_2 31 rfl) ?_
      refine x_iload_n (i := 1) (dxX8_keep_3 0 rfl) rfl rfl ?_
      obtain ⟨hi25, h⟩ := h
      refine x_iast (kd_14 hLs23) hi25 (dxX8_keep_3 1 rfl) ?_
      refine x_sto (fun s26 e27 => ?_)
      replace h := h s26 e27
      have hKs26 : kd s26 = kd σ := by rw [e27]; exact hKs23
      have hLs26 : Lay s26 := by rw [e27]; exact hLs23.si
      refine x_aload_n (i := 0) (dxX8_keep_3 2 rfl) rfl rfl ?_
      refine gf_8_24 (kd_11 hLs26) (rv_11_4 hLs26) (dxX8_keep_3 3 rfl) ?_
      refine x_aload_n (i := 0) (dxX8_keep_3 4 rfl) rfl rfl ?_
      refine gf_8_28 (kd_11 hLs26) rfl (dxX8_keep_3 5 rfl) ?_
      refine x_lload_n (i := 3) (dxX8_keep_3 6 rfl) rfl rfl ?_
      obtain ⟨hi28, h⟩ := h
      refine x_last (kd_15 hLs26) hi28 (dxX8_keep_3 7 rfl) ?_
      refine x_sto (fun s29 e30 => ?_)
      replace h := h s29 e30
      have hKs29 : kd s29 = kd σ := by rw [e30]; exact hKs26
      have hLs29 : Lay s29 := by rw [e30]; exact hLs26.sj
      refine x_aload_n (i := 0) (dxX8_keep_3 8 rfl) rfl rfl ?_
      refine x_dup (dxX8_keep_3 9 rfl) rfl ?_
      refine gf_8_28 (kd_11 hLs29) rfl (dxX8_keep_3 10 rfl) ?_
      refine x_iconst (v := 1) (dxX8_keep_3 11 rfl) rfl ?_
      refine x_iadd (dxX8_keep_3 12 rfl) ?_
      refine pf_8_28 (kd_11 hLs29) (dxX8_keep_3 13 rfl) ?_
      refine x_sto (fun s31 e32 => ?_)
      replace h := h s31 e32
      have hKs31 : kd s31 = kd σ := by rw [e32]; exact hKs29
      have hLs31 : Lay s31 := by rw [e32]; exact hLs29.si
      exact x_vret rfl (dxX8_keep_3 14 rfl) ⟨rfl, h⟩
  · replace h := h.2 hc
    refine x_iload_n (i := 2) (dxX8_keep_1 12 rfl) rfl rfl ?_
    refine x_iload_n (i := 1) (dxX8_keep_1 13 rfl) rfl rfl ?_
    refine x_isub (dxX8_keep_1 14 rfl) ?_
    refine x_iconst (v := 4) (dxX8_keep_1 15 rfl) rfl ?_
    refine x_icmp_gt (tgt := 134) (dxX8_keep_1 16 rfl) (by decide) (fun hc => ?_) (fun hc => ?_)
    · replace h := h.1 hc
      refine x_aload_n (i := 0) (dxX8_keep_2 11 rfl) rfl rfl ?_
      refine gf_8_17 (kd_11 hLs5) (rv_11_2 hLs5) (dxX8_keep_2 12 rfl) ?_
      refine x_aload_n (i := 0) (dxX8_keep_2 13 rfl) rfl rfl ?_
      refine gf_8_28 (kd_11 hLs5) rfl (dxX8_keep_2 14 rfl) ?_
      refine x_aload_n (i := 0) (dxX8_keep_2 15 rfl) rfl rfl ?_
      refine gf_8_9 (kd_11 hLs5) (rv_11_0 hLs5) (dxX8_keep_2 16 rfl) ?_
      refine x_iload_n (i := 1) (dxX8_keep_2 17 rfl) rfl rfl ?_
      obtain ⟨hi33, h⟩ := h
      refine x_cald (kd_12 hLs5) hi33 (dxX8_keep_2 18 rfl) ?_
      refine cl_8_61 (Nat.le_of_ble_eq_true rfl) (dxX8_keep_2 19 rfl) h (fun v35 s34 h => ?_) (Nat.le_refl _) (Nat.le_refl _)
      obtain ⟨hFs34, h⟩ := h
      have hKs34 : kd s34 = kd σ := hFs34.1.trans hKs5
      have hLs34 : Lay s34 := hLs5.fr hFs34
      refine x_if_eq (tgt := 163) (dxX8_keep_2 20 rfl) (by decide) (fun hc => ?_) (fun hc => ?_)
      · replace h := h.1 hc
        refine x_iconst (v := 1) (dxX8_keep_2 26 rfl) rfl ?_
        obtain ⟨hi36, h⟩ := h
        refine x_iast (kd_13 hLs34) hi36 (dxX8_keep_2 27 rfl) ?_
        refine x_sto (fun s37 e38 => ?_)
        replace h := h s37 e38
        have hKs37 : kd s37 = kd σ := by rw [e38]; exact hKs34
        have hLs37 : Lay s37 := by rw [e38]; exact hLs34.si
        refine x_aload_n (i := 0) (dxX8_keep_2 28 rfl) rfl rfl ?_
        refine gf_8_21 (kd_11 hLs37) (rv_11_3 hLs37) (dxX8_keep_2 29 rfl) ?_
        refine x_aload_n (i := 0) (dxX8_keep_2 30 rfl) rfl rfl ?_
        refine gf_8_28 (kd_11 hLs37) rfl (dxX8_keep_2 31 rfl) ?_
        refine x_iload_n (i := 1) (dxX8_keep_3 0 rfl) rfl rfl ?_
        obtain ⟨hi39, h⟩ := h
        refine x_iast (kd_14 hLs37) hi39 (dxX8_keep_3 1 rfl) ?_
        refine x_sto (fun s40 e41 => ?_)
        replace h := h s40 e41
        have hKs40 : kd s40 = kd σ := by rw [e41]; exact hKs37
        have hLs40 : Lay s40 := by rw [e41]; exact hLs37.si
        refine x_aload_n (i := 0) (dxX8_keep_3 2 rfl) rfl rfl ?_
        refine gf_8_24 (kd_11 hLs40) (rv_11_4 hLs40) (dxX8_keep_3 3 rfl) ?_
        refine x_aload_n (i := 0) (dxX8_keep_3 4 rfl) rfl rfl ?_
        refine gf_8_28 (kd_11 hLs40) rfl (dxX8_keep_3 5 rfl) ?_
        refine x_lload_n (i := 3) (dxX8_keep_3 6 rfl) rfl rfl ?_
        obtain ⟨hi42, h⟩ := h
        refine x_last (kd_15 hLs40) hi42 (dxX8_keep_3 7 rfl) ?_
        refine x_sto (fun s43 e44 => ?_)
        replace h := h s43 e44
        have hKs43 : kd s43 = kd σ := by rw [e44]; exact hKs40
        have hLs43 : Lay s43 := by rw [e44]; exact hLs40.sj
        refine x_aload_n (i := 0) (dxX8_keep_3 8 rfl) rfl rfl ?_
        refine x_dup (dxX8_keep_3 9 rfl) rfl ?_
        refine gf_8_28 (kd_11 hLs43) rfl (dxX8_keep_3 10 rfl) ?_
        refine x_iconst (v := 1) (dxX8_keep_3 11 rfl) rfl ?_
        refine x_iadd (dxX8_keep_3 12 rfl) ?_
        refine pf_8_28 (kd_11 hLs43) (dxX8_keep_3 13 rfl) ?_
        refine x_sto (fun s45 e46 => ?_)
        replace h := h s45 e46
        have hKs45 : kd s45 = kd σ := by rw [e46]; exact hKs43
        have hLs45 : Lay s45 := by rw [e46]; exact hLs43.si
        exact x_vret rfl (dxX8_keep_3 14 rfl) ⟨rfl, h⟩
      · replace h := h.2 hc
        refine x_aload_n (i := 0) (dxX8_keep_2 21 rfl) rfl rfl ?_
        refine gf_8_9 (kd_11 hLs34) (rv_11_0 hLs34) (dxX8_keep_2 22 rfl) ?_
        refine x_iload_n (i := 1) (dxX8_keep_2 23 rfl) rfl rfl ?_
        obtain ⟨hi47, h⟩ := h
        refine x_cald (kd_12 hLs34) hi47 (dxX8_keep_2 24 rfl) ?_
        refine x_goto (tgt := 164) (dxX8_keep_2 25 rfl) (by decide) ?_
        obtain ⟨hi48, h⟩ := h
        refine x_iast (kd_13 hLs34) hi48 (dxX8_keep_2 27 rfl) ?_
        refine x_sto (fun s49 e50 => ?_)
        replace h := h s49 e50
        have hKs49 : kd s49 = kd σ := by rw [e50]; exact hKs34
        have hLs49 : Lay s49 := by rw [e50]; exact hLs34.si
        refine x_aload_n (i := 0) (dxX8_keep_2 28 rfl) rfl rfl ?_
        refine gf_8_21 (kd_11 hLs49) (rv_11_3 hLs49) (dxX8_keep_2 29 rfl) ?_
        refine x_aload_n (i := 0) (dxX8_keep_2 30 rfl) rfl rfl ?_
        refine gf_8_28 (kd_11 hLs49) rfl (dxX8_keep_2 31 rfl) ?_
        refine x_iload_n (i := 1) (dxX8_keep_3 0 rfl) rfl rfl ?_
        obtain ⟨hi51, h⟩ := h
        refine x_iast (kd_14 hLs49) hi51 (dxX8_keep_3 1 rfl) ?_
        refine x_sto (fun s52 e53 => ?_)
        replace h := h s52 e53
        have hKs52 : kd s52 = kd σ := by rw [e53]; exact hKs49
        have hLs52 : Lay s52 := by rw [e53]; exact hLs49.si
        refine x_aload_n (i := 0) (dxX8_keep_3 2 rfl) rfl rfl ?_
        refine gf_8_24 (kd_11 hLs52) (rv_11_4 hLs52) (dxX8_keep_3 3 rfl) ?_
        refine x_aload_n (i := 0) (dxX8_keep_3 4 rfl) rfl rfl ?_
        refine gf_8_28 (kd_11 hLs52) rfl (dxX8_keep_3 5 rfl) ?_
        refine x_lload_n (i := 3) (dxX8_keep_3 6 rfl) rfl rfl ?_
        obtain ⟨hi54, h⟩ := h
        refine x_last (kd_15 hLs52) hi54 (dxX8_keep_3 7 rfl) ?_
        refine x_sto (fun s55 e56 => ?_)
        replace h := h s55 e56
        have hKs55 : kd s55 = kd σ := by rw [e56]; exact hKs52
        have hLs55 : Lay s55 := by rw [e56]; exact hLs52.sj
        refine x_aload_n (i := 0) (dxX8_keep_3 8 rfl) rfl rfl ?_
        refine x_dup (dxX8_keep_3 9 rfl) rfl ?_
        refine gf_8_28 (kd_11 hLs55) rfl (dxX8_keep_3 10 rfl) ?_
        refine x_iconst (v := 1) (dxX8_keep_3 11 rfl) rfl ?_
        refine x_iadd (dxX8_keep_3 12 rfl) ?_
        refine pf_8_28 (kd_11 hLs55) (dxX8_keep_3 13 rfl) ?_
        refine x_sto (fun s57 e58 => ?_)
        replace h := h s57 e58
        have hKs57 : kd s57 = kd σ := by rw [e58]; exact hKs55
        have hLs57 : Lay s57 := by rw [e58]; exact hLs55.si
        exact x_vret rfl (dxX8_keep_3 14 rfl) ⟨rfl, h⟩
    · replace h := h.2 hc
      refine x_iload_n (i := 1) (dxX8_keep_1 17 rfl) rfl rfl ?_
      refine x_istore (dxX8_keep_1 18 rfl) (Nat.le_of_ble_eq_true rfl) rfl rfl ?_
      exact h
theorem vcX8_keep_25 {g : GV} {d : Nat} {P : PS → Prop} {σ : PS} (hL : Lay σ) (l1 : Int32) (l2 : Int32) (l3 : Int64) (l5 : Int32) (h : (l2 ≤ l5 → CX8_kindOfWord g d [.long l3] σ (fun (v60 : Int32) (s59 : PS) => Fr σ s59 ∧ vp_in (mi σ 11 5) 1001 ∧ ∀ s62 : PS, s62 = si s59 13 (Int32.toNatClampNeg (mi σ 11 5)) v60 → vp_in (mi s62 11 5) 1001 ∧ ∀ s65 : PS, s65 = si s62 14 (Int32.toNatClampNeg (mi s62 11 5)) l1 → vp_in (mi s65 11 5) 1001 ∧ ∀ s68 : PS, s68 = sj s65 15 (Int32.toNatClampNeg (mi s65 11 5)) l3 → ∀ s70 : PS, s70 = si s68 11 5 ((mi s68 11 5) + 1) → P s70)) ∧ (¬ l2 ≤ l5 → vp_in l5 1000 ∧ ∀ x73 : Int64, x73 = (l3 * 256) + (Int32.toInt64 (mi σ 12 (Int32.toNatClampNeg l5))) → ∀ x75 : Int32, x75 = l5 + 1 → VX8_keep g (d + 1) P 25 [some (.ref 11), some (.int l1), some (.int l2), some (.long x73), none, some (.int x75)] [] σ)) : VX8_keep g (d + 1) P 25 [some (.ref 11), some (.int l1), some (.int l2), some (.long l3), none, some (.int l5)] [] σ := by
  refine x_iload (dxX8_keep_0 15 rfl) rfl ?_
  refine x_iload_n (i := 2) (dxX8_keep_0 16 rfl) rfl rfl ?_
  refine x_icmp_ge (tgt := 52) (dxX8_keep_0 17 rfl) (by decide) (fun hc => ?_) (fun hc => ?_)
  · replace h := h.1 hc
    refine x_aload_n (i := 0) (dxX8_keep_0 30 rfl) rfl rfl ?_
    refine gf_8_17 (kd_11 hL) (rv_11_2 hL) (dxX8_keep_0 31 rfl) ?_
    refine x_aload_n (i := 0) (dxX8_keep_1 0 rfl) rfl rfl ?_
    refine gf_8_28 (kd_11 hL) rfl (dxX8_keep_1 1 rfl) ?_
    refine x_lload_n (i := 3) (dxX8_keep_1 2 rfl) rfl rfl ?_
    refine cl_8_50 (Nat.le_of_ble_eq_true rfl) (dxX8_keep_1 3 rfl) h (fun v60 s59 h => ?_) (Nat.le_refl _) (Nat.le_refl _)
    obtain ⟨hFs59, h⟩ := h
    have hKs59 : kd s59 = kd σ := hFs59.1.trans (rfl : kd σ = kd σ)
    have hLs59 : Lay s59 := hL.fr hFs59
    obtain ⟨hi61, h⟩ := h
    refine x_iast (kd_13 hLs59) hi61 (dxX8_keep_1 4 rfl) ?_
    refine x_sto (fun s62 e63 => ?_)
    replace h := h s62 e63
    have hKs62 : kd s62 = kd σ := by rw [e63]; exact hKs59
    have hLs62 : Lay s62 := by rw [e63]; exact hLs59.si
    refine x_goto (tgt := 165) (dxX8_keep_1 5 rfl) (by decide) ?_
    refine x_aload_n (i := 0) (dxX8_keep_2 28 rfl) rfl rfl ?_
    refine gf_8_21 (kd_11 hLs62) (rv_11_3 hLs62) (dxX8_keep_2 29 rfl) ?_
    refine x_aload_n (i := 0) (dxX8_keep_2 30 rfl) rfl rfl ?_
    refine gf_8_28 (kd_11 hLs62) rfl (dxX8_keep_2 31 rfl) ?_
    refine x_iload_n (i := 1) (dxX8_keep_3 0 rfl) rfl rfl ?_
    obtain ⟨hi64, h⟩ := h
    refine x_iast (kd_14 hLs62) hi64 (dxX8_keep_3 1 rfl) ?_
    refine x_sto (fun s65 e66 => ?_)
    replace h := h s65 e66
    have hKs65 : kd s65 = kd σ := by rw [e66]; exact hKs62
    have hLs65 : Lay s65 := by rw [e66]; exact hLs62.si
    refine x_aload_n (i := 0) (dxX8_keep_3 2 rfl) rfl rfl ?_
    refine gf_8_24 (kd_11 hLs65) (rv_11_4 hLs65) (dxX8_keep_3 3 rfl) ?_
    refine x_aload_n (i := 0) (dxX8_keep_3 4 rfl) rfl rfl ?_
    refine gf_8_28 (kd_11 hLs65) rfl (dxX8_keep_3 5 rfl) ?_
    refine x_lload_n (i := 3) (dxX8_keep_3 6 rfl) rfl rfl ?_
    obtain ⟨hi67, h⟩ := h
    refine x_last (kd_15 hLs65) hi67 (dxX8_keep_3 7 rfl) ?_
    refine x_sto (fun s68 e69 => ?_)
    replace h := h s68 e69
    have hKs68 : kd s68 = kd σ := by rw [e69]; exact hKs65
    have hLs68 : Lay s68 := by rw [e69]; exact hLs65.sj
    refine x_aload_n (i := 0) (dxX8_keep_3 8 rfl) rfl rfl ?_
    refine x_dup (dxX8_keep_3 9 rfl) rfl ?_
    refine gf_8_28 (kd_11 hLs68) rfl (dxX8_keep_3 10 rfl) ?_
    refine x_iconst (v := 1) (dxX8_keep_3 11 rfl) rfl ?_
    refine x_iadd (dxX8_keep_3 12 rfl) ?_
    refine pf_8_28 (kd_11 hLs68) (dxX8_keep_3 13 rfl) ?_
    refine x_sto (fun s70 e71 => ?_)
    replace h := h s70 e71
    have hKs70 : kd s70 = kd σ := by rw [e71]; exact hKs68
    have hLs70 : Lay s70 := by rw [e71]; exact hLs68.si
    exact x_vret rfl (dxX8_keep_3 14 rfl) ⟨rfl, h⟩
  · replace h := h.2 hc
    refine x_lload_n (i := 3) (dxX8_keep_0 18 rfl) rfl rfl ?_
    refine x_ldc2 (dxX8_keep_0 19 rfl) gw_700 ?_
    refine x_lmul (dxX8_keep_0 20 rfl) ?_
    refine x_aload_n (i := 0) (dxX8_keep_0 21 rfl) rfl rfl ?_
    refine gf_8_9 (kd_11 hL) (rv_11_0 hL) (dxX8_keep_0 22 rfl) ?_
    refine x_iload (dxX8_keep_0 23 rfl) rfl ?_
    obtain ⟨hi72, h⟩ := h
    refine x_cald (kd_12 hL) hi72 (dxX8_keep_0 24 rfl) ?_
    refine x_i2l (dxX8_keep_0 25 rfl) ?_
    refine x_ladd (dxX8_keep_0 26 rfl) ?_
    refine x_topl (fun x73 e74 => ?_)
    replace h := h x73 e74
    refine x_lstore_n (i := 3) (dxX8_keep_0 27 rfl) rfl (Nat.le_of_ble_eq_true rfl) rfl rfl ?_
    obtain ⟨x75, e76⟩ : ∃ y : Int32, y = l5 + 1 := ⟨_, rfl⟩
    replace h := h x75 e76
    refine x_iinc (v := x75) (dxX8_keep_0 28 rfl) (i := 5) rfl (by rw [e76]; rfl) (Nat.le_of_ble_eq_true rfl) rfl rfl ?_
    refine x_goto (tgt := 25) (dxX8_keep_0 29 rfl) (by decide) ?_
    exact h
theorem vcX8_keep_90 {g : GV} {d : Nat} {P : PS → Prop} {σ : PS} (hL : Lay σ) (l1 : Int32) (l2 : Int32) (l3 : Int64) (l5 : Int32) (h : (l2 ≤ l5 → vp_in (mi σ 11 5) 1001 ∧ ∀ s78 : PS, s78 = si σ 13 (Int32.toNatClampNeg (mi σ 11 5)) 2 → vp_in (mi s78 11 5) 1001 ∧ ∀ s81 : PS, s81 = si s78 14 (Int32.toNatClampNeg (mi s78 11 5)) l1 → vp_in (mi s81 11 5) 1001 ∧ ∀ s84 : PS, s84 = sj s81 15 (Int32.toNatClampNeg (mi s81 11 5)) l3 → ∀ s86 : PS, s86 = si s84 11 5 ((mi s84 11 5) + 1) → P s86) ∧ (¬ l2 ≤ l5 → vp_in l5 1000 ∧ ∀ x89 : Int64, x89 = ((l3 * 10) + (Int32.toInt64 (mi σ 12 (Int32.toNatClampNeg l5)))) - 48 → ∀ x91 : Int32, x91 = l5 + 1 → VX8_keep g (d + 1) P 90 [some (.ref 11), some (.int l1), some (.int l2), some (.long x89), none, some (.int x91)] [] σ)) : VX8_keep g (d + 1) P 90 [some (.ref 11), some (.int l1), some (.int l2), some (.long l3), none, some (.int l5)] [] σ := by
  refine x_iload (dxX8_keep_1 19 rfl) rfl ?_
  refine x_iload_n (i := 2) (dxX8_keep_1 20 rfl) rfl rfl ?_
  refine x_icmp_ge (tgt := 121) (dxX8_keep_1 21 rfl) (by decide) (fun hc => ?_) (fun hc => ?_)
  · replace h := h.1 hc
    refine x_aload_n (i := 0) (dxX8_keep_2 4 rfl) rfl rfl ?_
    refine gf_8_17 (kd_11 hL) (rv_11_2 hL) (dxX8_keep_2 5 rfl) ?_
    refine x_aload_n (i := 0) (dxX8_keep_2 6 rfl) rfl rfl ?_
    refine gf_8_28 (kd_11 hL) rfl (dxX8_keep_2 7 rfl) ?_
    refine x_iconst (v := 2) (dxX8_keep_2 8 rfl) rfl ?_
    obtain ⟨hi77, h⟩ := h
    refine x_iast (kd_13 hL) hi77 (dxX8_keep_2 9 rfl) ?_
    refine x_sto (fun s78 e79 => ?_)
    replace h := h s78 e79
    have hKs78 : kd s78 = kd σ := by rw [e79]; exact (rfl : kd σ = kd σ)
    have hLs78 : Lay s78 := by rw [e79]; exact hL.si
    refine x_goto (tgt := 165) (dxX8_keep_2 10 rfl) (by decide) ?_
    refine x_aload_n (i := 0) (dxX8_keep_2 28 rfl) rfl rfl ?_
    refine gf_8_21 (kd_11 hLs78) (rv_11_3 hLs78) (dxX8_keep_2 29 rfl) ?_
    refine x_aload_n (i := 0) (dxX8_keep_2 30 rfl) rfl rfl ?_
    refine gf_8_28 (kd_11 hLs78) rfl (dxX8_keep_2 31 rfl) ?_
    refine x_iload_n (i := 1) (dxX8_keep_3 0 rfl) rfl rfl ?_
    obtain ⟨hi80, h⟩ := h
    refine x_iast (kd_14 hLs78) hi80 (dxX8_keep_3 1 rfl) ?_
    refine x_sto (fun s81 e82 => ?_)
    replace h := h s81 e82
    have hKs81 : kd s81 = kd σ := by rw [e82]; exact hKs78
    have hLs81 : Lay s81 := by rw [e82]; exact hLs78.si
    refine x_aload_n (i := 0) (dxX8_keep_3 2 rfl) rfl rfl ?_
    refine gf_8_24 (kd_11 hLs81) (rv_11_4 hLs81) (dxX8_keep_3 3 rfl) ?_
    refine x_aload_n (i := 0) (dxX8_keep_3 4 rfl) rfl rfl ?_
    refine gf_8_28 (kd_11 hLs81) rfl (dxX8_keep_3 5 rfl) ?_
    refine x_lload_n (i := 3) (dxX8_keep_3 6 rfl) rfl rfl ?_
    obtain ⟨hi83, h⟩ := h
    refine x_last (kd_15 hLs81) hi83 (dxX8_keep_3 7 rfl) ?_
    refine x_sto (fun s84 e85 => ?_)
    replace h := h s84 e85
    have hKs84 : kd s84 = kd σ := by rw [e85]; exact hKs81
    have hLs84 : Lay s84 := by rw [e85]; exact hLs81.sj
    refine x_aload_n (i := 0) (dxX8_keep_3 8 rfl) rfl rfl ?_
    refine x_dup (dxX8_keep_3 9 rfl) rfl ?_
    refine gf_8_28 (kd_11 hLs84) rfl (dxX8_keep_3 10 rfl) ?_
    refine x_iconst (v := 1) (dxX8_keep_3 11 rfl) rfl ?_
    refine x_iadd (dxX8_keep_3 12 rfl) ?_
    refine pf_8_28 (kd_11 hLs84) (dxX8_keep_3 13 rfl) ?_
    refine x_sto (fun s86 e87 => ?_)
    replace h := h s86 e87
    have hKs86 : kd s86 = kd σ := by rw [e87]; exact hKs84
    have hLs86 : Lay s86 := by rw [e87]; exact hLs84.si
    exact x_vret rfl (dxX8_keep_3 14 rfl) ⟨rfl, h⟩
  · replace h := h.2 hc
    refine x_lload_n (i := 3) (dxX8_keep_1 22 rfl) rfl rfl ?_
    refine x_ldc2 (dxX8_keep_1 23 rfl) gw_709 ?_
    refine x_lmul (dxX8_keep_1 24 rfl) ?_
    refine x_aload_n (i := 0) (dxX8_keep_1 25 rfl) rfl rfl ?_
    refine gf_8_9 (kd_11 hL) (rv_11_0 hL) (dxX8_keep_1 26 rfl) ?_
    refine x_iload (dxX8_keep_1 27 rfl) rfl ?_
    obtain ⟨hi88, h⟩ := h
    refine x_cald (kd_12 hL) hi88 (dxX8_keep_1 28 rfl) ?_
    refine x_i2l (dxX8_keep_1 29 rfl) ?_
    refine x_ladd (dxX8_keep_1 30 rfl) ?_
    refine x_ldc2 (dxX8_keep_1 31 rfl) gw_710 ?_
    refine x_lsub (dxX8_keep_2 0 rfl) ?_
    refine x_topl (fun x89 e90 => ?_)
    replace h := h x89 e90
    refine x_lstore_n (i := 3) (dxX8_keep_2 1 rfl) rfl (Nat.le_of_ble_eq_true rfl) rfl rfl ?_
    obtain ⟨x91, e92⟩ : ∃ y : Int32, y = l5 + 1 := ⟨_, rfl⟩
    replace h := h x91 e92
    refine x_iinc (v := x91) (dxX8_keep_2 2 rfl) (i := 5) rfl (by rw [e92]; rfl) (Nat.le_of_ble_eq_true rfl) rfl rfl ?_
    refine x_goto (tgt := 90) (dxX8_keep_2 3 rfl) (by decide) ?_
    exact h
theorem vcX8_endOfRun {g : GV} {d : Nat} {P : Int32 → PS → Prop} {σ : PS} (hL : Lay σ) (p0 : Int32) (h : ∀ x1 : Int32, x1 = p0 + 1 → vp_in p0 1000 ∧ CX8_isLetter g d [.int (mi σ 12 (Int32.toNatClampNeg p0))] σ (fun (v5 : Int32) (s4 : PS) => Fr σ s4 ∧ (v5 = 0 → vp_in p0 1000 ∧ CX8_isDigit g d [.int (mi s4 12 (Int32.toNatClampNeg p0))] s4 (fun (v8 : Int32) (s7 : PS) => Fr s4 s7 ∧ (v8 = 0 → P x1 s7) ∧ (¬ v8 = 0 → VX8_endOfRun g (d + 1) P 54 [some (.ref 11), none, some (.int x1)] [] s7))) ∧ (¬ v5 = 0 → VX8_endOfRun g (d + 1) P 16 [some (.ref 11), none, some (.int x1)] [] s4))) : CX8_endOfRun g (d + 1) [.ref 11, .int p0] σ P := by
  refine x_entry (L := [some (.ref 11), some (.int p0), none]) pn_8 (Nat.le_of_ble_eq_true rfl) ⟨1, rfl⟩ ?_
  show VX8_endOfRun g (d + 1) P 0 [some (.ref 11), some (.int p0), none] [] σ
  refine x_iload_n (i := 1) (dxX8_endOfRun_0 0 rfl) rfl rfl ?_
  refine x_iconst (v := 1) (dxX8_endOfRun_0 1 rfl) rfl ?_
  refine x_iadd (dxX8_endOfRun_0 2 rfl) ?_
  refine x_topi (fun x1 e2 => ?_)
  replace h := h x1 e2
  refine x_istore_n (i := 2) (dxX8_endOfRun_0 3 rfl) rfl (Nat.le_of_ble_eq_true rfl) rfl rfl ?_
  refine x_aload_n (i := 0) (dxX8_endOfRun_0 4 rfl) rfl rfl ?_
  refine gf_8_9 (kd_11 hL) (rv_11_0 hL) (dxX8_endOfRun_0 5 rfl) ?_
  refine x_iload_n (i := 1) (dxX8_endOfRun_0 6 rfl) rfl rfl ?_
  obtain ⟨hi3, h⟩ := h
  refine x_cald (kd_12 hL) hi3 (dxX8_endOfRun_0 7 rfl) ?_
  refine cl_8_45 (Nat.le_of_ble_eq_true rfl) (dxX8_endOfRun_0 8 rfl) h (fun v5 s4 h => ?_) (Nat.le_refl _) (Nat.le_refl _)
  obtain ⟨hFs4, h⟩ := h
  have hKs4 : kd s4 = kd σ := hFs4.1.trans (rfl : kd σ = kd σ)
  have hLs4 : Lay s4 := hL.fr hFs4
  refine x_if_eq (tgt := 42) (dxX8_endOfRun_0 9 rfl) (by decide) (fun hc => ?_) (fun hc => ?_)
  · replace h := h.1 hc
    refine x_aload_n (i := 0) (dxX8_endOfRun_0 22 rfl) rfl rfl ?_
    refine gf_8_9 (kd_11 hLs4) (rv_11_0 hLs4) (dxX8_endOfRun_0 23 rfl) ?_
    refine x_iload_n (i := 1) (dxX8_endOfRun_0 24 rfl) rfl rfl ?_
    obtain ⟨hi6, h⟩ := h
    refine x_cald (kd_12 hLs4) hi6 (dxX8_endOfRun_0 25 rfl) ?_
    refine cl_8_54 (Nat.le_of_ble_eq_true rfl) (dxX8_endOfRun_0 26 rfl) h (fun v8 s7 h => ?_) (Nat.le_refl _) (Nat.le_refl _)
    obtain ⟨hFs7, h⟩ := h
    have hKs7 : kd s7 = kd σ := hFs7.1.trans hKs4
    have hLs7 : Lay s7 := hLs4.fr hFs7
    refine x_if_eq (tgt := 80) (dxX8_endOfRun_0 27 rfl) (by decide) (fun hc => ?_) (fun hc => ?_)
    · replace h := h.1 hc
      refine x_iload_n (i := 2) (dxX8_endOfRun_1 8 rfl) rfl rfl ?_
      exact x_iret (ty := .int) rfl rfl (dxX8_endOfRun_1 9 rfl) ⟨_, rfl, h⟩
    · replace h := h.2 hc
      refine x_mask [true, false, true] (L1 := [some (.ref 11), none, some (.int x1)]) rfl ?_
      exact h
  · replace h := h.2 hc
    refine x_mask [true, false, true] (L1 := [some (.ref 11), none, some (.int x1)]) rfl ?_
    exact h
theorem vcX8_endOfRun_54 {g : GV} {d : Nat} {P : Int32 → PS → Prop} {σ : PS} (hL : Lay σ) (l2 : Int32) (h : ((mi σ 11 1) ≤ l2 → P l2 σ) ∧ (¬ (mi σ 11 1) ≤ l2 → vp_in l2 1000 ∧ CX8_isDigit g d [.int (mi σ 12 (Int32.toNatClampNeg l2))] σ (fun (v11 : Int32) (s10 : PS) => Fr σ s10 ∧ (v11 = 0 → P l2 s10) ∧ (¬ v11 = 0 → ∀ x12 : Int32, x12 = l2 + 1 → VX8_endOfRun g (d + 1) P 54 [some (.ref 11), none, some (.int x12)] [] s10)))) : VX8_endOfRun g (d + 1) P 54 [some (.ref 11), none, some (.int l2)] [] σ := by
  refine x_iload_n (i := 2) (dxX8_endOfRun_0 28 rfl) rfl rfl ?_
  refine x_aload_n (i := 0) (dxX8_endOfRun_0 29 rfl) rfl rfl ?_
  refine gf_8_13 (kd_11 hL) rfl (dxX8_endOfRun_0 30 rfl) ?_
  refine x_icmp_ge (tgt := 80) (dxX8_endOfRun_0 31 rfl) (by decide) (fun hc => ?_) (fun hc => ?_)
  · replace h := h.1 hc
    refine x_iload_n (i := 2) (dxX8_endOfRun_1 8 rfl) rfl rfl ?_
    exact x_iret (ty := .int) rfl rfl (dxX8_endOfRun_1 9 rfl) ⟨_, rfl, h⟩
  · replace h := h.2 hc
    refine x_aload_n (i := 0) (dxX8_endOfRun_1 0 rfl) rfl rfl ?_
    refine gf_8_9 (kd_11 hL) (rv_11_0 hL) (dxX8_endOfRun_1 1 rfl) ?_
    refine x_iload_n (i := 2) (dxX8_endOfRun_1 2 rfl) rfl rfl ?_
    obtain ⟨hi9, h⟩ := h
    refine x_cald (kd_12 hL) hi9 (dxX8_endOfRun_1 3 rfl) ?_
    refine cl_8_54 (Nat.le_of_ble_eq_true rfl) (dxX8_endOfRun_1 4 rfl) h (fun v11 s10 h => ?_) (Nat.le_refl _) (Nat.le_refl _)
    obtain ⟨hFs10, h⟩ := h
    have hKs10 : kd s10 = kd σ := hFs10.1.trans (rfl : kd σ = kd σ)
    have hLs10 : Lay s10 := hL.fr hFs10
    refine x_if_eq (tgt := 80) (dxX8_endOfRun_1 5 rfl) (by decide) (fun hc => ?_) (fun hc => ?_)
    · replace h := h.1 hc
      refine x_iload_n (i := 2) (dxX8_endOfRun_1 8 rfl) rfl rfl ?_
      exact x_iret (ty := .int) rfl rfl (dxX8_endOfRun_1 9 rfl) ⟨_, rfl, h⟩
    · replace h := h.2 hc
      obtain ⟨x12, e13⟩ : ∃ y : Int32, y = l2 + 1 := ⟨_, rfl⟩
      replace h := h x12 e13
      refine x_iinc (v := x12) (dxX8_endOfRun_1 6 rfl) (i := 2) rfl (by rw [e13]; rfl) (Nat.le_of_ble_eq_true rfl) rfl rfl ?_
      refine x_goto (tgt := 54) (dxX8_endOfRun_1 7 rfl) (by decide) ?_
      exact h
theorem vcX8_endOfRun_16 {g : GV} {d : Nat} {P : Int32 → PS → Prop} {σ : PS} (hL : Lay σ) (l2 : Int32) (h : ((mi σ 11 1) ≤ l2 → P l2 σ) ∧ (¬ (mi σ 11 1) ≤ l2 → vp_in l2 1000 ∧ CX8_isLetter g d [.int (mi σ 12 (Int32.toNatClampNeg l2))] σ (fun (v16 : Int32) (s15 : PS) => Fr σ s15 ∧ (v16 = 0 → P l2 s15) ∧ (¬ v16 = 0 → ∀ x17 : Int32, x17 = l2 + 1 → VX8_endOfRun g (d + 1) P 16 [some (.ref 11), none, some (.int x17)] [] s15)))) : VX8_endOfRun g (d + 1) P 16 [some (.ref 11), none, some (.int l2)] [] σ := by
  refine x_iload_n (i := 2) (dxX8_endOfRun_0 10 rfl) rfl rfl ?_
  refine x_aload_n (i := 0) (dxX8_endOfRun_0 11 rfl) rfl rfl ?_
  refine gf_8_13 (kd_11 hL) rfl (dxX8_endOfRun_0 12 rfl) ?_
  refine x_icmp_ge (tgt := 80) (dxX8_endOfRun_0 13 rfl) (by decide) (fun hc => ?_) (fun hc => ?_)
  · replace h := h.1 hc
    refine x_iload_n (i := 2) (dxX8_endOfRun_1 8 rfl) rfl rfl ?_
    exact x_iret (ty := .int) rfl rfl (dxX8_endOfRun_1 9 rfl) ⟨_, rfl, h⟩
  · replace h := h.2 hc
    refine x_aload_n (i := 0) (dxX8_endOfRun_0 14 rfl) rfl rfl ?_
    refine gf_8_9 (kd_11 hL) (rv_11_0 hL) (dxX8_endOfRun_0 15 rfl) ?_
    refine x_iload_n (i := 2) (dxX8_endOfRun_0 16 rfl) rfl rfl ?_
    obtain ⟨hi14, h⟩ := h
    refine x_cald (kd_12 hL) hi14 (dxX8_endOfRun_0 17 rfl) ?_
    refine cl_8_45 (Nat.le_of_ble_eq_true rfl) (dxX8_endOfRun_0 18 rfl) h (fun v16 s15 h => ?_) (Nat.le_refl _) (Nat.le_refl _)
    obtain ⟨hFs15, h⟩ := h
    have hKs15 : kd s15 = kd σ := hFs15.1.trans (rfl : kd σ = kd σ)
    have hLs15 : Lay s15 := hL.fr hFs15
    refine x_if_eq (tgt := 80) (dxX8_endOfRun_0 19 rfl) (by decide) (fun hc => ?_) (fun hc => ?_)
    · replace h := h.1 hc
      refine x_iload_n (i := 2) (dxX8_endOfRun_1 8 rfl) rfl rfl ?_
      exact x_iret (ty := .int) rfl rfl (dxX8_endOfRun_1 9 rfl) ⟨_, rfl, h⟩
    · replace h := h.2 hc
      obtain ⟨x17, e18⟩ : ∃ y : Int32, y = l2 + 1 := ⟨_, rfl⟩
      replace h := h x17 e18
      refine x_iinc (v := x17) (dxX8_endOfRun_0 20 rfl) (i := 2) rfl (by rw [e18]; rfl) (Nat.le_of_ble_eq_true rfl) rfl rfl ?_
      refine x_goto (tgt := 16) (dxX8_endOfRun_0 21 rfl) (by decide) ?_
      exact h
theorem vcX8_kindOfWord {g : GV} {d : Nat} {P : Int32 → PS → Prop} {σ : PS} (hL : Lay σ) (p0 : Int64) (h : (¬ (lg_cmp p0 1667591276) = 0 → (¬ (lg_cmp p0 1919247220) = 0 → (¬ (lg_cmp p0 1818588019) = 0 → (¬ (lg_cmp p0 7103860) = 0 → (¬ (lg_cmp p0 1700881256) = 0 → P 3 σ) ∧ ((lg_cmp p0 1700881256) = 0 → P 8 σ)) ∧ ((lg_cmp p0 7103860) = 0 → P 7 σ)) ∧ ((lg_cmp p0 1818588019) = 0 → P 6 σ)) ∧ ((lg_cmp p0 1919247220) = 0 → P 5 σ)) ∧ ((lg_cmp p0 1667591276) = 0 → P 4 σ)) : CX8_kindOfWord g d [.long p0] σ P := by
  refine x_entry (L := [some (.long p0), none]) pn_8 (Nat.le_of_ble_eq_true rfl) ⟨0, rfl⟩ ?_
  show VX8_kindOfWord g d P 0 [some (.long p0), none] [] σ
  refine x_lload_n (i := 0) (dxX8_kindOfWord_0 0 rfl) rfl rfl ?_
  refine x_ldc2 (dxX8_kindOfWord_0 1 rfl) gw_704 ?_
  refine x_lcmp (dxX8_kindOfWord_0 2 rfl) ?_
  refine x_if_ne (tgt := 10) (dxX8_kindOfWord_0 3 rfl) (by decide) (fun hc => ?_) (fun hc => ?_)
  · replace h := h.1 hc
    refine x_lload_n (i := 0) (dxX8_kindOfWord_0 6 rfl) rfl rfl ?_
    refine x_ldc2 (dxX8_kindOfWord_0 7 rfl) gw_705 ?_
    refine x_lcmp (dxX8_kindOfWord_0 8 rfl) ?_
    refine x_if_ne (tgt := 20) (dxX8_kindOfWord_0 9 rfl) (by decide) (fun hc => ?_) (fun hc => ?_)
    · replace h := h.1 hc
      refine x_lload_n (i := 0) (dxX8_kindOfWord_0 12 rfl) rfl rfl ?_
      refine x_ldc2 (dxX8_kindOfWord_0 13 rfl) gw_706 ?_
      refine x_lcmp (dxX8_kindOfWord_0 14 rfl) ?_
      refine x_if_ne (tgt := 31) (dxX8_kindOfWord_0 15 rfl) (by decide) (fun hc => ?_) (fun hc => ?_)
      · replace h := h.1 hc
        refine x_lload_n (i := 0) (dxX8_kindOfWord_0 18 rfl) rfl rfl ?_
        refine x_ldc2 (dxX8_kindOfWord_0 19 rfl) gw_707 ?_
        refine x_lcmp (dxX8_kindOfWord_0 20 rfl) ?_
        refine x_if_ne (tgt := 42) (dxX8_kindOfWord_0 21 rfl) (by decide) (fun hc => ?_) (fun hc => ?_)
        · replace h := h.1 hc
          refine x_lload_n (i := 0) (dxX8_kindOfWord_0 24 rfl) rfl rfl ?_
          refine x_ldc2 (dxX8_kindOfWord_0 25 rfl) gw_708 ?_
          refine x_lcmp (dxX8_kindOfWord_0 26 rfl) ?_
          refine x_if_ne (tgt := 55) (dxX8_kindOfWord_0 27 rfl) (by decide) (fun hc => ?_) (fun hc => ?_)
          · replace h := h.1 hc
            refine x_iconst (v := 3) (dxX8_kindOfWord_0 30 rfl) rfl ?_
            exact x_iret (ty := .int) rfl rfl (dxX8_kindOfWord_0 31 rfl) ⟨_, rfl, h⟩
          · replace h := h.2 hc
            refine x_bipush (v := 8) (dxX8_kindOfWord_0 28 rfl) rfl ?_
            refine x_goto (tgt := 56) (dxX8_kindOfWord_0 29 rfl) (by decide) ?_
            exact x_iret (ty := .int) rfl rfl (dxX8_kindOfWord_0 31 rfl) ⟨_, rfl, h⟩
        · replace h := h.2 hc
          refine x_bipush (v := 7) (dxX8_kindOfWord_0 22 rfl) rfl ?_
          exact x_iret (ty := .int) rfl rfl (dxX8_kindOfWord_0 23 rfl) ⟨_, rfl, h⟩
      · replace h := h.2 hc
        refine x_bipush (v := 6) (dxX8_kindOfWord_0 16 rfl) rfl ?_
        exact x_iret (ty := .int) rfl rfl (dxX8_kindOfWord_0 17 rfl) ⟨_, rfl, h⟩
    · replace h := h.2 hc
      refine x_iconst (v := 5) (dxX8_kindOfWord_0 10 rfl) rfl ?_
      exact x_iret (ty := .int) rfl rfl (dxX8_kindOfWord_0 11 rfl) ⟨_, rfl, h⟩
  · replace h := h.2 hc
    refine x_iconst (v := 4) (dxX8_kindOfWord_0 4 rfl) rfl ?_
    exact x_iret (ty := .int) rfl rfl (dxX8_kindOfWord_0 5 rfl) ⟨_, rfl, h⟩
theorem vcX8_isBlank {g : GV} {d : Nat} {P : Int32 → PS → Prop} {σ : PS} (hL : Lay σ) (p0 : Int32) (h : (p0 = 10 → P 1 σ) ∧ (¬ p0 = 10 → (¬ p0 = 32 → P 0 σ) ∧ (p0 = 32 → P 1 σ))) : CX8_isBlank g d [.int p0] σ P := by
  refine x_entry (L := [some (.int p0)]) pn_8 (Nat.le_of_ble_eq_true rfl) ⟨0, rfl⟩ ?_
  show VX8_isBlank g d P 0 [some (.int p0)] [] σ
  refine x_iload_n (i := 0) (dxX8_isBlank_0 0 rfl) rfl rfl ?_
  refine x_bipush (v := 10) (dxX8_isBlank_0 1 rfl) rfl ?_
  refine x_icmp_eq (tgt := 12) (dxX8_isBlank_0 2 rfl) (by decide) (fun hc => ?_) (fun hc => ?_)
  · replace h := h.1 hc
    refine x_iconst (v := 1) (dxX8_isBlank_0 6 rfl) rfl ?_
    refine x_goto (tgt := 17) (dxX8_isBlank_0 7 rfl) (by decide) ?_
    exact x_iret (ty := .boolean) rfl rfl (dxX8_isBlank_0 9 rfl) ⟨_, rfl, h⟩
  · replace h := h.2 hc
    refine x_iload_n (i := 0) (dxX8_isBlank_0 3 rfl) rfl rfl ?_
    refine x_bipush (v := 32) (dxX8_isBlank_0 4 rfl) rfl ?_
    refine x_icmp_ne (tgt := 16) (dxX8_isBlank_0 5 rfl) (by decide) (fun hc => ?_) (fun hc => ?_)
    · replace h := h.1 hc
      refine x_iconst (v := 0) (dxX8_isBlank_0 8 rfl) rfl ?_
      exact x_iret (ty := .boolean) rfl rfl (dxX8_isBlank_0 9 rfl) ⟨_, rfl, h⟩
    · replace h := h.2 hc
      refine x_iconst (v := 1) (dxX8_isBlank_0 6 rfl) rfl ?_
      refine x_goto (tgt := 17) (dxX8_isBlank_0 7 rfl) (by decide) ?_
      exact x_iret (ty := .boolean) rfl rfl (dxX8_isBlank_0 9 rfl) ⟨_, rfl, h⟩
theorem vcX8_isLetter {g : GV} {d : Nat} {P : Int32 → PS → Prop} {σ : PS} (hL : Lay σ) (p0 : Int32) (h : (p0 < 97 → P 0 σ) ∧ (¬ p0 < 97 → (122 < p0 → P 0 σ) ∧ (¬ 122 < p0 → P 1 σ))) : CX8_isLetter g d [.int p0] σ P := by
  refine x_entry (L := [some (.int p0)]) pn_8 (Nat.le_of_ble_eq_true rfl) ⟨0, rfl⟩ ?_
  show VX8_isLetter g d P 0 [some (.int p0)] [] σ
  refine x_iload_n (i := 0) (dxX8_isLetter_0 0 rfl) rfl rfl ?_
  refine x_bipush (v := 97) (dxX8_isLetter_0 1 rfl) rfl ?_
  refine x_icmp_lt (tgt := 16) (dxX8_isLetter_0 2 rfl) (by decide) (fun hc => ?_) (fun hc => ?_)
  · replace h := h.1 hc
    refine x_iconst (v := 0) (dxX8_isLetter_0 8 rfl) rfl ?_
    exact x_iret (ty := .boolean) rfl rfl (dxX8_isLetter_0 9 rfl) ⟨_, rfl, h⟩
  · replace h := h.2 hc
    refine x_iload_n (i := 0) (dxX8_isLetter_0 3 rfl) rfl rfl ?_
    refine x_bipush (v := 122) (dxX8_isLetter_0 4 rfl) rfl ?_
    refine x_icmp_gt (tgt := 16) (dxX8_isLetter_0 5 rfl) (by decide) (fun hc => ?_) (fun hc => ?_)
    · replace h := h.1 hc
      refine x_iconst (v := 0) (dxX8_isLetter_0 8 rfl) rfl ?_
      exact x_iret (ty := .boolean) rfl rfl (dxX8_isLetter_0 9 rfl) ⟨_, rfl, h⟩
    · replace h := h.2 hc
      refine x_iconst (v := 1) (dxX8_isLetter_0 6 rfl) rfl ?_
      refine x_goto (tgt := 17) (dxX8_isLetter_0 7 rfl) (by decide) ?_
      exact x_iret (ty := .boolean) rfl rfl (dxX8_isLetter_0 9 rfl) ⟨_, rfl, h⟩
theorem vcX8_isDigit {g : GV} {d : Nat} {P : Int32 → PS → Prop} {σ : PS} (hL : Lay σ) (p0 : Int32) (h : (p0 < 48 → P 0 σ) ∧ (¬ p0 < 48 → (57 < p0 → P 0 σ) ∧ (¬ 57 < p0 → P 1 σ))) : CX8_isDigit g d [.int p0] σ P := by
  refine x_entry (L := [some (.int p0)]) pn_8 (Nat.le_of_ble_eq_true rfl) ⟨0, rfl⟩ ?_
  show VX8_isDigit g d P 0 [some (.int p0)] [] σ
  refine x_iload_n (i := 0) (dxX8_isDigit_0 0 rfl) rfl rfl ?_
  refine x_bipush (v := 48) (dxX8_isDigit_0 1 rfl) rfl ?_
  refine x_icmp_lt (tgt := 16) (dxX8_isDigit_0 2 rfl) (by decide) (fun hc => ?_) (fun hc => ?_)
  · replace h := h.1 hc
    refine x_iconst (v := 0) (dxX8_isDigit_0 8 rfl) rfl ?_
    exact x_iret (ty := .boolean) rfl rfl (dxX8_isDigit_0 9 rfl) ⟨_, rfl, h⟩
  · replace h := h.2 hc
    refine x_iload_n (i := 0) (dxX8_isDigit_0 3 rfl) rfl rfl ?_
    refine x_bipush (v := 57) (dxX8_isDigit_0 4 rfl) rfl ?_
    refine x_icmp_gt (tgt := 16) (dxX8_isDigit_0 5 rfl) (by decide) (fun hc => ?_) (fun hc => ?_)
    · replace h := h.1 hc
      refine x_iconst (v := 0) (dxX8_isDigit_0 8 rfl) rfl ?_
      exact x_iret (ty := .boolean) rfl rfl (dxX8_isDigit_0 9 rfl) ⟨_, rfl, h⟩
    · replace h := h.2 hc
      refine x_iconst (v := 1) (dxX8_isDigit_0 6 rfl) rfl ?_
      refine x_goto (tgt := 17) (dxX8_isDigit_0 7 rfl) (by decide) ?_
      exact x_iret (ty := .boolean) rfl rfl (dxX8_isDigit_0 9 rfl) ⟨_, rfl, h⟩
-- FAIL ('GluedPaper$Tape', 'isSign', '(C)Z') IndexError('list index out of range')
