theorem vcX2_hasCell {g : GV} {d : Nat} {P : Int32 → PS → Prop} {σ : PS} (hL : Lay σ) (o : Nat) (io : isB o) (p0 : Int32) (h : (p0 < 0 → P 0 σ) ∧ (¬ p0 < 0 → ((mi σ o 0) ≤ p0 → P 0 σ) ∧ (¬ (mi σ o 0) ≤ p0 → P 1 σ))) : CX2_hasCell g d [.ref o, .int p0] σ P := by
  refine x_entry (L := [some (.ref o), some (.int p0)]) pn_2 (Nat.le_of_ble_eq_true rfl) ⟨0, rfl⟩ ?_
  show VX2_hasCell g d P 0 [some (.ref o), some (.int p0)] [] σ
  refine x_iload_n (i := 1) (dxX2_hasCell_0 0 rfl) rfl rfl ?_
  refine x_if_lt (tgt := 16) (dxX2_hasCell_0 1 rfl) (by decide) (fun hc => ?_) (fun hc => ?_)
  · replace h := h.1 hc
    refine x_iconst (v := 0) (dxX2_hasCell_0 8 rfl) rfl ?_
    exact x_iret (ty := .boolean) rfl rfl (dxX2_hasCell_0 9 rfl) ⟨_, rfl, h⟩
  · replace h := h.2 hc
    refine x_iload_n (i := 1) (dxX2_hasCell_0 2 rfl) rfl rfl ?_
    refine x_aload_n (i := 0) (dxX2_hasCell_0 3 rfl) rfl rfl ?_
    refine gf_2_21 (kisB hL io) rfl (dxX2_hasCell_0 4 rfl) ?_
    refine x_icmp_ge (tgt := 16) (dxX2_hasCell_0 5 rfl) (by decide) (fun hc => ?_) (fun hc => ?_)
    · replace h := h.1 hc
      refine x_iconst (v := 0) (dxX2_hasCell_0 8 rfl) rfl ?_
      exact x_iret (ty := .boolean) rfl rfl (dxX2_hasCell_0 9 rfl) ⟨_, rfl, h⟩
    · replace h := h.2 hc
      refine x_iconst (v := 1) (dxX2_hasCell_0 6 rfl) rfl ?_
      refine x_goto (tgt := 17) (dxX2_hasCell_0 7 rfl) (by decide) ?_
      exact x_iret (ty := .boolean) rfl rfl (dxX2_hasCell_0 9 rfl) ⟨_, rfl, h⟩
theorem vcX2_fold {g : GV} {d : Nat} {P : PS → Prop} {σ : PS} (hL : Lay σ) (o : Nat) (io : isB o) (p0 : Nat) (ip0 : isF p0) (p1 np1 : Nat) (kp1 : kd σ p1 = some (.inr (0, np1))) (h : ∀ s1 : PS, s1 = si σ o 0 (mi σ p0 3) → VX2_fold g (d + 1) P 10 [some (.ref o), some (.ref p0), some (.ref p1), some (.int 0), none, none] [] s1) : CX2_fold g (d + 1) [.ref o, .ref p0, .ref p1] σ P := by
  refine x_entry (L := [some (.ref o), some (.ref p0), some (.ref p1), none, none, none]) pn_2 (Nat.le_of_ble_eq_true rfl) ⟨3, rfl⟩ ?_
  show VX2_fold g (d + 1) P 0 [some (.ref o), some (.ref p0), some (.ref p1), none, none, none] [] σ
  refine x_aload_n (i := 0) (dxX2_fold_0 0 rfl) rfl rfl ?_
  refine x_aload_n (i := 1) (dxX2_fold_0 1 rfl) rfl rfl ?_
  refine gf_2_25 (kisF hL ip0) rfl (dxX2_fold_0 2 rfl) ?_
  refine pf_2_21 (kisB hL io) (dxX2_fold_0 3 rfl) ?_
  refine x_sto (fun s1 e2 => ?_)
  replace h := h s1 e2
  have hKs1 : kd s1 = kd σ := by rw [e2]; exact (rfl : kd σ = kd σ)
  have hLs1 : Lay s1 := by rw [e2]; exact hL.si
  refine x_iconst (v := 0) (dxX2_fold_0 4 rfl) rfl ?_
  refine x_istore_n (i := 3) (dxX2_fold_0 5 rfl) rfl (Nat.le_of_ble_eq_true rfl) rfl rfl ?_
  exact h
theorem vcX2_fold_10 {g : GV} {d : Nat} {P : PS → Prop} {σ : PS} (hL : Lay σ) (l0 : Nat) (il0 : isB l0) (l1 : Nat) (il1 : isF l1) (l2 nl2 : Nat) (kl2 : kd σ l2 = some (.inr (0, nl2))) (l3 : Int32) (h : (((mi σ l0 0) * 4) ≤ l3 → VX2_fold g (d + 1) P 116 [some (.ref l0), none, none, some (.int 0), none, none] [] σ) ∧ (¬ ((mi σ l0 0) * 4) ≤ l3 → vp_in l3 40 ∧ ∀ x4 : Int32, x4 = mi σ (l1 + 5) (Int32.toNatClampNeg l3) → CX4_hasEdge g d [.ref l1, .int x4] σ (fun (v7 : Int32) (s6 : PS) => Fr σ s6 ∧ (v7 = 0 → CX4_hasEdge g d [.ref l1, .int (-1)] s6 (fun (v9 : Int32) (s8 : PS) => Fr s6 s8 ∧ (v9 = 0 → vp_in l3 40 ∧ vp_in l3 40 ∧ ∀ s12 : PS, s12 = si s8 (l0 + 1) (Int32.toNatClampNeg l3) (mi s8 (l1 + 4) (Int32.toNatClampNeg l3)) → vp_in l3 40 ∧ ∀ s15 : PS, s15 = si s12 (l0 + 2) (Int32.toNatClampNeg l3) (jrem (l3 + 2) 4) → ∀ x17 : Int32, x17 = l3 + 1 → VX2_fold g (d + 1) P 10 [some (.ref l0), some (.ref l1), some (.ref l2), some (.int x17), none, none] [] s15) ∧ (¬ v9 = 0 → vp_in (-1) 22 ∧ vp_in l3 40 ∧ ∀ s21 : PS, s21 = si s8 (l0 + 1) (Int32.toNatClampNeg l3) (mi s8 (l1 + 6) (Int32.toNatClampNeg (-1))) → vp_in (-1) 22 ∧ vp_in l3 40 ∧ ∀ s25 : PS, s25 = si s21 (l0 + 2) (Int32.toNatClampNeg l3) (mi s21 (l1 + 7) (Int32.toNatClampNeg (-1))) → ∀ x27 : Int32, x27 = l3 + 1 → VX2_fold g (d + 1) P 10 [some (.ref l0), some (.ref l1), some (.ref l2), some (.int x27), none, none] [] s25))) ∧ (¬ v7 = 0 → vp_in x4 nl2 ∧ ∀ x30 : Int32, x30 = mi s6 l2 (Int32.toNatClampNeg x4) → CX4_hasEdge g d [.ref l1, .int x30] s6 (fun (v33 : Int32) (s32 : PS) => Fr s6 s32 ∧ (v33 = 0 → vp_in l3 40 ∧ vp_in l3 40 ∧ ∀ s36 : PS, s36 = si s32 (l0 + 1) (Int32.toNatClampNeg l3) (mi s32 (l1 + 4) (Int32.toNatClampNeg l3)) → vp_in l3 40 ∧ ∀ s39 : PS, s39 = si s36 (l0 + 2) (Int32.toNatClampNeg l3) (jrem (l3 + 2) 4) → ∀ x41 : Int32, x41 = l3 + 1 → VX2_fold g (d + 1) P 10 [some (.ref l0), some (.ref l1), some (.ref l2), some (.int x41), none, none] [] s39) ∧ (¬ v33 = 0 → vp_in x30 22 ∧ vp_in l3 40 ∧ ∀ s45 : PS, s45 = si s32 (l0 + 1) (Int32.toNatClampNeg l3) (mi s32 (l1 + 6) (Int32.toNatClampNeg x30)) → vp_in x30 22 ∧ vp_in l3 40 ∧ ∀ s49 : PS, s49 = si s45 (l0 + 2) (Int32.toNatClampNeg l3) (mi s45 (l1 + 7) (Int32.toNatClampNeg x30)) → ∀ x51 : Int32, x51 = l3 + 1 → VX2_fold g (d + 1) P 10 [some (.ref l0), some (.ref l1), some (.ref l2), some (.int x51), none, none] [] s49)))))) : VX2_fold g (d + 1) P 10 [some (.ref l0), some (.ref l1), some (.ref l2), some (.int l3), none, none] [] σ := by
  refine x_iload_n (i := 3) (dxX2_fold_0 6 rfl) rfl rfl ?_
  refine x_aload_n (i := 0) (dxX2_fold_0 7 rfl) rfl rfl ?_
  refine gf_2_21 (kisB hL il0) rfl (dxX2_fold_0 8 rfl) ?_
  refine x_iconst (v := 4) (dxX2_fold_0 9 rfl) rfl ?_
  refine x_imul (dxX2_fold_0 10 rfl) ?_
  refine x_icmp_ge (tgt := 114) (dxX2_fold_0 11 rfl) (by decide) (fun hc => ?_) (fun hc => ?_)
  · replace h := h.1 hc
    refine x_iconst (v := 0) (dxX2_fold_2 3 rfl) rfl ?_
    refine x_istore_n (i := 3) (dxX2_fold_2 4 rfl) rfl (Nat.le_of_ble_eq_true rfl) rfl rfl ?_
    refine x_mask [true, false, false, true, false, false] (L1 := [some (.ref l0), none, none, some (.int 0), none, none]) rfl ?_
    exact h
  · replace h := h.2 hc
    refine x_aload_n (i := 1) (dxX2_fold_0 12 rfl) rfl rfl ?_
    refine gf_2_28 (kisF hL il1) (risF_5 hL il1) (dxX2_fold_0 13 rfl) ?_
    refine x_iload_n (i := 3) (dxX2_fold_0 14 rfl) rfl rfl ?_
    obtain ⟨hi3, h⟩ := h
    refine x_iald (kisF_5 hL il1) hi3 (dxX2_fold_0 15 rfl) ?_
    refine x_topi (fun x4 e5 => ?_)
    replace h := h x4 e5
    refine x_istore (dxX2_fold_0 16 rfl) (Nat.le_of_ble_eq_true rfl) rfl rfl ?_
    refine x_aload_n (i := 1) (dxX2_fold_0 17 rfl) rfl rfl ?_
    refine x_iload (dxX2_fold_0 18 rfl) rfl ?_
    refine cl_2_31 (kisF hL il1) (Nat.le_of_ble_eq_true rfl) (dxX2_fold_0 19 rfl) h (fun v7 s6 h => ?_) (Nat.le_refl _) (Nat.le_refl _)
    obtain ⟨hFs6, h⟩ := h
    have hKs6 : kd s6 = kd σ := hFs6.1.trans (rfl : kd σ = kd σ)
    have hLs6 : Lay s6 := hL.fr hFs6
    refine x_if_eq (tgt := 44) (dxX2_fold_0 20 rfl) (by decide) (fun hc => ?_) (fun hc => ?_)
    · replace h := h.1 hc
      refine x_iconst (v := (-1)) (dxX2_fold_0 25 rfl) rfl ?_
      refine x_istore (dxX2_fold_0 26 rfl) (Nat.le_of_ble_eq_true rfl) rfl rfl ?_
      refine x_aload_n (i := 1) (dxX2_fold_0 27 rfl) rfl rfl ?_
      refine x_iload (dxX2_fold_0 28 rfl) rfl ?_
      refine cl_2_31 (kisF hLs6 il1) (Nat.le_of_ble_eq_true rfl) (dxX2_fold_0 29 rfl) h (fun v9 s8 h => ?_) (Nat.le_refl _) (Nat.le_refl _)
      obtain ⟨hFs8, h⟩ := h
      have hKs8 : kd s8 = kd σ := hFs8.1.trans hKs6
      have hLs8 : Lay s8 := hLs6.fr hFs8
      refine x_if_eq (tgt := 85) (dxX2_fold_0 30 rfl) (by decide) (fun hc => ?_) (fun hc => ?_)
      · replace h := h.1 hc
        refine x_aload_n (i := 0) (dxX2_fold_1 16 rfl) rfl rfl ?_
        refine gf_2_9 (kisB hLs8 il0) (risB_1 hLs8 il0) (dxX2_fold_1 17 rfl) ?_
        refine x_iload_n (i := 3) (dxX2_fold_1 18 rfl) rfl rfl ?_
        refine x_aload_n (i := 1) (dxX2_fold_1 19 rfl) rfl rfl ?_
        refine gf_2_41 (kisF hLs8 il1) (risF_4 hLs8 il1) (dxX2_fold_1 20 rfl) ?_
        refine x_iload_n (i := 3) (dxX2_fold_1 21 rfl) rfl rfl ?_
        obtain ⟨hi10, h⟩ := h
        refine x_iald (kisF_4 hLs8 il1) hi10 (dxX2_fold_1 22 rfl) ?_
        obtain ⟨hi11, h⟩ := h
        refine x_iast (kisB_1 hLs8 il0) hi11 (dxX2_fold_1 23 rfl) ?_
        refine x_sto (fun s12 e13 => ?_)
        replace h := h s12 e13
        have hKs12 : kd s12 = kd σ := by rw [e13]; exact hKs8
        have hLs12 : Lay s12 := by rw [e13]; exact hLs8.si
        refine x_aload_n (i := 0) (dxX2_fold_1 24 rfl) rfl rfl ?_
        refine gf_2_15 (kisB hLs12 il0) (risB_2 hLs12 il0) (dxX2_fold_1 25 rfl) ?_
        refine x_iload_n (i := 3) (dxX2_fold_1 26 rfl) rfl rfl ?_
        refine x_iload_n (i := 3) (dxX2_fold_1 27 rfl) rfl rfl ?_
        refine x_iconst (v := 2) (dxX2_fold_1 28 rfl) rfl ?_
        refine x_iadd (dxX2_fold_1 29 rfl) ?_
        refine x_iconst (v := 4) (dxX2_fold_1 30 rfl) rfl ?_
        refine x_irem (dxX2_fold_1 31 rfl) (by decide) ?_
        obtain ⟨hi14, h⟩ := h
        refine x_iast (kisB_2 hLs12 il0) hi14 (dxX2_fold_2 0 rfl) ?_
        refine x_sto (fun s15 e16 => ?_)
        replace h := h s15 e16
        have hKs15 : kd s15 = kd σ := by rw [e16]; exact hKs12
        have hLs15 : Lay s15 := by rw [e16]; exact hLs12.si
        obtain ⟨x17, e18⟩ : ∃ y : Int32, y = l3 + 1 := ⟨_, rfl⟩
        replace h := h x17 e18
        refine x_iinc (v := x17) (dxX2_fold_2 1 rfl) (i := 3) rfl (by rw [e18]; rfl) (Nat.le_of_ble_eq_true rfl) rfl rfl ?_
        refine x_goto (tgt := 10) (dxX2_fold_2 2 rfl) (by decide) ?_
        refine x_mask [true, true, true, true, false, false] (L1 := [some (.ref l0), some (.ref l1), some (.ref l2), some (.int x17), none, none]) rfl ?_
        exact h
      · replace h := h.2 hc
        refine x_aload_n (i := 0) (dxX2_fold_0 31 rfl) rfl rfl ?_
        refine gf_2_9 (kisB hLs8 il0) (risB_1 hLs8 il0) (dxX2_fold_1 0 rfl) ?_
        refine x_iload_n (i := 3) (dxX2_fold_1 1 rfl) rfl rfl ?_
        refine x_aload_n (i := 1) (dxX2_fold_1 2 rfl) rfl rfl ?_
        refine gf_2_35 (kisF hLs8 il1) (risF_7 hLs8 il1) (dxX2_fold_1 3 rfl) ?_
        refine x_iload (dxX2_fold_1 4 rfl) rfl ?_
        obtain ⟨hi19, h⟩ := h
        refine x_iald (kisF_7 hLs8 il1) hi19 (dxX2_fold_1 5 rfl) ?_
        obtain ⟨hi20, h⟩ := h
        refine x_iast (kisB_1 hLs8 il0) hi20 (dxX2_fold_1 6 rfl) ?_
        refine x_sto (fun s21 e22 => ?_)
        replace h := h s21 e22
        have hKs21 : kd s21 = kd σ := by rw [e22]; exact hKs8
        have hLs21 : Lay s21 := by rw [e22]; exact hLs8.si
        refine x_aload_n (i := 0) (dxX2_fold_1 7 rfl) rfl rfl ?_
        refine gf_2_15 (kisB hLs21 il0) (risB_2 hLs21 il0) (dxX2_fold_1 8 rfl) ?_
        refine x_iload_n (i := 3) (dxX2_fold_1 9 rfl) rfl rfl ?_
        refine x_aload_n (i := 1) (dxX2_fold_1 10 rfl) rfl rfl ?_
        refine gf_2_38 (kisF hLs21 il1) (risF_8 hLs21 il1) (dxX2_fold_1 11 rfl) ?_
        refine x_iload (dxX2_fold_1 12 rfl) rfl ?_
        obtain ⟨hi23, h⟩ := h
        refine x_iald (kisF_8 hLs21 il1) hi23 (dxX2_fold_1 13 rfl) ?_
        obtain ⟨hi24, h⟩ := h
        refine x_iast (kisB_2 hLs21 il0) hi24 (dxX2_fold_1 14 rfl) ?_
        refine x_sto (fun s25 e26 => ?_)
        replace h := h s25 e26
        have hKs25 : kd s25 = kd σ := by rw [e26]; exact hKs21
        have hLs25 : Lay s25 := by rw [e26]; exact hLs21.si
        refine x_goto (tgt := 108) (dxX2_fold_1 15 rfl) (by decide) ?_
        obtain ⟨x27, e28⟩ : ∃ y : Int32, y = l3 + 1 := ⟨_, rfl⟩
        replace h := h x27 e28
        refine x_iinc (v := x27) (dxX2_fold_2 1 rfl) (i := 3) rfl (by rw [e28]; rfl) (Nat.le_of_ble_eq_true rfl) rfl rfl ?_
        refine x_goto (tgt := 10) (dxX2_fold_2 2 rfl) (by decide) ?_
        refine x_mask [true, true, true, true, false, false] (L1 := [some (.ref l0), some (.ref l1), some (.ref l2), some (.int x27), none, none]) rfl ?_
        exact h
    · replace h := h.2 hc
      refine x_aload_n (i := 2) (dxX2_fold_0 21 rfl) rfl rfl ?_
      refine x_iload (dxX2_fold_0 22 rfl) rfl ?_
      obtain ⟨hi29, h⟩ := h
      refine x_iald ((congrFun hKs6 _).trans kl2) hi29 (dxX2_fold_0 23 rfl) ?_
      refine x_goto (tgt := 45) (dxX2_fold_0 24 rfl) (by decide) ?_
      refine x_topi (fun x30 e31 => ?_)
      replace h := h x30 e31
      refine x_istore (dxX2_fold_0 26 rfl) (Nat.le_of_ble_eq_true rfl) rfl rfl ?_
      refine x_aload_n (i := 1) (dxX2_fold_0 27 rfl) rfl rfl ?_
      refine x_iload (dxX2_fold_0 28 rfl) rfl ?_
      refine cl_2_31 (kisF hLs6 il1) (Nat.le_of_ble_eq_true rfl) (dxX2_fold_0 29 rfl) h (fun v33 s32 h => ?_) (Nat.le_refl _) (Nat.le_refl _)
      obtain ⟨hFs32, h⟩ := h
      have hKs32 : kd s32 = kd σ := hFs32.1.trans hKs6
      have hLs32 : Lay s32 := hLs6.fr hFs32
      refine x_if_eq (tgt := 85) (dxX2_fold_0 30 rfl) (by decide) (fun hc => ?_) (fun hc => ?_)
      · replace h := h.1 hc
        refine x_aload_n (i := 0) (dxX2_fold_1 16 rfl) rfl rfl ?_
        refine gf_2_9 (kisB hLs32 il0) (risB_1 hLs32 il0) (dxX2_fold_1 17 rfl) ?_
        refine x_iload_n (i := 3) (dxX2_fold_1 18 rfl) rfl rfl ?_
        refine x_aload_n (i := 1) (dxX2_fold_1 19 rfl) rfl rfl ?_
        refine gf_2_41 (kisF hLs32 il1) (risF_4 hLs32 il1) (dxX2_fold_1 20 rfl) ?_
        refine x_iload_n (i := 3) (dxX2_fold_1 21 rfl) rfl rfl ?_
        obtain ⟨hi34, h⟩ := h
        refine x_iald (kisF_4 hLs32 il1) hi34 (dxX2_fold_1 22 rfl) ?_
        obtain ⟨hi35, h⟩ := h
        refine x_iast (kisB_1 hLs32 il0) hi35 (dxX2_fold_1 23 rfl) ?_
        refine x_sto (fun s36 e37 => ?_)
        replace h := h s36 e37
        have hKs36 : kd s36 = kd σ := by rw [e37]; exact hKs32
        have hLs36 : Lay s36 := by rw [e37]; exact hLs32.si
        refine x_aload_n (i := 0) (dxX2_fold_1 24 rfl) rfl rfl ?_
        refine gf_2_15 (kisB hLs36 il0) (risB_2 hLs36 il0) (dxX2_fold_1 25 rfl) ?_
        refine x_iload_n (i := 3) (dxX2_fold_1 26 rfl) rfl rfl ?_
        refine x_iload_n (i := 3) (dxX2_fold_1 27 rfl) rfl rfl ?_
        refine x_iconst (v := 2) (dxX2_fold_1 28 rfl) rfl ?_
        refine x_iadd (dxX2_fold_1 29 rfl) ?_
        refine x_iconst (v := 4) (dxX2_fold_1 30 rfl) rfl ?_
        refine x_irem (dxX2_fold_1 31 rfl) (by decide) ?_
        obtain ⟨hi38, h⟩ := h
        refine x_iast (kisB_2 hLs36 il0) hi38 (dxX2_fold_2 0 rfl) ?_
        refine x_sto (fun s39 e40 => ?_)
        replace h := h s39 e40
        have hKs39 : kd s39 = kd σ := by rw [e40]; exact hKs36
        have hLs39 : Lay s39 := by rw [e40]; exact hLs36.si
        obtain ⟨x41, e42⟩ : ∃ y : Int32, y = l3 + 1 := ⟨_, rfl⟩
        replace h := h x41 e42
        refine x_iinc (v := x41) (dxX2_fold_2 1 rfl) (i := 3) rfl (by rw [e42]; rfl) (Nat.le_of_ble_eq_true rfl) rfl rfl ?_
        refine x_goto (tgt := 10) (dxX2_fold_2 2 rfl) (by decide) ?_
        refine x_mask [true, true, true, true, false, false] (L1 := [some (.ref l0), some (.ref l1), some (.ref l2), some (.int x41), none, none]) rfl ?_
        exact h
      · replace h := h.2 hc
        refine x_aload_n (i := 0) (dxX2_fold_0 31 rfl) rfl rfl ?_
        refine gf_2_9 (kisB hLs32 il0) (risB_1 hLs32 il0) (dxX2_fold_1 0 rfl) ?_
        refine x_iload_n (i := 3) (dxX2_fold_1 1 rfl) rfl rfl ?_
        refine x_aload_n (i := 1) (dxX2_fold_1 2 rfl) rfl rfl ?_
        refine gf_2_35 (kisF hLs32 il1) (risF_7 hLs32 il1) (dxX2_fold_1 3 rfl) ?_
        refine x_iload (dxX2_fold_1 4 rfl) rfl ?_
        obtain ⟨hi43, h⟩ := h
        refine x_iald (kisF_7 hLs32 il1) hi43 (dxX2_fold_1 5 rfl) ?_
        obtain ⟨hi44, h⟩ := h
        refine x_iast (kisB_1 hLs32 il0) hi44 (dxX2_fold_1 6 rfl) ?_
        refine x_sto (fun s45 e46 => ?_)
        replace h := h s45 e46
        have hKs45 : kd s45 = kd σ := by rw [e46]; exact hKs32
        have hLs45 : Lay s45 := by rw [e46]; exact hLs32.si
        refine x_aload_n (i := 0) (dxX2_fold_1 7 rfl) rfl rfl ?_
        refine gf_2_15 (kisB hLs45 il0) (risB_2 hLs45 il0) (dxX2_fold_1 8 rfl) ?_
        refine x_iload_n (i := 3) (dxX2_fold_1 9 rfl) rfl rfl ?_
        refine x_aload_n (i := 1) (dxX2_fold_1 10 rfl) rfl rfl ?_
        refine gf_2_38 (kisF hLs45 il1) (risF_8 hLs45 il1) (dxX2_fold_1 11 rfl) ?_
        refine x_iload (dxX2_fold_1 12 rfl) rfl ?_
        obtain ⟨hi47, h⟩ := h
        refine x_iald (kisF_8 hLs45 il1) hi47 (dxX2_fold_1 13 rfl) ?_
        obtain ⟨hi48, h⟩ := h
        refine x_iast (kisB_2 hLs45 il0) hi48 (dxX2_fold_1 14 rfl) ?_
        refine x_sto (fun s49 e50 => ?_)
        replace h := h s49 e50
        have hKs49 : kd s49 = kd σ := by rw [e50]; exact hKs45
        have hLs49 : Lay s49 := by rw [e50]; exact hLs45.si
        refine x_goto (tgt := 108) (dxX2_fold_1 15 rfl) (by decide) ?_
        obtain ⟨x51, e52⟩ : ∃ y : Int32, y = l3 + 1 := ⟨_, rfl⟩
        replace h := h x51 e52
        refine x_iinc (v := x51) (dxX2_fold_2 1 rfl) (i := 3) rfl (by rw [e52]; rfl) (Nat.le_of_ble_eq_true rfl) rfl rfl ?_
        refine x_goto (tgt := 10) (dxX2_fold_2 2 rfl) (by decide) ?_
        refine x_mask [true, true, true, true, false, false] (L1 := [some (.ref l0), some (.ref l1), some (.ref l2), some (.int x51), none, none]) rfl ?_
        exact h
theorem vcX2_fold_116 {g : GV} {d : Nat} {P : PS → Prop} {σ : PS} (hL : Lay σ) (l0 : Nat) (il0 : isB l0) (l3 : Int32) (h : (((mi σ l0 0) * 4) ≤ l3 → P σ) ∧ (¬ ((mi σ l0 0) * 4) ≤ l3 → CX2_turnAt g d [.ref l0, .int l3] σ (fun (v54 : Int32) (s53 : PS) => Fr σ s53 ∧ vp_in l3 40 ∧ ∀ s56 : PS, s56 = si s53 (l0 + 3) (Int32.toNatClampNeg l3) v54 → ∀ x58 : Int32, x58 = l3 + 1 → VX2_fold g (d + 1) P 116 [some (.ref l0), none, none, some (.int x58), none, none] [] s56))) : VX2_fold g (d + 1) P 116 [some (.ref l0), none, none, some (.int l3), none, none] [] σ := by
  refine x_iload_n (i := 3) (dxX2_fold_2 5 rfl) rfl rfl ?_
  refine x_aload_n (i := 0) (dxX2_fold_2 6 rfl) rfl rfl ?_
  refine gf_2_21 (kisB hL il0) rfl (dxX2_fold_2 7 rfl) ?_
  refine x_iconst (v := 4) (dxX2_fold_2 8 rfl) rfl ?_
  refine x_imul (dxX2_fold_2 9 rfl) ?_
  refine x_icmp_ge (tgt := 143) (dxX2_fold_2 10 rfl) (by decide) (fun hc => ?_) (fun hc => ?_)
  · replace h := h.1 hc
    exact x_vret rfl (dxX2_fold_2 20 rfl) ⟨rfl, h⟩
  · replace h := h.2 hc
    refine x_aload_n (i := 0) (dxX2_fold_2 11 rfl) rfl rfl ?_
    refine gf_2_18 (kisB hL il0) (risB_3 hL il0) (dxX2_fold_2 12 rfl) ?_
    refine x_iload_n (i := 3) (dxX2_fold_2 13 rfl) rfl rfl ?_
    refine x_aload_n (i := 0) (dxX2_fold_2 14 rfl) rfl rfl ?_
    refine x_iload_n (i := 3) (dxX2_fold_2 15 rfl) rfl rfl ?_
    refine cl_2_44 (kisB hL il0) (Nat.le_of_ble_eq_true rfl) (dxX2_fold_2 16 rfl) h (fun v54 s53 h => ?_) (Nat.le_refl _) (Nat.le_refl _)
    obtain ⟨hFs53, h⟩ := h
    have hKs53 : kd s53 = kd σ := hFs53.1.trans (rfl : kd σ = kd σ)
    have hLs53 : Lay s53 := hL.fr hFs53
    obtain ⟨hi55, h⟩ := h
    refine x_iast (kisB_3 hLs53 il0) hi55 (dxX2_fold_2 17 rfl) ?_
    refine x_sto (fun s56 e57 => ?_)
    replace h := h s56 e57
    have hKs56 : kd s56 = kd σ := by rw [e57]; exact hKs53
    have hLs56 : Lay s56 := by rw [e57]; exact hLs53.si
    obtain ⟨x58, e59⟩ : ∃ y : Int32, y = l3 + 1 := ⟨_, rfl⟩
    replace h := h x58 e59
    refine x_iinc (v := x58) (dxX2_fold_2 18 rfl) (i := 3) rfl (by rw [e59]; rfl) (Nat.le_of_ble_eq_true rfl) rfl rfl ?_
    refine x_goto (tgt := 116) (dxX2_fold_2 19 rfl) (by decide) ?_
    exact h
theorem vcX2_turnAt {g : GV} {d : Nat} {P : Int32 → PS → Prop} {σ : PS} (hL : Lay σ) (o : Nat) (io : isB o) (p0 : Int32) (h : VX2_turnAt g d P 4 [some (.ref o), some (.int p0), some (.int p0), some (.int 0), none] [] σ) : CX2_turnAt g d [.ref o, .int p0] σ P := by
  refine x_entry (L := [some (.ref o), some (.int p0), none, none, none]) pn_2 (Nat.le_of_ble_eq_true rfl) ⟨3, rfl⟩ ?_
  show VX2_turnAt g d P 0 [some (.ref o), some (.int p0), none, none, none] [] σ
  refine x_iload_n (i := 1) (dxX2_turnAt_0 0 rfl) rfl rfl ?_
  refine x_istore_n (i := 2) (dxX2_turnAt_0 1 rfl) rfl (Nat.le_of_ble_eq_true rfl) rfl rfl ?_
  refine x_iconst (v := 0) (dxX2_turnAt_0 2 rfl) rfl ?_
  refine x_istore_n (i := 3) (dxX2_turnAt_0 3 rfl) rfl (Nat.le_of_ble_eq_true rfl) rfl rfl ?_
  exact h
theorem vcX2_turnAt_4 {g : GV} {d : Nat} {P : Int32 → PS → Prop} {σ : PS} (hL : Lay σ) (l0 : Nat) (il0 : isB l0) (l1 : Int32) (l2 : Int32) (l3 : Int32) (h : ∀ x1 : Int32, x1 = ((l2 / 4) * 4) + (jrem (l2 + 1) 4) → vp_in x1 40 ∧ vp_in x1 40 ∧ ∀ x5 : Int32, x5 = ((mi σ (l0 + 1) (Int32.toNatClampNeg x1)) * 4) + (mi σ (l0 + 2) (Int32.toNatClampNeg x1)) → ∀ x7 : Int32, x7 = l3 + 1 → (x5 = l1 → P x7 σ) ∧ (¬ x5 = l1 → (x7 < 40 → VX2_turnAt g d P 4 [some (.ref l0), some (.int l1), some (.int x5), some (.int x7), none] [] σ) ∧ (¬ x7 < 40 → P x7 σ))) : VX2_turnAt g d P 4 [some (.ref l0), some (.int l1), some (.int l2), some (.int l3), none] [] σ := by
  refine x_iload_n (i := 2) (dxX2_turnAt_0 4 rfl) rfl rfl ?_
  refine x_iconst (v := 4) (dxX2_turnAt_0 5 rfl) rfl ?_
  refine x_idiv (dxX2_turnAt_0 6 rfl) (by decide) ?_
  refine x_iconst (v := 4) (dxX2_turnAt_0 7 rfl) rfl ?_
  refine x_imul (dxX2_turnAt_0 8 rfl) ?_
  refine x_iload_n (i := 2) (dxX2_turnAt_0 9 rfl) rfl rfl ?_
  refine x_iconst (v := 1) (dxX2_turnAt_0 10 rfl) rfl ?_
  refine x_iadd (dxX2_turnAt_0 11 rfl) ?_
  refine x_iconst (v := 4) (dxX2_turnAt_0 12 rfl) rfl ?_
  refine x_irem (dxX2_turnAt_0 13 rfl) (by decide) ?_
  refine x_iadd (dxX2_turnAt_0 14 rfl) ?_
  refine x_topi (fun x1 e2 => ?_)
  replace h := h x1 e2
  refine x_istore (dxX2_turnAt_0 15 rfl) (Nat.le_of_ble_eq_true rfl) rfl rfl ?_
  refine x_aload_n (i := 0) (dxX2_turnAt_0 16 rfl) rfl rfl ?_
  refine gf_2_9 (kisB hL il0) (risB_1 hL il0) (dxX2_turnAt_0 17 rfl) ?_
  refine x_iload (dxX2_turnAt_0 18 rfl) rfl ?_
  obtain ⟨hi3, h⟩ := h
  refine x_iald (kisB_1 hL il0) hi3 (dxX2_turnAt_0 19 rfl) ?_
  refine x_iconst (v := 4) (dxX2_turnAt_0 20 rfl) rfl ?_
  refine x_imul (dxX2_turnAt_0 21 rfl) ?_
  refine x_aload_n (i := 0) (dxX2_turnAt_0 22 rfl) rfl rfl ?_
  refine gf_2_15 (kisB hL il0) (risB_2 hL il0) (dxX2_turnAt_0 23 rfl) ?_
  refine x_iload (dxX2_turnAt_0 24 rfl) rfl ?_
  obtain ⟨hi4, h⟩ := h
  refine x_iald (kisB_2 hL il0) hi4 (dxX2_turnAt_0 25 rfl) ?_
  refine x_iadd (dxX2_turnAt_0 26 rfl) ?_
  refine x_topi (fun x5 e6 => ?_)
  replace h := h x5 e6
  refine x_istore_n (i := 2) (dxX2_turnAt_0 27 rfl) rfl (Nat.le_of_ble_eq_true rfl) rfl rfl ?_
  obtain ⟨x7, e8⟩ : ∃ y : Int32, y = l3 + 1 := ⟨_, rfl⟩
  replace h := h x7 e8
  refine x_iinc (v := x7) (dxX2_turnAt_0 28 rfl) (i := 3) rfl (by rw [e8]; rfl) (Nat.le_of_ble_eq_true rfl) rfl rfl ?_
  refine x_iload_n (i := 2) (dxX2_turnAt_0 29 rfl) rfl rfl ?_
  refine x_iload_n (i := 1) (dxX2_turnAt_0 30 rfl) rfl rfl ?_
  refine x_icmp_eq (tgt := 49) (dxX2_turnAt_0 31 rfl) (by decide) (fun hc => ?_) (fun hc => ?_)
  · replace h := h.1 hc
    refine x_iload_n (i := 3) (dxX2_turnAt_1 3 rfl) rfl rfl ?_
    exact x_iret (ty := .int) rfl rfl (dxX2_turnAt_1 4 rfl) ⟨_, rfl, h⟩
  · replace h := h.2 hc
    refine x_iload_n (i := 3) (dxX2_turnAt_1 0 rfl) rfl rfl ?_
    refine x_bipush (v := 40) (dxX2_turnAt_1 1 rfl) rfl ?_
    refine x_icmp_lt (tgt := 4) (dxX2_turnAt_1 2 rfl) (by decide) (fun hc => ?_) (fun hc => ?_)
    · replace h := h.1 hc
      refine x_mask [true, true, true, true, false] (L1 := [some (.ref l0), some (.int l1), some (.int x5), some (.int x7), none]) rfl ?_
      exact h
    · replace h := h.2 hc
      refine x_iload_n (i := 3) (dxX2_turnAt_1 3 rfl) rfl rfl ?_
      exact x_iret (ty := .int) rfl rfl (dxX2_turnAt_1 4 rfl) ⟨_, rfl, h⟩
