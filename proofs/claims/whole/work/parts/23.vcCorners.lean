theorem vcX3_start {g : GV} {d : Nat} {P : PS → Prop} {σ : PS} (hL : Lay σ) (o : Nat) (io : isC o) (p0 : Nat) (ip0 : isF p0) (h : ∀ s1 : PS, s1 = si σ o 0 (mi σ p0 6) → VX3_start g d P 10 [some (.ref o), some (.ref p0), some (.int 0)] [] s1) : CX3_start g d [.ref o, .ref p0] σ P := by
  refine x_entry (L := [some (.ref o), some (.ref p0), none]) pn_3 (Nat.le_of_ble_eq_true rfl) ⟨1, rfl⟩ ?_
  show VX3_start g d P 0 [some (.ref o), some (.ref p0), none] [] σ
  refine x_aload_n (i := 0) (dxX3_start_0 0 rfl) rfl rfl ?_
  refine x_aload_n (i := 1) (dxX3_start_0 1 rfl) rfl rfl ?_
  refine gf_3_18 (kisF hL ip0) rfl (dxX3_start_0 2 rfl) ?_
  refine pf_3_24 (kisC hL io) (dxX3_start_0 3 rfl) ?_
  refine x_sto (fun s1 e2 => ?_)
  replace h := h s1 e2
  have hKs1 : kd s1 = kd σ := by rw [e2]; exact (rfl : kd σ = kd σ)
  have hLs1 : Lay s1 := by rw [e2]; exact hL.si
  refine x_iconst (v := 0) (dxX3_start_0 4 rfl) rfl ?_
  refine x_istore_n (i := 2) (dxX3_start_0 5 rfl) rfl (Nat.le_of_ble_eq_true rfl) rfl rfl ?_
  exact h
theorem vcX3_start_10 {g : GV} {d : Nat} {P : PS → Prop} {σ : PS} (hL : Lay σ) (l0 : Nat) (il0 : isC l0) (l1 : Nat) (il1 : isF l1) (l2 : Int32) (h : ((mi σ l0 0) ≤ l2 → P σ) ∧ (¬ (mi σ l0 0) ≤ l2 → vp_in l2 22 ∧ ∀ s4 : PS, s4 = si σ (l0 + 1) (Int32.toNatClampNeg l2) l2 → vp_in l2 22 ∧ vp_in l2 22 ∧ ∀ s8 : PS, s8 = si s4 (l0 + 2) (Int32.toNatClampNeg l2) (mi s4 (l1 + 8) (Int32.toNatClampNeg l2)) → ∀ x10 : Int32, x10 = l2 + 1 → VX3_start g d P 10 [some (.ref l0), some (.ref l1), some (.int x10)] [] s8)) : VX3_start g d P 10 [some (.ref l0), some (.ref l1), some (.int l2)] [] σ := by
  refine x_iload_n (i := 2) (dxX3_start_0 6 rfl) rfl rfl ?_
  refine x_aload_n (i := 0) (dxX3_start_0 7 rfl) rfl rfl ?_
  refine gf_3_24 (kisC hL il0) rfl (dxX3_start_0 8 rfl) ?_
  refine x_icmp_ge (tgt := 43) (dxX3_start_0 9 rfl) (by decide) (fun hc => ?_) (fun hc => ?_)
  · replace h := h.1 hc
    exact x_vret rfl (dxX3_start_0 25 rfl) ⟨rfl, h⟩
  · replace h := h.2 hc
    refine x_aload_n (i := 0) (dxX3_start_0 10 rfl) rfl rfl ?_
    refine gf_3_9 (kisC hL il0) (risC_1 hL il0) (dxX3_start_0 11 rfl) ?_
    refine x_iload_n (i := 2) (dxX3_start_0 12 rfl) rfl rfl ?_
    refine x_iload_n (i := 2) (dxX3_start_0 13 rfl) rfl rfl ?_
    obtain ⟨hi3, h⟩ := h
    refine x_iast (kisC_1 hL il0) hi3 (dxX3_start_0 14 rfl) ?_
    refine x_sto (fun s4 e5 => ?_)
    replace h := h s4 e5
    have hKs4 : kd s4 = kd σ := by rw [e5]; exact (rfl : kd σ = kd σ)
    have hLs4 : Lay s4 := by rw [e5]; exact hL.si
    refine x_aload_n (i := 0) (dxX3_start_0 15 rfl) rfl rfl ?_
    refine gf_3_15 (kisC hLs4 il0) (risC_2 hLs4 il0) (dxX3_start_0 16 rfl) ?_
    refine x_iload_n (i := 2) (dxX3_start_0 17 rfl) rfl rfl ?_
    refine x_aload_n (i := 1) (dxX3_start_0 18 rfl) rfl rfl ?_
    refine gf_3_25 (kisF hLs4 il1) (risF_9 hLs4 il1) (dxX3_start_0 19 rfl) ?_
    refine x_iload_n (i := 2) (dxX3_start_0 20 rfl) rfl rfl ?_
    obtain ⟨hi6, h⟩ := h
    refine x_iald (kisF_9 hLs4 il1) hi6 (dxX3_start_0 21 rfl) ?_
    obtain ⟨hi7, h⟩ := h
    refine x_iast (kisC_2 hLs4 il0) hi7 (dxX3_start_0 22 rfl) ?_
    refine x_sto (fun s8 e9 => ?_)
    replace h := h s8 e9
    have hKs8 : kd s8 = kd σ := by rw [e9]; exact hKs4
    have hLs8 : Lay s8 := by rw [e9]; exact hLs4.si
    obtain ⟨x10, e11⟩ : ∃ y : Int32, y = l2 + 1 := ⟨_, rfl⟩
    replace h := h x10 e11
    refine x_iinc (v := x10) (dxX3_start_0 23 rfl) (i := 2) rfl (by rw [e11]; rfl) (Nat.le_of_ble_eq_true rfl) rfl rfl ?_
    refine x_goto (tgt := 10) (dxX3_start_0 24 rfl) (by decide) ?_
    exact h
theorem vcX3_copy {g : GV} {d : Nat} {P : PS → Prop} {σ : PS} (hL : Lay σ) (o : Nat) (io : isC o) (p0 : Nat) (ip0 : isC p0) (h : ∀ s1 : PS, s1 = si σ o 0 (mi σ p0 0) → (¬ (0 : Int32) < 0 ∧ ¬ (0 : Int32) < 0 ∧ ¬ (22 : Int32) < 0 ∧ Int32.toNatClampNeg (0 : Int32) + Int32.toNatClampNeg (22 : Int32) ≤ 22 ∧ Int32.toNatClampNeg (0 : Int32) + Int32.toNatClampNeg (22 : Int32) ≤ 22) ∧ ∀ s4 : PS, s4 = sa s1 (o + 1) (va_cpy (mi s1 (p0 + 1)) (mi s1 (o + 1)) (Int32.toNatClampNeg (0 : Int32)) (Int32.toNatClampNeg (0 : Int32)) (Int32.toNatClampNeg (22 : Int32))) → (¬ (0 : Int32) < 0 ∧ ¬ (0 : Int32) < 0 ∧ ¬ (22 : Int32) < 0 ∧ Int32.toNatClampNeg (0 : Int32) + Int32.toNatClampNeg (22 : Int32) ≤ 22 ∧ Int32.toNatClampNeg (0 : Int32) + Int32.toNatClampNeg (22 : Int32) ≤ 22) ∧ ∀ s7 : PS, s7 = sa s4 (o + 2) (va_cpy (mi s4 (p0 + 2)) (mi s4 (o + 2)) (Int32.toNatClampNeg (0 : Int32)) (Int32.toNatClampNeg (0 : Int32)) (Int32.toNatClampNeg (22 : Int32))) → P s7) : CX3_copy g d [.ref o, .ref p0] σ P := by
  refine x_entry (L := [some (.ref o), some (.ref p0)]) pn_3 (Nat.le_of_ble_eq_true rfl) ⟨0, rfl⟩ ?_
  show VX3_copy g d P 0 [some (.ref o), some (.ref p0)] [] σ
  refine x_aload_n (i := 0) (dxX3_copy_0 0 rfl) rfl rfl ?_
  refine x_aload_n (i := 1) (dxX3_copy_0 1 rfl) rfl rfl ?_
  refine gf_3_24 (kisC hL ip0) rfl (dxX3_copy_0 2 rfl) ?_
  refine pf_3_24 (kisC hL io) (dxX3_copy_0 3 rfl) ?_
  refine x_sto (fun s1 e2 => ?_)
  replace h := h s1 e2
  have hKs1 : kd s1 = kd σ := by rw [e2]; exact (rfl : kd σ = kd σ)
  have hLs1 : Lay s1 := by rw [e2]; exact hL.si
  refine x_aload_n (i := 1) (dxX3_copy_0 4 rfl) rfl rfl ?_
  refine gf_3_9 (kisC hLs1 ip0) (risC_1 hLs1 ip0) (dxX3_copy_0 5 rfl) ?_
  refine x_iconst (v := 0) (dxX3_copy_0 6 rfl) rfl ?_
  refine x_aload_n (i := 0) (dxX3_copy_0 7 rfl) rfl rfl ?_
  refine gf_3_9 (kisC hLs1 io) (risC_1 hLs1 io) (dxX3_copy_0 8 rfl) ?_
  refine x_iconst (v := 0) (dxX3_copy_0 9 rfl) rfl ?_
  refine x_bipush (v := 22) (dxX3_copy_0 10 rfl) rfl ?_
  obtain ⟨hc3, h⟩ := h
  refine cl_3_26 (kisC_1 hLs1 ip0) (kisC_1 hLs1 io) hc3.1 hc3.2.1 hc3.2.2.1 hc3.2.2.2.1 hc3.2.2.2.2 (Nat.le_of_ble_eq_true rfl) (dxX3_copy_0 11 rfl) ?_
  refine x_sto (fun s4 e5 => ?_)
  replace h := h s4 e5
  have hKs4 : kd s4 = kd σ := by rw [e5]; exact hKs1
  have hLs4 : Lay s4 := by rw [e5]; exact hLs1.sa
  refine x_aload_n (i := 1) (dxX3_copy_0 12 rfl) rfl rfl ?_
  refine gf_3_15 (kisC hLs4 ip0) (risC_2 hLs4 ip0) (dxX3_copy_0 13 rfl) ?_
  refine x_iconst (v := 0) (dxX3_copy_0 14 rfl) rfl ?_
  refine x_aload_n (i := 0) (dxX3_copy_0 15 rfl) rfl rfl ?_
  refine gf_3_15 (kisC hLs4 io) (risC_2 hLs4 io) (dxX3_copy_0 16 rfl) ?_
  refine x_iconst (v := 0) (dxX3_copy_0 17 rfl) rfl ?_
  refine x_bipush (v := 22) (dxX3_copy_0 18 rfl) rfl ?_
  obtain ⟨hc6, h⟩ := h
  refine cl_3_26 (kisC_2 hLs4 ip0) (kisC_2 hLs4 io) hc6.1 hc6.2.1 hc6.2.2.1 hc6.2.2.2.1 hc6.2.2.2.2 (Nat.le_of_ble_eq_true rfl) (dxX3_copy_0 19 rfl) ?_
  refine x_sto (fun s7 e8 => ?_)
  replace h := h s7 e8
  have hKs7 : kd s7 = kd σ := by rw [e8]; exact hKs4
  have hLs7 : Lay s7 := by rw [e8]; exact hLs4.sa
  exact x_vret rfl (dxX3_copy_0 20 rfl) ⟨rfl, h⟩
theorem vcX3_pair {g : GV} {d : Nat} {P : Int32 → PS → Prop} {σ : PS} (hL : Lay σ) (o : Nat) (io : isC o) (p0 : Int32) (p1 : Int32) (h : ((mi σ o 0) ≤ (p0 + 1) → ((mi σ o 0) ≤ (p1 + 1) → CX3_unite g d [.ref o, .int p0, .int 0] σ (fun (v2 : Int32) (s1 : PS) => Fr σ s1 ∧ (4 < v2 → P 0 s1) ∧ (¬ 4 < v2 → CX3_unite g d [.ref o, .int 0, .int p1] s1 (fun (v4 : Int32) (s3 : PS) => Fr s1 s3 ∧ (4 < v4 → P 0 s3) ∧ (¬ 4 < v4 → P 1 s3))))) ∧ (¬ (mi σ o 0) ≤ (p1 + 1) → ∀ x5 : Int32, x5 = p1 + 1 → CX3_unite g d [.ref o, .int p0, .int x5] σ (fun (v8 : Int32) (s7 : PS) => Fr σ s7 ∧ (4 < v8 → P 0 s7) ∧ (¬ 4 < v8 → CX3_unite g d [.ref o, .int 0, .int p1] s7 (fun (v10 : Int32) (s9 : PS) => Fr s7 s9 ∧ (4 < v10 → P 0 s9) ∧ (¬ 4 < v10 → P 1 s9)))))) ∧ (¬ (mi σ o 0) ≤ (p0 + 1) → ∀ x11 : Int32, x11 = p0 + 1 → ((mi σ o 0) ≤ (p1 + 1) → CX3_unite g d [.ref o, .int p0, .int 0] σ (fun (v14 : Int32) (s13 : PS) => Fr σ s13 ∧ (4 < v14 → P 0 s13) ∧ (¬ 4 < v14 → CX3_unite g d [.ref o, .int x11, .int p1] s13 (fun (v16 : Int32) (s15 : PS) => Fr s13 s15 ∧ (4 < v16 → P 0 s15) ∧ (¬ 4 < v16 → P 1 s15))))) ∧ (¬ (mi σ o 0) ≤ (p1 + 1) → ∀ x17 : Int32, x17 = p1 + 1 → CX3_unite g d [.ref o, .int p0, .int x17] σ (fun (v20 : Int32) (s19 : PS) => Fr σ s19 ∧ (4 < v20 → P 0 s19) ∧ (¬ 4 < v20 → CX3_unite g d [.ref o, .int x11, .int p1] s19 (fun (v22 : Int32) (s21 : PS) => Fr s19 s21 ∧ (4 < v22 → P 0 s21) ∧ (¬ 4 < v22 → P 1 s21))))))) : CX3_pair g (d + 1) [.ref o, .int p0, .int p1] σ P := by
  refine x_entry (L := [some (.ref o), some (.int p0), some (.int p1), none, none]) pn_3 (Nat.le_of_ble_eq_true rfl) ⟨2, rfl⟩ ?_
  show VX3_pair g (d + 1) P 0 [some (.ref o), some (.int p0), some (.int p1), none, none] [] σ
  refine x_iload_n (i := 1) (dxX3_pair_0 0 rfl) rfl rfl ?_
  refine x_iconst (v := 1) (dxX3_pair_0 1 rfl) rfl ?_
  refine x_iadd (dxX3_pair_0 2 rfl) ?_
  refine x_aload_n (i := 0) (dxX3_pair_0 3 rfl) rfl rfl ?_
  refine gf_3_24 (kisC hL io) rfl (dxX3_pair_0 4 rfl) ?_
  refine x_icmp_ge (tgt := 16) (dxX3_pair_0 5 rfl) (by decide) (fun hc => ?_) (fun hc => ?_)
  · replace h := h.1 hc
    refine x_iconst (v := 0) (dxX3_pair_0 10 rfl) rfl ?_
    refine x_istore_n (i := 3) (dxX3_pair_0 11 rfl) rfl (Nat.le_of_ble_eq_true rfl) rfl rfl ?_
    refine x_iload_n (i := 2) (dxX3_pair_0 12 rfl) rfl rfl ?_
    refine x_iconst (v := 1) (dxX3_pair_0 13 rfl) rfl ?_
    refine x_iadd (dxX3_pair_0 14 rfl) ?_
    refine x_aload_n (i := 0) (dxX3_pair_0 15 rfl) rfl rfl ?_
    refine gf_3_24 (kisC hL io) rfl (dxX3_pair_0 16 rfl) ?_
    refine x_icmp_ge (tgt := 34) (dxX3_pair_0 17 rfl) (by decide) (fun hc => ?_) (fun hc => ?_)
    · replace h := h.1 hc
      refine x_iconst (v := 0) (dxX3_pair_0 22 rfl) rfl ?_
      refine x_istore (dxX3_pair_0 23 rfl) (Nat.le_of_ble_eq_true rfl) rfl rfl ?_
      refine x_aload_n (i := 0) (dxX3_pair_0 24 rfl) rfl rfl ?_
      refine x_iload_n (i := 1) (dxX3_pair_0 25 rfl) rfl rfl ?_
      refine x_iload (dxX3_pair_0 26 rfl) rfl ?_
      refine cl_3_32 (kisC hL io) (Nat.le_of_ble_eq_true rfl) (dxX3_pair_0 27 rfl) h (fun v2 s1 h => ?_) (Nat.le_refl _) (Nat.le_refl _)
      obtain ⟨hFs1, h⟩ := h
      have hKs1 : kd s1 = kd σ := hFs1.1.trans (rfl : kd σ = kd σ)
      have hLs1 : Lay s1 := hL.fr hFs1
      refine x_iconst (v := 4) (dxX3_pair_0 28 rfl) rfl ?_
      refine x_icmp_gt (tgt := 62) (dxX3_pair_0 29 rfl) (by decide) (fun hc => ?_) (fun hc => ?_)
      · replace h := h.1 hc
        refine x_iconst (v := 0) (dxX3_pair_1 6 rfl) rfl ?_
        exact x_iret (ty := .boolean) rfl rfl (dxX3_pair_1 7 rfl) ⟨_, rfl, h⟩
      · replace h := h.2 hc
        refine x_aload_n (i := 0) (dxX3_pair_0 30 rfl) rfl rfl ?_
        refine x_iload_n (i := 3) (dxX3_pair_0 31 rfl) rfl rfl ?_
        refine x_iload_n (i := 2) (dxX3_pair_1 0 rfl) rfl rfl ?_
        refine cl_3_32 (kisC hLs1 io) (Nat.le_of_ble_eq_true rfl) (dxX3_pair_1 1 rfl) h (fun v4 s3 h => ?_) (Nat.le_refl _) (Nat.le_refl _)
        obtain ⟨hFs3, h⟩ := h
        have hKs3 : kd s3 = kd σ := hFs3.1.trans hKs1
        have hLs3 : Lay s3 := hLs1.fr hFs3
        refine x_iconst (v := 4) (dxX3_pair_1 2 rfl) rfl ?_
        refine x_icmp_gt (tgt := 62) (dxX3_pair_1 3 rfl) (by decide) (fun hc => ?_) (fun hc => ?_)
        · replace h := h.1 hc
          refine x_iconst (v := 0) (dxX3_pair_1 6 rfl) rfl ?_
          exact x_iret (ty := .boolean) rfl rfl (dxX3_pair_1 7 rfl) ⟨_, rfl, h⟩
        · replace h := h.2 hc
          refine x_iconst (v := 1) (dxX3_pair_1 4 rfl) rfl ?_
          refine x_goto (tgt := 63) (dxX3_pair_1 5 rfl) (by decide) ?_
          exact x_iret (ty := .boolean) rfl rfl (dxX3_pair_1 7 rfl) ⟨_, rfl, h⟩
    · replace h := h.2 hc
      refine x_iload_n (i := 2) (dxX3_pair_0 18 rfl) rfl rfl ?_
      refine x_iconst (v := 1) (dxX3_pair_0 19 rfl) rfl ?_
      refine x_iadd (dxX3_pair_0 20 rfl) ?_
      refine x_goto (tgt := 35) (dxX3_pair_0 21 rfl) (by decide) ?_
      refine x_topi (fun x5 e6 => ?_)
      replace h := h x5 e6
      refine x_istore (dxX3_pair_0 23 rfl) (Nat.le_of_ble_eq_true rfl) rfl rfl ?_
      refine x_aload_n (i := 0) (dxX3_pair_0 24 rfl) rfl rfl ?_
      refine x_iload_n (i := 1) (dxX3_pair_0 25 rfl) rfl rfl ?_
      refine x_iload (dxX3_pair_0 26 rfl) rfl ?_
      refine cl_3_32 (kisC hL io) (Nat.le_of_ble_eq_true rfl) (dxX3_pair_0 27 rfl) h (fun v8 s7 h => ?_) (Nat.le_refl _) (Nat.le_refl _)
      obtain ⟨hFs7, h⟩ := h
      have hKs7 : kd s7 = kd σ := hFs7.1.trans (rfl : kd σ = kd σ)
      have hLs7 : Lay s7 := hL.fr hFs7
      refine x_iconst (v := 4) (dxX3_pair_0 28 rfl) rfl ?_
      refine x_icmp_gt (tgt := 62) (dxX3_pair_0 29 rfl) (by decide) (fun hc => ?_) (fun hc => ?_)
      · replace h := h.1 hc
        refine x_iconst (v := 0) (dxX3_pair_1 6 rfl) rfl ?_
        exact x_iret (ty := .boolean) rfl rfl (dxX3_pair_1 7 rfl) ⟨_, rfl, h⟩
      · replace h := h.2 hc
        refine x_aload_n (i := 0) (dxX3_pair_0 30 rfl) rfl rfl ?_
        refine x_iload_n (i := 3) (dxX3_pair_0 31 rfl) rfl rfl ?_
        refine x_iload_n (i := 2) (dxX3_pair_1 0 rfl) rfl rfl ?_
        refine cl_3_32 (kisC hLs7 io) (Nat.le_of_ble_eq_true rfl) (dxX3_pair_1 1 rfl) h (fun v10 s9 h => ?_) (Nat.le_refl _) (Nat.le_refl _)
        obtain ⟨hFs9, h⟩ := h
        have hKs9 : kd s9 = kd σ := hFs9.1.trans hKs7
        have hLs9 : Lay s9 := hLs7.fr hFs9
        refine x_iconst (v := 4) (dxX3_pair_1 2 rfl) rfl ?_
        refine x_icmp_gt (tgt := 62) (dxX3_pair_1 3 rfl) (by decide) (fun hc => ?_) (fun hc => ?_)
        · replace h := h.1 hc
          refine x_iconst (v := 0) (dxX3_pair_1 6 rfl) rfl ?_
          exact x_iret (ty := .boolean) rfl rfl (dxX3_pair_1 7 rfl) ⟨_, rfl, h⟩
        · replace h := h.2 hc
          refine x_iconst (v := 1) (dxX3_pair_1 4 rfl) rfl ?_
          refine x_goto (tgt := 63) (dxX3_pair_1 5 rfl) (by decide) ?_
          exact x_iret (ty := .boolean) rfl rfl (dxX3_pair_1 7 rfl) ⟨_, rfl, h⟩
  · replace h := h.2 hc
    refine x_iload_n (i := 1) (dxX3_pair_0 6 rfl) rfl rfl ?_
    refine x_iconst (v := 1) (dxX3_pair_0 7 rfl) rfl ?_
    refine x_iadd (dxX3_pair_0 8 rfl) ?_
    refine x_goto (tgt := 17) (dxX3_pair_0 9 rfl) (by decide) ?_
    refine x_topi (fun x11 e12 => ?_)
    replace h := h x11 e12
    refine x_istore_n (i := 3) (dxX3_pair_0 11 rfl) rfl (Nat.le_of_ble_eq_true rfl) rfl rfl ?_
    refine x_iload_n (i := 2) (dxX3_pair_0 12 rfl) rfl rfl ?_
    refine x_iconst (v := 1) (dxX3_pair_0 13 rfl) rfl ?_
    refine x_iadd (dxX3_pair_0 14 rfl) ?_
    refine x_aload_n (i := 0) (dxX3_pair_0 15 rfl) rfl rfl ?_
    refine gf_3_24 (kisC hL io) rfl (dxX3_pair_0 16 rfl) ?_
    refine x_icmp_ge (tgt := 34) (dxX3_pair_0 17 rfl) (by decide) (fun hc => ?_) (fun hc => ?_)
    · replace h := h.1 hc
      refine x_iconst (v := 0) (dxX3_pair_0 22 rfl) rfl ?_
      refine x_istore (dxX3_pair_0 23 rfl) (Nat.le_of_ble_eq_true rfl) rfl rfl ?_
      refine x_aload_n (i := 0) (dxX3_pair_0 24 rfl) rfl rfl ?_
      refine x_iload_n (i := 1) (dxX3_pair_0 25 rfl) rfl rfl ?_
      refine x_iload (dxX3_pair_0 26 rfl) rfl ?_
      refine cl_3_32 (kisC hL io) (Nat.le_of_ble_eq_true rfl) (dxX3_pair_0 27 rfl) h (fun v14 s13 h => ?_) (Nat.le_refl _) (Nat.le_refl _)
      obtain ⟨hFs13, h⟩ := h
      have hKs13 : kd s13 = kd σ := hFs13.1.trans (rfl : kd σ = kd σ)
      have hLs13 : Lay s13 := hL.fr hFs13
      refine x_iconst (v := 4) (dxX3_pair_0 28 rfl) rfl ?_
      refine x_icmp_gt (tgt := 62) (dxX3_pair_0 29 rfl) (by decide) (fun hc => ?_) (fun hc => ?_)
      · replace h := h.1 hc
        refine x_iconst (v := 0) (dxX3_pair_1 6 rfl) rfl ?_
        exact x_iret (ty := .boolean) rfl rfl (dxX3_pair_1 7 rfl) ⟨_, rfl, h⟩
      · replace h := h.2 hc
        refine x_aload_n (i := 0) (dxX3_pair_0 30 rfl) rfl rfl ?_
        refine x_iload_n (i := 3) (dxX3_pair_0 31 rfl) rfl rfl ?_
        refine x_iload_n (i := 2) (dxX3_pair_1 0 rfl) rfl rfl ?_
        refine cl_3_32 (kisC hLs13 io) (Nat.le_of_ble_eq_true rfl) (dxX3_pair_1 1 rfl) h (fun v16 s15 h => ?_) (Nat.le_refl _) (Nat.le_refl _)
        obtain ⟨hFs15, h⟩ := h
        have hKs15 : kd s15 = kd σ := hFs15.1.trans hKs13
        have hLs15 : Lay s15 := hLs13.fr hFs15
        refine x_iconst (v := 4) (dxX3_pair_1 2 rfl) rfl ?_
        refine x_icmp_gt (tgt := 62) (dxX3_pair_1 3 rfl) (by decide) (fun hc => ?_) (fun hc => ?_)
        · replace h := h.1 hc
          refine x_iconst (v := 0) (dxX3_pair_1 6 rfl) rfl ?_
          exact x_iret (ty := .boolean) rfl rfl (dxX3_pair_1 7 rfl) ⟨_, rfl, h⟩
        · replace h := h.2 hc
          refine x_iconst (v := 1) (dxX3_pair_1 4 rfl) rfl ?_
          refine x_goto (tgt := 63) (dxX3_pair_1 5 rfl) (by decide) ?_
          exact x_iret (ty := .boolean) rfl rfl (dxX3_pair_1 7 rfl) ⟨_, rfl, h⟩
    · replace h := h.2 hc
      refine x_iload_n (i := 2) (dxX3_pair_0 18 rfl) rfl rfl ?_
      refine x_iconst (v := 1) (dxX3_pair_0 19 rfl) rfl ?_
      refine x_iadd (dxX3_pair_0 20 rfl) ?_
      refine x_goto (tgt := 35) (dxX3_pair_0 21 rfl) (by decide) ?_
      refine x_topi (fun x17 e18 => ?_)
      replace h := h x17 e18
      refine x_istore (dxX3_pair_0 23 rfl) (Nat.le_of_ble_eq_true rfl) rfl rfl ?_
      refine x_aload_n (i := 0) (dxX3_pair_0 24 rfl) rfl rfl ?_
      refine x_iload_n (i := 1) (dxX3_pair_0 25 rfl) rfl rfl ?_
      refine x_iload (dxX3_pair_0 26 rfl) rfl ?_
      refine cl_3_32 (kisC hL io) (Nat.le_of_ble_eq_true rfl) (dxX3_pair_0 27 rfl) h (fun v20 s19 h => ?_) (Nat.le_refl _) (Nat.le_refl _)
      obtain ⟨hFs19, h⟩ := h
      have hKs19 : kd s19 = kd σ := hFs19.1.trans (rfl : kd σ = kd σ)
      have hLs19 : Lay s19 := hL.fr hFs19
      refine x_iconst (v := 4) (dxX3_pair_0 28 rfl) rfl ?_
      refine x_icmp_gt (tgt := 62) (dxX3_pair_0 29 rfl) (by decide) (fun hc => ?_) (fun hc => ?_)
      · replace h := h.1 hc
        refine x_iconst (v := 0) (dxX3_pair_1 6 rfl) rfl ?_
        exact x_iret (ty := .boolean) rfl rfl (dxX3_pair_1 7 rfl) ⟨_, rfl, h⟩
      · replace h := h.2 hc
        refine x_aload_n (i := 0) (dxX3_pair_0 30 rfl) rfl rfl ?_
        refine x_iload_n (i := 3) (dxX3_pair_0 31 rfl) rfl rfl ?_
        refine x_iload_n (i := 2) (dxX3_pair_1 0 rfl) rfl rfl ?_
        refine cl_3_32 (kisC hLs19 io) (Nat.le_of_ble_eq_true rfl) (dxX3_pair_1 1 rfl) h (fun v22 s21 h => ?_) (Nat.le_refl _) (Nat.le_refl _)
        obtain ⟨hFs21, h⟩ := h
        have hKs21 : kd s21 = kd σ := hFs21.1.trans hKs19
        have hLs21 : Lay s21 := hLs19.fr hFs21
        refine x_iconst (v := 4) (dxX3_pair_1 2 rfl) rfl ?_
        refine x_icmp_gt (tgt := 62) (dxX3_pair_1 3 rfl) (by decide) (fun hc => ?_) (fun hc => ?_)
        · replace h := h.1 hc
          refine x_iconst (v := 0) (dxX3_pair_1 6 rfl) rfl ?_
          exact x_iret (ty := .boolean) rfl rfl (dxX3_pair_1 7 rfl) ⟨_, rfl, h⟩
        · replace h := h.2 hc
          refine x_iconst (v := 1) (dxX3_pair_1 4 rfl) rfl ?_
          refine x_goto (tgt := 63) (dxX3_pair_1 5 rfl) (by decide) ?_
          exact x_iret (ty := .boolean) rfl rfl (dxX3_pair_1 7 rfl) ⟨_, rfl, h⟩
theorem vcX3_unite {g : GV} {d : Nat} {P : Int32 → PS → Prop} {σ : PS} (hL : Lay σ) (o : Nat) (io : isC o) (p0 : Int32) (p1 : Int32) (h : vp_in p0 22 ∧ vp_in p1 22 ∧ ∀ x3 : Int32, x3 = jmin (mi σ (o + 1) (Int32.toNatClampNeg p0)) (mi σ (o + 1) (Int32.toNatClampNeg p1)) → vp_in p0 22 ∧ vp_in p1 22 ∧ ∀ x7 : Int32, x7 = jmax (mi σ (o + 1) (Int32.toNatClampNeg p0)) (mi σ (o + 1) (Int32.toNatClampNeg p1)) → (x3 = x7 → vp_in x3 22 ∧ P (mi σ (o + 2) (Int32.toNatClampNeg x3)) σ) ∧ (¬ x3 = x7 → VX3_unite g d P 43 [some (.ref o), none, none, some (.int x3), some (.int x7), some (.int x7)] [] σ)) : CX3_unite g d [.ref o, .int p0, .int p1] σ P := by
  refine x_entry (L := [some (.ref o), some (.int p0), some (.int p1), none, none, none]) pn_3 (Nat.le_of_ble_eq_true rfl) ⟨3, rfl⟩ ?_
  show VX3_unite g d P 0 [some (.ref o), some (.int p0), some (.int p1), none, none, none] [] σ
  refine x_aload_n (i := 0) (dxX3_unite_0 0 rfl) rfl rfl ?_
  refine gf_3_9 (kisC hL io) (risC_1 hL io) (dxX3_unite_0 1 rfl) ?_
  refine x_iload_n (i := 1) (dxX3_unite_0 2 rfl) rfl rfl ?_
  obtain ⟨hi1, h⟩ := h
  refine x_iald (kisC_1 hL io) hi1 (dxX3_unite_0 3 rfl) ?_
  refine x_aload_n (i := 0) (dxX3_unite_0 4 rfl) rfl rfl ?_
  refine gf_3_9 (kisC hL io) (risC_1 hL io) (dxX3_unite_0 5 rfl) ?_
  refine x_iload_n (i := 2) (dxX3_unite_0 6 rfl) rfl rfl ?_
  obtain ⟨hi2, h⟩ := h
  refine x_iald (kisC_1 hL io) hi2 (dxX3_unite_0 7 rfl) ?_
  refine cl_3_36 (Nat.le_of_ble_eq_true rfl) (dxX3_unite_0 8 rfl) ?_
  refine x_topi (fun x3 e4 => ?_)
  replace h := h x3 e4
  refine x_istore_n (i := 3) (dxX3_unite_0 9 rfl) rfl (Nat.le_of_ble_eq_true rfl) rfl rfl ?_
  refine x_aload_n (i := 0) (dxX3_unite_0 10 rfl) rfl rfl ?_
  refine gf_3_9 (kisC hL io) (risC_1 hL io) (dxX3_unite_0 11 rfl) ?_
  refine x_iload_n (i := 1) (dxX3_unite_0 12 rfl) rfl rfl ?_
  obtain ⟨hi5, h⟩ := h
  refine x_iald (kisC_1 hL io) hi5 (dxX3_unite_0 13 rfl) ?_
  refine x_aload_n (i := 0) (dxX3_unite_0 14 rfl) rfl rfl ?_
  refine gf_3_9 (kisC hL io) (risC_1 hL io) (dxX3_unite_0 15 rfl) ?_
  refine x_iload_n (i := 2) (dxX3_unite_0 16 rfl) rfl rfl ?_
  obtain ⟨hi6, h⟩ := h
  refine x_iald (kisC_1 hL io) hi6 (dxX3_unite_0 17 rfl) ?_
  refine cl_3_41 (Nat.le_of_ble_eq_true rfl) (dxX3_unite_0 18 rfl) ?_
  refine x_topi (fun x7 e8 => ?_)
  replace h := h x7 e8
  refine x_istore (dxX3_unite_0 19 rfl) (Nat.le_of_ble_eq_true rfl) rfl rfl ?_
  refine x_iload_n (i := 3) (dxX3_unite_0 20 rfl) rfl rfl ?_
  refine x_iload (dxX3_unite_0 21 rfl) rfl ?_
  refine x_icmp_eq (tgt := 104) (dxX3_unite_0 22 rfl) (by decide) (fun hc => ?_) (fun hc => ?_)
  · replace h := h.1 hc
    refine x_aload_n (i := 0) (dxX3_unite_1 26 rfl) rfl rfl ?_
    refine gf_3_15 (kisC hL io) (risC_2 hL io) (dxX3_unite_1 27 rfl) ?_
    refine x_iload_n (i := 3) (dxX3_unite_1 28 rfl) rfl rfl ?_
    obtain ⟨hi9, h⟩ := h
    refine x_iald (kisC_2 hL io) hi9 (dxX3_unite_1 29 rfl) ?_
    exact x_iret (ty := .int) rfl rfl (dxX3_unite_1 30 rfl) ⟨_, rfl, h⟩
  · replace h := h.2 hc
    refine x_iload (dxX3_unite_0 23 rfl) rfl ?_
    refine x_istore (dxX3_unite_0 24 rfl) (Nat.le_of_ble_eq_true rfl) rfl rfl ?_
    refine x_mask [true, false, false, true, true, true] (L1 := [some (.ref o), none, none, some (.int x3), some (.int x7), some (.int x7)]) rfl ?_
    exact h
theorem vcX3_unite_43 {g : GV} {d : Nat} {P : Int32 → PS → Prop} {σ : PS} (hL : Lay σ) (l0 : Nat) (il0 : isC l0) (l3 : Int32) (l4 : Int32) (l5 : Int32) (h : ((mi σ l0 0) ≤ l5 → vp_in l3 22 ∧ vp_in l4 22 ∧ vp_in l3 22 ∧ ∀ s13 : PS, s13 = si σ (l0 + 2) (Int32.toNatClampNeg l3) ((mi σ (l0 + 2) (Int32.toNatClampNeg l3)) + (mi σ (l0 + 2) (Int32.toNatClampNeg l4))) → vp_in l3 22 ∧ P (mi s13 (l0 + 2) (Int32.toNatClampNeg l3)) s13) ∧ (¬ (mi σ l0 0) ≤ l5 → vp_in l5 22 ∧ (¬ (mi σ (l0 + 1) (Int32.toNatClampNeg l5)) = l4 → vp_in l5 22 ∧ vp_in l5 22 ∧ ∀ s19 : PS, s19 = si σ (l0 + 1) (Int32.toNatClampNeg l5) (mi σ (l0 + 1) (Int32.toNatClampNeg l5)) → ∀ x21 : Int32, x21 = l5 + 1 → VX3_unite g d P 43 [some (.ref l0), none, none, some (.int l3), some (.int l4), some (.int x21)] [] s19) ∧ ((mi σ (l0 + 1) (Int32.toNatClampNeg l5)) = l4 → vp_in l5 22 ∧ ∀ s24 : PS, s24 = si σ (l0 + 1) (Int32.toNatClampNeg l5) l3 → ∀ x26 : Int32, x26 = l5 + 1 → VX3_unite g d P 43 [some (.ref l0), none, none, some (.int l3), some (.int l4), some (.int x26)] [] s24))) : VX3_unite g d P 43 [some (.ref l0), none, none, some (.int l3), some (.int l4), some (.int l5)] [] σ := by
  refine x_iload (dxX3_unite_0 25 rfl) rfl ?_
  refine x_aload_n (i := 0) (dxX3_unite_0 26 rfl) rfl rfl ?_
  refine gf_3_24 (kisC hL il0) rfl (dxX3_unite_0 27 rfl) ?_
  refine x_icmp_ge (tgt := 88) (dxX3_unite_0 28 rfl) (by decide) (fun hc => ?_) (fun hc => ?_)
  · replace h := h.1 hc
    refine x_aload_n (i := 0) (dxX3_unite_1 15 rfl) rfl rfl ?_
    refine gf_3_15 (kisC hL il0) (risC_2 hL il0) (dxX3_unite_1 16 rfl) ?_
    refine x_iload_n (i := 3) (dxX3_unite_1 17 rfl) rfl rfl ?_
    refine x_dup2 (dxX3_unite_1 18 rfl) rfl rfl ?_
    obtain ⟨hi10, h⟩ := h
    refine x_iald (kisC_2 hL il0) hi10 (dxX3_unite_1 19 rfl) ?_
    refine x_aload_n (i := 0) (dxX3_unite_1 20 rfl) rfl rfl ?_
    refine gf_3_15 (kisC hL il0) (risC_2 hL il0) (dxX3_unite_1 21 rfl) ?_
    refine x_iload (dxX3_unite_1 22 rfl) rfl ?_
    obtain ⟨hi11, h⟩ := h
    refine x_iald (kisC_2 hL il0) hi11 (dxX3_unite_1 23 rfl) ?_
    refine x_iadd (dxX3_unite_1 24 rfl) ?_
    obtain ⟨hi12, h⟩ := h
    refine x_iast (kisC_2 hL il0) hi12 (dxX3_unite_1 25 rfl) ?_
    refine x_sto (fun s13 e14 => ?_)
    replace h := h s13 e14
    have hKs13 : kd s13 = kd σ := by rw [e14]; exact (rfl : kd σ = kd σ)
    have hLs13 : Lay s13 := by rw [e14]; exact hL.si
    refine x_aload_n (i := 0) (dxX3_unite_1 26 rfl) rfl rfl ?_
    refine gf_3_15 (kisC hLs13 il0) (risC_2 hLs13 il0) (dxX3_unite_1 27 rfl) ?_
    refine x_iload_n (i := 3) (dxX3_unite_1 28 rfl) rfl rfl ?_
    obtain ⟨hi15, h⟩ := h
    refine x_iald (kisC_2 hLs13 il0) hi15 (dxX3_unite_1 29 rfl) ?_
    exact x_iret (ty := .int) rfl rfl (dxX3_unite_1 30 rfl) ⟨_, rfl, h⟩
  · replace h := h.2 hc
    refine x_aload_n (i := 0) (dxX3_unite_0 29 rfl) rfl rfl ?_
    refine gf_3_9 (kisC hL il0) (risC_1 hL il0) (dxX3_unite_0 30 rfl) ?_
    refine x_iload (dxX3_unite_0 31 rfl) rfl ?_
    refine x_aload_n (i := 0) (dxX3_unite_1 0 rfl) rfl rfl ?_
    refine gf_3_9 (kisC hL il0) (risC_1 hL il0) (dxX3_unite_1 1 rfl) ?_
    refine x_iload (dxX3_unite_1 2 rfl) rfl ?_
    obtain ⟨hi16, h⟩ := h
    refine x_iald (kisC_1 hL il0) hi16 (dxX3_unite_1 3 rfl) ?_
    refine x_iload (dxX3_unite_1 4 rfl) rfl ?_
    refine x_icmp_ne (tgt := 74) (dxX3_unite_1 5 rfl) (by decide) (fun hc => ?_) (fun hc => ?_)
    · replace h := h.1 hc
      refine x_aload_n (i := 0) (dxX3_unite_1 8 rfl) rfl rfl ?_
      refine gf_3_9 (kisC hL il0) (risC_1 hL il0) (dxX3_unite_1 9 rfl) ?_
      refine x_iload (dxX3_unite_1 10 rfl) rfl ?_
      obtain ⟨hi17, h⟩ := h
      refine x_iald (kisC_1 hL il0) hi17 (dxX3_unite_1 11 rfl) ?_
      obtain ⟨hi18, h⟩ := h
      refine x_iast (kisC_1 hL il0) hi18 (dxX3_unite_1 12 rfl) ?_
      refine x_sto (fun s19 e20 => ?_)
      replace h := h s19 e20
      have hKs19 : kd s19 = kd σ := by rw [e20]; exact (rfl : kd σ = kd σ)
      have hLs19 : Lay s19 := by rw [e20]; exact hL.si
      obtain ⟨x21, e22⟩ : ∃ y : Int32, y = l5 + 1 := ⟨_, rfl⟩
      replace h := h x21 e22
      refine x_iinc (v := x21) (dxX3_unite_1 13 rfl) (i := 5) rfl (by rw [e22]; rfl) (Nat.le_of_ble_eq_true rfl) rfl rfl ?_
      refine x_goto (tgt := 43) (dxX3_unite_1 14 rfl) (by decide) ?_
      exact h
    · replace h := h.2 hc
      refine x_iload_n (i := 3) (dxX3_unite_1 6 rfl) rfl rfl ?_
      refine x_goto (tgt := 81) (dxX3_unite_1 7 rfl) (by decide) ?_
      obtain ⟨hi23, h⟩ := h
      refine x_iast (kisC_1 hL il0) hi23 (dxX3_unite_1 12 rfl) ?_
      refine x_sto (fun s24 e25 => ?_)
      replace h := h s24 e25
      have hKs24 : kd s24 = kd σ := by rw [e25]; exact (rfl : kd σ = kd σ)
      have hLs24 : Lay s24 := by rw [e25]; exact hL.si
      obtain ⟨x26, e27⟩ : ∃ y : Int32, y = l5 + 1 := ⟨_, rfl⟩
      replace h := h x26 e27
      refine x_iinc (v := x26) (dxX3_unite_1 13 rfl) (i := 5) rfl (by rw [e27]; rfl) (Nat.le_of_ble_eq_true rfl) rfl rfl ?_
      refine x_goto (tgt := 43) (dxX3_unite_1 14 rfl) (by decide) ?_
      exact h
theorem vcX3_howMany {g : GV} {d : Nat} {P : Int32 → PS → Prop} {σ : PS} (hL : Lay σ) (o : Nat) (io : isC o) (p0 : Int32) (h : VX3_howMany g d P 4 [some (.ref o), some (.int p0), some (.int 0), some (.int 0)] [] σ) : CX3_howMany g d [.ref o, .int p0] σ P := by
  refine x_entry (L := [some (.ref o), some (.int p0), none, none]) pn_3 (Nat.le_of_ble_eq_true rfl) ⟨2, rfl⟩ ?_
  show VX3_howMany g d P 0 [some (.ref o), some (.int p0), none, none] [] σ
  refine x_iconst (v := 0) (dxX3_howMany_0 0 rfl) rfl ?_
  refine x_istore_n (i := 2) (dxX3_howMany_0 1 rfl) rfl (Nat.le_of_ble_eq_true rfl) rfl rfl ?_
  refine x_iconst (v := 0) (dxX3_howMany_0 2 rfl) rfl ?_
  refine x_istore_n (i := 3) (dxX3_howMany_0 3 rfl) rfl (Nat.le_of_ble_eq_true rfl) rfl rfl ?_
  exact h
theorem vcX3_howMany_4 {g : GV} {d : Nat} {P : Int32 → PS → Prop} {σ : PS} (hL : Lay σ) (l0 : Nat) (il0 : isC l0) (l1 : Int32) (l2 : Int32) (l3 : Int32) (h : ((mi σ l0 0) ≤ l3 → P l2 σ) ∧ (¬ (mi σ l0 0) ≤ l3 → vp_in l3 22 ∧ (¬ (mi σ (l0 + 1) (Int32.toNatClampNeg l3)) = l1 → ∀ x2 : Int32, x2 = l2 + 0 → ∀ x4 : Int32, x4 = l3 + 1 → VX3_howMany g d P 4 [some (.ref l0), some (.int l1), some (.int x2), some (.int x4)] [] σ) ∧ ((mi σ (l0 + 1) (Int32.toNatClampNeg l3)) = l1 → ∀ x6 : Int32, x6 = l2 + 1 → ∀ x8 : Int32, x8 = l3 + 1 → VX3_howMany g d P 4 [some (.ref l0), some (.int l1), some (.int x6), some (.int x8)] [] σ))) : VX3_howMany g d P 4 [some (.ref l0), some (.int l1), some (.int l2), some (.int l3)] [] σ := by
  refine x_iload_n (i := 3) (dxX3_howMany_0 4 rfl) rfl rfl ?_
  refine x_aload_n (i := 0) (dxX3_howMany_0 5 rfl) rfl rfl ?_
  refine gf_3_24 (kisC hL il0) rfl (dxX3_howMany_0 6 rfl) ?_
  refine x_icmp_ge (tgt := 36) (dxX3_howMany_0 7 rfl) (by decide) (fun hc => ?_) (fun hc => ?_)
  · replace h := h.1 hc
    refine x_iload_n (i := 2) (dxX3_howMany_0 22 rfl) rfl rfl ?_
    exact x_iret (ty := .int) rfl rfl (dxX3_howMany_0 23 rfl) ⟨_, rfl, h⟩
  · replace h := h.2 hc
    refine x_iload_n (i := 2) (dxX3_howMany_0 8 rfl) rfl rfl ?_
    refine x_aload_n (i := 0) (dxX3_howMany_0 9 rfl) rfl rfl ?_
    refine gf_3_9 (kisC hL il0) (risC_1 hL il0) (dxX3_howMany_0 10 rfl) ?_
    refine x_iload_n (i := 3) (dxX3_howMany_0 11 rfl) rfl rfl ?_
    obtain ⟨hi1, h⟩ := h
    refine x_iald (kisC_1 hL il0) hi1 (dxX3_howMany_0 12 rfl) ?_
    refine x_iload_n (i := 1) (dxX3_howMany_0 13 rfl) rfl rfl ?_
    refine x_icmp_ne (tgt := 27) (dxX3_howMany_0 14 rfl) (by decide) (fun hc => ?_) (fun hc => ?_)
    · replace h := h.1 hc
      refine x_iconst (v := 0) (dxX3_howMany_0 17 rfl) rfl ?_
      refine x_iadd (dxX3_howMany_0 18 rfl) ?_
      refine x_topi (fun x2 e3 => ?_)
      replace h := h x2 e3
      refine x_istore_n (i := 2) (dxX3_howMany_0 19 rfl) rfl (Nat.le_of_ble_eq_true rfl) rfl rfl ?_
      obtain ⟨x4, e5⟩ : ∃ y : Int32, y = l3 + 1 := ⟨_, rfl⟩
      replace h := h x4 e5
      refine x_iinc (v := x4) (dxX3_howMany_0 20 rfl) (i := 3) rfl (by rw [e5]; rfl) (Nat.le_of_ble_eq_true rfl) rfl rfl ?_
      refine x_goto (tgt := 4) (dxX3_howMany_0 21 rfl) (by decide) ?_
      exact h
    · replace h := h.2 hc
      refine x_iconst (v := 1) (dxX3_howMany_0 15 rfl) rfl ?_
      refine x_goto (tgt := 28) (dxX3_howMany_0 16 rfl) (by decide) ?_
      refine x_iadd (dxX3_howMany_0 18 rfl) ?_
      refine x_topi (fun x6 e7 => ?_)
      replace h := h x6 e7
      refine x_istore_n (i := 2) (dxX3_howMany_0 19 rfl) rfl (Nat.le_of_ble_eq_true rfl) rfl rfl ?_
      obtain ⟨x8, e9⟩ : ∃ y : Int32, y = l3 + 1 := ⟨_, rfl⟩
      replace h := h x8 e9
      refine x_iinc (v := x8) (dxX3_howMany_0 20 rfl) (i := 3) rfl (by rw [e9]; rfl) (Nat.le_of_ble_eq_true rfl) rfl rfl ?_
      refine x_goto (tgt := 4) (dxX3_howMany_0 21 rfl) (by decide) ?_
      exact h
theorem vcX3_howManyOf {g : GV} {d : Nat} {P : Int32 → PS → Prop} {σ : PS} (hL : Lay σ) (o : Nat) (io : isC o) (p0 : Int32) (h : VX3_howManyOf g d P 4 [some (.ref o), some (.int p0), some (.int 0), some (.int 0)] [] σ) : CX3_howManyOf g d [.ref o, .int p0] σ P := by
  refine x_entry (L := [some (.ref o), some (.int p0), none, none]) pn_3 (Nat.le_of_ble_eq_true rfl) ⟨2, rfl⟩ ?_
  show VX3_howManyOf g d P 0 [some (.ref o), some (.int p0), none, none] [] σ
  refine x_iconst (v := 0) (dxX3_howManyOf_0 0 rfl) rfl ?_
  refine x_istore_n (i := 2) (dxX3_howManyOf_0 1 rfl) rfl (Nat.le_of_ble_eq_true rfl) rfl rfl ?_
  refine x_iconst (v := 0) (dxX3_howManyOf_0 2 rfl) rfl ?_
  refine x_istore_n (i := 3) (dxX3_howManyOf_0 3 rfl) rfl (Nat.le_of_ble_eq_true rfl) rfl rfl ?_
  exact h
theorem vcX3_howManyOf_4 {g : GV} {d : Nat} {P : Int32 → PS → Prop} {σ : PS} (hL : Lay σ) (l0 : Nat) (il0 : isC l0) (l1 : Int32) (l2 : Int32) (l3 : Int32) (h : ((mi σ l0 0) ≤ l3 → P l2 σ) ∧ (¬ (mi σ l0 0) ≤ l3 → vp_in l3 22 ∧ (¬ (mi σ (l0 + 1) (Int32.toNatClampNeg l3)) = l3 → ∀ x2 : Int32, x2 = l2 + 0 → ∀ x4 : Int32, x4 = l3 + 1 → VX3_howManyOf g d P 4 [some (.ref l0), some (.int l1), some (.int x2), some (.int x4)] [] σ) ∧ ((mi σ (l0 + 1) (Int32.toNatClampNeg l3)) = l3 → vp_in l3 22 ∧ (¬ (mi σ (l0 + 2) (Int32.toNatClampNeg l3)) = l1 → ∀ x7 : Int32, x7 = l2 + 0 → ∀ x9 : Int32, x9 = l3 + 1 → VX3_howManyOf g d P 4 [some (.ref l0), some (.int l1), some (.int x7), some (.int x9)] [] σ) ∧ ((mi σ (l0 + 2) (Int32.toNatClampNeg l3)) = l1 → ∀ x11 : Int32, x11 = l2 + 1 → ∀ x13 : Int32, x13 = l3 + 1 → VX3_howManyOf g d P 4 [some (.ref l0), some (.int l1), some (.int x11), some (.int x13)] [] σ)))) : VX3_howManyOf g d P 4 [some (.ref l0), some (.int l1), some (.int l2), some (.int l3)] [] σ := by
  refine x_iload_n (i := 3) (dxX3_howManyOf_0 4 rfl) rfl rfl ?_
  refine x_aload_n (i := 0) (dxX3_howManyOf_0 5 rfl) rfl rfl ?_
  refine gf_3_24 (kisC hL il0) rfl (dxX3_howManyOf_0 6 rfl) ?_
  refine x_icmp_ge (tgt := 46) (dxX3_howManyOf_0 7 rfl) (by decide) (fun hc => ?_) (fun hc => ?_)
  · replace h := h.1 hc
    refine x_iload_n (i := 2) (dxX3_howManyOf_0 28 rfl) rfl rfl ?_
    exact x_iret (ty := .int) rfl rfl (dxX3_howManyOf_0 29 rfl) ⟨_, rfl, h⟩
  · replace h := h.2 hc
    refine x_iload_n (i := 2) (dxX3_howManyOf_0 8 rfl) rfl rfl ?_
    refine x_aload_n (i := 0) (dxX3_howManyOf_0 9 rfl) rfl rfl ?_
    refine gf_3_9 (kisC hL il0) (risC_1 hL il0) (dxX3_howManyOf_0 10 rfl) ?_
    refine x_iload_n (i := 3) (dxX3_howManyOf_0 11 rfl) rfl rfl ?_
    obtain ⟨hi1, h⟩ := h
    refine x_iald (kisC_1 hL il0) hi1 (dxX3_howManyOf_0 12 rfl) ?_
    refine x_iload_n (i := 3) (dxX3_howManyOf_0 13 rfl) rfl rfl ?_
    refine x_icmp_ne (tgt := 37) (dxX3_howManyOf_0 14 rfl) (by decide) (fun hc => ?_) (fun hc => ?_)
    · replace h := h.1 hc
      refine x_iconst (v := 0) (dxX3_howManyOf_0 23 rfl) rfl ?_
      refine x_iadd (dxX3_howManyOf_0 24 rfl) ?_
      refine x_topi (fun x2 e3 => ?_)
      replace h := h x2 e3
      refine x_istore_n (i := 2) (dxX3_howManyOf_0 25 rfl) rfl (Nat.le_of_ble_eq_true rfl) rfl rfl ?_
      obtain ⟨x4, e5⟩ : ∃ y : Int32, y = l3 + 1 := ⟨_, rfl⟩
      replace h := h x4 e5
      refine x_iinc (v := x4) (dxX3_howManyOf_0 26 rfl) (i := 3) rfl (by rw [e5]; rfl) (Nat.le_of_ble_eq_true rfl) rfl rfl ?_
      refine x_goto (tgt := 4) (dxX3_howManyOf_0 27 rfl) (by decide) ?_
      exact h
    · replace h := h.2 hc
      refine x_aload_n (i := 0) (dxX3_howManyOf_0 15 rfl) rfl rfl ?_
      refine gf_3_15 (kisC hL il0) (risC_2 hL il0) (dxX3_howManyOf_0 16 rfl) ?_
      refine x_iload_n (i := 3) (dxX3_howManyOf_0 17 rfl) rfl rfl ?_
      obtain ⟨hi6, h⟩ := h
      refine x_iald (kisC_2 hL il0) hi6 (dxX3_howManyOf_0 18 rfl) ?_
      refine x_iload_n (i := 1) (dxX3_howManyOf_0 19 rfl) rfl rfl ?_
      refine x_icmp_ne (tgt := 37) (dxX3_howManyOf_0 20 rfl) (by decide) (fun hc => ?_) (fun hc => ?_)
      · replace h := h.1 hc
        refine x_iconst (v := 0) (dxX3_howManyOf_0 23 rfl) rfl ?_
        refine x_iadd (dxX3_howManyOf_0 24 rfl) ?_
        refine x_topi (fun x7 e8 => ?_)
        replace h := h x7 e8
        refine x_istore_n (i := 2) (dxX3_howManyOf_0 25 rfl) rfl (Nat.le_of_ble_eq_true rfl) rfl rfl ?_
        obtain ⟨x9, e10⟩ : ∃ y : Int32, y = l3 + 1 := ⟨_, rfl⟩
        replace h := h x9 e10
        refine x_iinc (v := x9) (dxX3_howManyOf_0 26 rfl) (i := 3) rfl (by rw [e10]; rfl) (Nat.le_of_ble_eq_true rfl) rfl rfl ?_
        refine x_goto (tgt := 4) (dxX3_howManyOf_0 27 rfl) (by decide) ?_
        exact h
      · replace h := h.2 hc
        refine x_iconst (v := 1) (dxX3_howManyOf_0 21 rfl) rfl ?_
        refine x_goto (tgt := 38) (dxX3_howManyOf_0 22 rfl) (by decide) ?_
        refine x_iadd (dxX3_howManyOf_0 24 rfl) ?_
        refine x_topi (fun x11 e12 => ?_)
        replace h := h x11 e12
        refine x_istore_n (i := 2) (dxX3_howManyOf_0 25 rfl) rfl (Nat.le_of_ble_eq_true rfl) rfl rfl ?_
        obtain ⟨x13, e14⟩ : ∃ y : Int32, y = l3 + 1 := ⟨_, rfl⟩
        replace h := h x13 e14
        refine x_iinc (v := x13) (dxX3_howManyOf_0 26 rfl) (i := 3) rfl (by rw [e14]; rfl) (Nat.le_of_ble_eq_true rfl) rfl rfl ?_
        refine x_goto (tgt := 4) (dxX3_howManyOf_0 27 rfl) (by decide) ?_
        exact h
