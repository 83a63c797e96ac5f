theorem vcX5_has {g : GV} {d : Nat} {P : Int32 → PS → Prop} {σ : PS} (hL : Lay σ) (p0 : Int32) (h : CX5_work g d [.ref 87] σ (fun (s1 : PS) => Fr σ s1 ∧ (¬ (mi s1 87 2) = 0 → P 0 s1) ∧ ((mi s1 87 2) = 0 → (p0 < 0 → P 0 s1) ∧ (¬ p0 < 0 → ((mi s1 87 3) ≤ p0 → P 0 s1) ∧ (¬ (mi s1 87 3) ≤ p0 → P 1 s1))))) : CX5_has g (d + 1) [.ref 87, .int p0] σ P := by
  refine x_entry (L := [some (.ref 87), some (.int p0)]) pn_5 (Nat.le_of_ble_eq_true rfl) ⟨0, rfl⟩ ?_
  show VX5_has g (d + 1) P 0 [some (.ref 87), some (.int p0)] [] σ
  refine x_aload_n (i := 0) (dxX5_has_0 0 rfl) rfl rfl ?_
  refine cl_5_35 (kd_87 hL) (Nat.le_of_ble_eq_true rfl) (dxX5_has_0 1 rfl) h (fun s1 h => ?_) (Nat.le_refl _) (Nat.le_refl _)
  obtain ⟨hFs1, h⟩ := h
  have hKs1 : kd s1 = kd σ := hFs1.1.trans (rfl : kd σ = kd σ)
  have hLs1 : Lay s1 := hL.fr hFs1
  refine x_aload_n (i := 0) (dxX5_has_0 2 rfl) rfl rfl ?_
  refine gf_5_38 (kd_87 hLs1) rfl (dxX5_has_0 3 rfl) ?_
  refine x_if_ne (tgt := 27) (dxX5_has_0 4 rfl) (by decide) (fun hc => ?_) (fun hc => ?_)
  · replace h := h.1 hc
    refine x_iconst (v := 0) (dxX5_has_0 13 rfl) rfl ?_
    exact x_iret (ty := .boolean) rfl rfl (dxX5_has_0 14 rfl) ⟨_, rfl, h⟩
  · replace h := h.2 hc
    refine x_iload_n (i := 1) (dxX5_has_0 5 rfl) rfl rfl ?_
    refine x_if_lt (tgt := 27) (dxX5_has_0 6 rfl) (by decide) (fun hc => ?_) (fun hc => ?_)
    · replace h := h.1 hc
      refine x_iconst (v := 0) (dxX5_has_0 13 rfl) rfl ?_
      exact x_iret (ty := .boolean) rfl rfl (dxX5_has_0 14 rfl) ⟨_, rfl, h⟩
    · replace h := h.2 hc
      refine x_iload_n (i := 1) (dxX5_has_0 7 rfl) rfl rfl ?_
      refine x_aload_n (i := 0) (dxX5_has_0 8 rfl) rfl rfl ?_
      refine gf_5_42 (kd_87 hLs1) rfl (dxX5_has_0 9 rfl) ?_
      refine x_icmp_ge (tgt := 27) (dxX5_has_0 10 rfl) (by decide) (fun hc => ?_) (fun hc => ?_)
      · replace h := h.1 hc
        refine x_iconst (v := 0) (dxX5_has_0 13 rfl) rfl ?_
        exact x_iret (ty := .boolean) rfl rfl (dxX5_has_0 14 rfl) ⟨_, rfl, h⟩
      · replace h := h.2 hc
        refine x_iconst (v := 1) (dxX5_has_0 11 rfl) rfl ?_
        refine x_goto (tgt := 28) (dxX5_has_0 12 rfl) (by decide) ?_
        exact x_iret (ty := .boolean) rfl rfl (dxX5_has_0 14 rfl) ⟨_, rfl, h⟩
theorem vcX5_work {g : GV} {d : Nat} {P : PS → Prop} {σ : PS} (hL : Lay σ)  (h : ((mi σ 87 1) = 0 → ∀ s1 : PS, s1 = si σ 87 1 1 → ∀ s3 : PS, s3 = si s1 87 3 0 → ∀ s5 : PS, s5 = si s3 87 2 0 → CJ7_fill_53178 g d [.ref 89, .int (-1)] s5 (fun (s7 : PS) => Fr s5 s7 ∧ ∃ a9 : Nat, mr s7 90 (Int32.toNatClampNeg 0) = some a9 ∧ isC a9 ∧ CX3_start g d [.ref a9, .ref 20] s7 (fun (s12 : PS) => Fr s7 s12 ∧ CX5_search g d [.ref 87, .int 0, .int 0] s12 (fun (s14 : PS) => Fr s12 s14 ∧ P s14)))) ∧ (¬ (mi σ 87 1) = 0 → P σ)) : CX5_work g (d + 1) [.ref 87] σ P := by
  refine x_entry (L := [some (.ref 87)]) pn_5 (Nat.le_of_ble_eq_true rfl) ⟨0, rfl⟩ ?_
  show VX5_work g (d + 1) P 0 [some (.ref 87)] [] σ
  refine x_aload_n (i := 0) (dxX5_work_0 0 rfl) rfl rfl ?_
  refine gf_5_46 (kd_87 hL) rfl (dxX5_work_0 1 rfl) ?_
  refine x_if_eq (tgt := 8) (dxX5_work_0 2 rfl) (by decide) (fun hc => ?_) (fun hc => ?_)
  · replace h := h.1 hc
    refine x_aload_n (i := 0) (dxX5_work_0 4 rfl) rfl rfl ?_
    refine x_iconst (v := 1) (dxX5_work_0 5 rfl) rfl ?_
    refine pf_5_46 (Or.inr rfl) (kd_87 hL) (dxX5_work_0 6 rfl) ?_
    refine x_sto (fun s1 e2 => ?_)
    replace h := h s1 e2
    have hKs1 : kd s1 = kd σ := by rw [e2]; exact (rfl : kd σ = kd σ)
    have hLs1 : Lay s1 := by rw [e2]; exact hL.si
    refine x_aload_n (i := 0) (dxX5_work_0 7 rfl) rfl rfl ?_
    refine x_iconst (v := 0) (dxX5_work_0 8 rfl) rfl ?_
    refine pf_5_42 (kd_87 hLs1) (dxX5_work_0 9 rfl) ?_
    refine x_sto (fun s3 e4 => ?_)
    replace h := h s3 e4
    have hKs3 : kd s3 = kd σ := by rw [e4]; exact hKs1
    have hLs3 : Lay s3 := by rw [e4]; exact hLs1.si
    refine x_aload_n (i := 0) (dxX5_work_0 10 rfl) rfl rfl ?_
    refine x_iconst (v := 0) (dxX5_work_0 11 rfl) rfl ?_
    refine pf_5_38 (Or.inl rfl) (kd_87 hLs3) (dxX5_work_0 12 rfl) ?_
    refine x_sto (fun s5 e6 => ?_)
    replace h := h s5 e6
    have hKs5 : kd s5 = kd σ := by rw [e6]; exact hKs3
    have hLs5 : Lay s5 := by rw [e6]; exact hLs3.si
    refine x_aload_n (i := 0) (dxX5_work_0 13 rfl) rfl rfl ?_
    refine gf_5_15 (kd_87 hLs5) (rv_87_5 hLs5) (dxX5_work_0 14 rfl) ?_
    refine x_iconst (v := (-1)) (dxX5_work_0 15 rfl) rfl ?_
    refine cl_5_49 (Nat.le_of_ble_eq_true rfl) (dxX5_work_0 16 rfl) h (fun s7 h => ?_) (Nat.le_refl _) (Nat.le_refl _)
    obtain ⟨hFs7, h⟩ := h
    have hKs7 : kd s7 = kd σ := hFs7.1.trans hKs5
    have hLs7 : Lay s7 := hLs5.fr hFs7
    refine x_aload_n (i := 0) (dxX5_work_0 17 rfl) rfl rfl ?_
    refine gf_5_20 (kd_87 hLs7) (rv_87_6 hLs7) (dxX5_work_0 18 rfl) ?_
    refine x_iconst (v := 0) (dxX5_work_0 19 rfl) rfl ?_
    obtain ⟨a9, ha10, h⟩ := h
    refine x_aald (Or.inr rfl) (kd_90 hLs7) (vpl 12 0 rfl) ha10 (dxX5_work_0 20 rfl) ?_
    refine x_aload_n (i := 0) (dxX5_work_0 21 rfl) rfl rfl ?_
    refine gf_5_30 (kd_87 hLs7) (rv_87_0 hLs7) (dxX5_work_0 22 rfl) ?_
    obtain ⟨is11, h⟩ := h
    refine cl_5_55 (kisC hLs7 is11) (Nat.le_of_ble_eq_true rfl) (dxX5_work_0 23 rfl) h (fun s12 h => ?_) (Nat.le_refl _) (Nat.le_refl _)
    obtain ⟨hFs12, h⟩ := h
    have hKs12 : kd s12 = kd σ := hFs12.1.trans hKs7
    have hLs12 : Lay s12 := hLs7.fr hFs12
    refine x_aload_n (i := 0) (dxX5_work_0 24 rfl) rfl rfl ?_
    refine x_iconst (v := 0) (dxX5_work_0 25 rfl) rfl ?_
    refine x_iconst (v := 0) (dxX5_work_0 26 rfl) rfl ?_
    refine cl_5_59 (kd_87 hLs12) (Nat.le_of_ble_eq_true rfl) (dxX5_work_0 27 rfl) h (fun s14 h => ?_) (Nat.le_refl _) (Nat.le_refl _)
    obtain ⟨hFs14, h⟩ := h
    have hKs14 : kd s14 = kd σ := hFs14.1.trans hKs12
    have hLs14 : Lay s14 := hLs12.fr hFs14
    exact x_vret rfl (dxX5_work_0 28 rfl) ⟨rfl, h⟩
  · replace h := h.2 hc
    exact x_vret rfl (dxX5_work_0 3 rfl) ⟨rfl, h⟩
theorem vcX5_search {g : GV} {d : Nat} {P : PS → Prop} {σ : PS} (hL : Lay σ) (p0 : Int32) (p1 : Int32) (h : VX5_search g (d + 1) P 2 [some (.ref 87), none, some (.int p1), some (.int p0), none] [] σ) : CX5_search g (d + 1) [.ref 87, .int p0, .int p1] σ P := by
  refine x_entry (L := [some (.ref 87), some (.int p0), some (.int p1), none, none]) pn_5 (Nat.le_of_ble_eq_true rfl) ⟨2, rfl⟩ ?_
  show VX5_search g (d + 1) P 0 [some (.ref 87), some (.int p0), some (.int p1), none, none] [] σ
  refine x_iload_n (i := 1) (dxX5_search_0 0 rfl) rfl rfl ?_
  refine x_istore_n (i := 3) (dxX5_search_0 1 rfl) rfl (Nat.le_of_ble_eq_true rfl) rfl rfl ?_
  refine x_mask [true, false, true, true, false] (L1 := [some (.ref 87), none, some (.int p1), some (.int p0), none]) rfl ?_
  exact h
theorem vcX5_search_2 {g : GV} {d : Nat} {P : PS → Prop} {σ : PS} (hL : Lay σ) (l2 : Int32) (l3 : Int32) (h : ((mi σ 20 6) ≤ l3 → (l3 < (mi σ 20 6) → ((l2 + 1) < (nI 12) → ∀ x1 : Int32, x1 = l3 + 1 → VX5_search g (d + 1) P 62 [some (.ref 87), none, some (.int l2), some (.int l3), some (.int x1)] [] σ) ∧ (¬ (l2 + 1) < (nI 12) → P σ)) ∧ (¬ l3 < (mi σ 20 6) → CX5_keep g d [.ref 87] σ (fun (s3 : PS) => Fr σ s3 ∧ P s3))) ∧ (¬ (mi σ 20 6) ≤ l3 → vp_in l3 22 ∧ ((mi σ 89 (Int32.toNatClampNeg l3)) = (-1) → (l3 < (mi σ 20 6) → ((l2 + 1) < (nI 12) → ∀ x6 : Int32, x6 = l3 + 1 → VX5_search g (d + 1) P 62 [some (.ref 87), none, some (.int l2), some (.int l3), some (.int x6)] [] σ) ∧ (¬ (l2 + 1) < (nI 12) → P σ)) ∧ (¬ l3 < (mi σ 20 6) → CX5_keep g d [.ref 87] σ (fun (s8 : PS) => Fr σ s8 ∧ P s8))) ∧ (¬ (mi σ 89 (Int32.toNatClampNeg l3)) = (-1) → ∀ x10 : Int32, x10 = l3 + 1 → VX5_search g (d + 1) P 2 [some (.ref 87), none, some (.int l2), some (.int x10), none] [] σ))) : VX5_search g (d + 1) P 2 [some (.ref 87), none, some (.int l2), some (.int l3), none] [] σ := by
  refine x_iload_n (i := 3) (dxX5_search_0 2 rfl) rfl rfl ?_
  refine x_aload_n (i := 0) (dxX5_search_0 3 rfl) rfl rfl ?_
  refine gf_5_30 (kd_87 hL) (rv_87_0 hL) (dxX5_search_0 4 rfl) ?_
  refine gf_5_63 (kd_20 hL) rfl (dxX5_search_0 5 rfl) ?_
  refine x_icmp_ge (tgt := 29) (dxX5_search_0 6 rfl) (by decide) (fun hc => ?_) (fun hc => ?_)
  · replace h := h.1 hc
    refine x_iload_n (i := 3) (dxX5_search_0 15 rfl) rfl rfl ?_
    refine x_aload_n (i := 0) (dxX5_search_0 16 rfl) rfl rfl ?_
    refine gf_5_30 (kd_87 hL) (rv_87_0 hL) (dxX5_search_0 17 rfl) ?_
    refine gf_5_63 (kd_20 hL) rfl (dxX5_search_0 18 rfl) ?_
    refine x_icmp_lt (tgt := 45) (dxX5_search_0 19 rfl) (by decide) (fun hc => ?_) (fun hc => ?_)
    · replace h := h.1 hc
      refine x_iload_n (i := 2) (dxX5_search_0 23 rfl) rfl rfl ?_
      refine x_iconst (v := 1) (dxX5_search_0 24 rfl) rfl ?_
      refine x_iadd (dxX5_search_0 25 rfl) ?_
      refine x_aload_n (i := 0) (dxX5_search_0 26 rfl) rfl rfl ?_
      refine gf_5_20 (kd_87 hL) (rv_87_6 hL) (dxX5_search_0 27 rfl) ?_
      refine x_alen (Nat.le_of_ble_eq_true rfl) (kd_90 hL) (dxX5_search_0 28 rfl) ?_
      refine x_icmp_lt (tgt := 57) (dxX5_search_0 29 rfl) (by decide) (fun hc => ?_) (fun hc => ?_)
      · replace h := h.1 hc
        refine x_iload_n (i := 3) (dxX5_search_0 31 rfl) rfl rfl ?_
        refine x_iconst (v := 1) (dxX5_search_1 0 rfl) rfl ?_
        refine x_iadd (dxX5_search_1 1 rfl) ?_
        refine x_topi (fun x1 e2 => ?_)
        replace h := h x1 e2
        refine x_istore (dxX5_search_1 2 rfl) (Nat.le_of_ble_eq_true rfl) rfl rfl ?_
        exact h
      · replace h := h.2 hc
        exact x_vret rfl (dxX5_search_0 30 rfl) ⟨rfl, h⟩
    · replace h := h.2 hc
      refine x_aload_n (i := 0) (dxX5_search_0 20 rfl) rfl rfl ?_
      refine cl_5_68 (kd_87 hL) (Nat.le_of_ble_eq_true rfl) (dxX5_search_0 21 rfl) h (fun s3 h => ?_) (Nat.le_refl _) (Nat.le_refl _)
      obtain ⟨hFs3, h⟩ := h
      have hKs3 : kd s3 = kd σ := hFs3.1.trans (rfl : kd σ = kd σ)
      have hLs3 : Lay s3 := hL.fr hFs3
      exact x_vret rfl (dxX5_search_0 22 rfl) ⟨rfl, h⟩
  · replace h := h.2 hc
    refine x_aload_n (i := 0) (dxX5_search_0 7 rfl) rfl rfl ?_
    refine gf_5_15 (kd_87 hL) (rv_87_5 hL) (dxX5_search_0 8 rfl) ?_
    refine x_iload_n (i := 3) (dxX5_search_0 9 rfl) rfl rfl ?_
    obtain ⟨hi5, h⟩ := h
    refine x_iald (kd_89 hL) hi5 (dxX5_search_0 10 rfl) ?_
    refine x_iconst (v := (-1)) (dxX5_search_0 11 rfl) rfl ?_
    refine x_icmp_eq (tgt := 29) (dxX5_search_0 12 rfl) (by decide) (fun hc => ?_) (fun hc => ?_)
    · replace h := h.1 hc
      refine x_iload_n (i := 3) (dxX5_search_0 15 rfl) rfl rfl ?_
      refine x_aload_n (i := 0) (dxX5_search_0 16 rfl) rfl rfl ?_
      refine gf_5_30 (kd_87 hL) (rv_87_0 hL) (dxX5_search_0 17 rfl) ?_
      refine gf_5_63 (kd_20 hL) rfl (dxX5_search_0 18 rfl) ?_
      refine x_icmp_lt (tgt := 45) (dxX5_search_0 19 rfl) (by decide) (fun hc => ?_) (fun hc => ?_)
      · replace h := h.1 hc
        refine x_iload_n (i := 2) (dxX5_search_0 23 rfl) rfl rfl ?_
        refine x_iconst (v := 1) (dxX5_search_0 24 rfl) rfl ?_
        refine x_iadd (dxX5_search_0 25 rfl) ?_
        refine x_aload_n (i := 0) (dxX5_search_0 26 rfl) rfl rfl ?_
        refine gf_5_20 (kd_87 hL) (rv_87_6 hL) (dxX5_search_0 27 rfl) ?_
        refine x_alen (Nat.le_of_ble_eq_true rfl) (kd_90 hL) (dxX5_search_0 28 rfl) ?_
        refine x_icmp_lt (tgt := 57) (dxX5_search_0 29 rfl) (by decide) (fun hc => ?_) (fun hc => ?_)
        · replace h := h.1 hc
          refine x_iload_n (i := 3) (dxX5_search_0 31 rfl) rfl rfl ?_
          refine x_iconst (v := 1) (dxX5_search_1 0 rfl) rfl ?_
          refine x_iadd (dxX5_search_1 1 rfl) ?_
          refine x_topi (fun x6 e7 => ?_)
          replace h := h x6 e7
          refine x_istore (dxX5_search_1 2 rfl) (Nat.le_of_ble_eq_true rfl) rfl rfl ?_
          exact h
        · replace h := h.2 hc
          exact x_vret rfl (dxX5_search_0 30 rfl) ⟨rfl, h⟩
      · replace h := h.2 hc
        refine x_aload_n (i := 0) (dxX5_search_0 20 rfl) rfl rfl ?_
        refine cl_5_68 (kd_87 hL) (Nat.le_of_ble_eq_true rfl) (dxX5_search_0 21 rfl) h (fun s8 h => ?_) (Nat.le_refl _) (Nat.le_refl _)
        obtain ⟨hFs8, h⟩ := h
        have hKs8 : kd s8 = kd σ := hFs8.1.trans (rfl : kd σ = kd σ)
        have hLs8 : Lay s8 := hL.fr hFs8
        exact x_vret rfl (dxX5_search_0 22 rfl) ⟨rfl, h⟩
    · replace h := h.2 hc
      obtain ⟨x10, e11⟩ : ∃ y : Int32, y = l3 + 1 := ⟨_, rfl⟩
      replace h := h x10 e11
      refine x_iinc (v := x10) (dxX5_search_0 13 rfl) (i := 3) rfl (by rw [e11]; rfl) (Nat.le_of_ble_eq_true rfl) rfl rfl ?_
      refine x_goto (tgt := 2) (dxX5_search_0 14 rfl) (by decide) ?_
      exact h
theorem vcX5_search_62 {g : GV} {d : Nat} {P : PS → Prop} {σ : PS} (hL : Lay σ) (l2 : Int32) (l3 : Int32) (l4 : Int32) (h : ((mi σ 20 6) ≤ l4 → P σ) ∧ (¬ (mi σ 20 6) ≤ l4 → vp_in l4 22 ∧ (¬ (mi σ 89 (Int32.toNatClampNeg l4)) = (-1) → P σ) ∧ ((mi σ 89 (Int32.toNatClampNeg l4)) = (-1) → (¬ (mi σ 87 2) = 0 → P σ) ∧ ((mi σ 87 2) = 0 → (¬ (jrem (l4 - l3) 2) = 0 → vp_in (l2 + 1) 12 ∧ ∃ a14 : Nat, mr σ 90 (Int32.toNatClampNeg (l2 + 1)) = some a14 ∧ vp_in l2 12 ∧ ∃ a17 : Nat, mr σ 90 (Int32.toNatClampNeg l2) = some a17 ∧ isC a14 ∧ CX3_copy g d [.ref a14, .ref a17] σ (fun (s20 : PS) => Fr σ s20 ∧ vp_in (l2 + 1) 12 ∧ ∃ a23 : Nat, mr s20 90 (Int32.toNatClampNeg (l2 + 1)) = some a23 ∧ isC a23 ∧ CX3_pair g d [.ref a23, .int l3, .int l4] s20 (fun (v27 : Int32) (s26 : PS) => Fr s20 s26 ∧ (v27 = 0 → ∀ x28 : Int32, x28 = l4 + 1 → VX5_search g (d + 1) P 62 [some (.ref 87), none, some (.int l2), some (.int l3), some (.int x28)] [] s26) ∧ (¬ v27 = 0 → vp_in l3 22 ∧ ∀ s31 : PS, s31 = si s26 89 (Int32.toNatClampNeg l3) l4 → vp_in l4 22 ∧ ∀ s34 : PS, s34 = si s31 89 (Int32.toNatClampNeg l4) l3 → CX5_search g d [.ref 87, .int (l3 + 1), .int (l2 + 1)] s34 (fun (s36 : PS) => Fr s34 s36 ∧ vp_in l3 22 ∧ ∀ s39 : PS, s39 = si s36 89 (Int32.toNatClampNeg l3) (-1) → vp_in l4 22 ∧ ∀ s42 : PS, s42 = si s39 89 (Int32.toNatClampNeg l4) (-1) → ∀ x44 : Int32, x44 = l4 + 1 → VX5_search g (d + 1) P 62 [some (.ref 87), none, some (.int l2), some (.int l3), some (.int x44)] [] s42))))) ∧ ((jrem (l4 - l3) 2) = 0 → ∀ x46 : Int32, x46 = l4 + 1 → VX5_search g (d + 1) P 62 [some (.ref 87), none, some (.int l2), some (.int l3), some (.int x46)] [] σ))))) : VX5_search g (d + 1) P 62 [some (.ref 87), none, some (.int l2), some (.int l3), some (.int l4)] [] σ := by
  refine x_iload (dxX5_search_1 3 rfl) rfl ?_
  refine x_aload_n (i := 0) (dxX5_search_1 4 rfl) rfl rfl ?_
  refine gf_5_30 (kd_87 hL) (rv_87_0 hL) (dxX5_search_1 5 rfl) ?_
  refine gf_5_63 (kd_20 hL) rfl (dxX5_search_1 6 rfl) ?_
  refine x_icmp_ge (tgt := 185) (dxX5_search_1 7 rfl) (by decide) (fun hc => ?_) (fun hc => ?_)
  · replace h := h.1 hc
    exact x_vret rfl (dxX5_search_3 11 rfl) ⟨rfl, h⟩
  · replace h := h.2 hc
    refine x_aload_n (i := 0) (dxX5_search_1 8 rfl) rfl rfl ?_
    refine gf_5_15 (kd_87 hL) (rv_87_5 hL) (dxX5_search_1 9 rfl) ?_
    refine x_iload (dxX5_search_1 10 rfl) rfl ?_
    obtain ⟨hi12, h⟩ := h
    refine x_iald (kd_89 hL) hi12 (dxX5_search_1 11 rfl) ?_
    refine x_iconst (v := (-1)) (dxX5_search_1 12 rfl) rfl ?_
    refine x_icmp_ne (tgt := 185) (dxX5_search_1 13 rfl) (by decide) (fun hc => ?_) (fun hc => ?_)
    · replace h := h.1 hc
      exact x_vret rfl (dxX5_search_3 11 rfl) ⟨rfl, h⟩
    · replace h := h.2 hc
      refine x_aload_n (i := 0) (dxX5_search_1 14 rfl) rfl rfl ?_
      refine gf_5_38 (kd_87 hL) rfl (dxX5_search_1 15 rfl) ?_
      refine x_if_ne (tgt := 185) (dxX5_search_1 16 rfl) (by decide) (fun hc => ?_) (fun hc => ?_)
      · replace h := h.1 hc
        exact x_vret rfl (dxX5_search_3 11 rfl) ⟨rfl, h⟩
      · replace h := h.2 hc
        refine x_iload (dxX5_search_1 17 rfl) rfl ?_
        refine x_iload_n (i := 3) (dxX5_search_1 18 rfl) rfl rfl ?_
        refine x_isub (dxX5_search_1 19 rfl) ?_
        refine x_iconst (v := 2) (dxX5_search_1 20 rfl) rfl ?_
        refine x_irem (dxX5_search_1 21 rfl) (by decide) ?_
        refine x_if_ne (tgt := 104) (dxX5_search_1 22 rfl) (by decide) (fun hc => ?_) (fun hc => ?_)
        · replace h := h.1 hc
          refine x_aload_n (i := 0) (dxX5_search_1 24 rfl) rfl rfl ?_
          refine gf_5_20 (kd_87 hL) (rv_87_6 hL) (dxX5_search_1 25 rfl) ?_
          refine x_iload_n (i := 2) (dxX5_search_1 26 rfl) rfl rfl ?_
          refine x_iconst (v := 1) (dxX5_search_1 27 rfl) rfl ?_
          refine x_iadd (dxX5_search_1 28 rfl) ?_
          obtain ⟨hi13, h⟩ := h
          obtain ⟨a14, ha15, h⟩ := h
          refine x_aald (Or.inr rfl) (kd_90 hL) hi13 ha15 (dxX5_search_1 29 rfl) ?_
          refine x_aload_n (i := 0) (dxX5_search_1 30 rfl) rfl rfl ?_
          refine gf_5_20 (kd_87 hL) (rv_87_6 hL) (dxX5_search_1 31 rfl) ?_
          refine x_iload_n (i := 2) (dxX5_search_2 0 rfl) rfl rfl ?_
          obtain ⟨hi16, h⟩ := h
          obtain ⟨a17, ha18, h⟩ := h
          refine x_aald (Or.inr rfl) (kd_90 hL) hi16 ha18 (dxX5_search_2 1 rfl) ?_
          obtain ⟨is19, h⟩ := h
          refine cl_5_71 (kisC hL is19) (Nat.le_of_ble_eq_true rfl) (dxX5_search_2 2 rfl) h (fun s20 h => ?_) (Nat.le_refl _) (Nat.le_refl _)
          obtain ⟨hFs20, h⟩ := h
          have hKs20 : kd s20 = kd σ := hFs20.1.trans (rfl : kd σ = kd σ)
          have hLs20 : Lay s20 := hL.fr hFs20
          refine x_aload_n (i := 0) (dxX5_search_2 3 rfl) rfl rfl ?_
          refine gf_5_20 (kd_87 hLs20) (rv_87_6 hLs20) (dxX5_search_2 4 rfl) ?_
          refine x_iload_n (i := 2) (dxX5_search_2 5 rfl) rfl rfl ?_
          refine x_iconst (v := 1) (dxX5_search_2 6 rfl) rfl ?_
          refine x_iadd (dxX5_search_2 7 rfl) ?_
          obtain ⟨hi22, h⟩ := h
          obtain ⟨a23, ha24, h⟩ := h
          refine x_aald (Or.inr rfl) (kd_90 hLs20) hi22 ha24 (dxX5_search_2 8 rfl) ?_
          refine x_iload_n (i := 3) (dxX5_search_2 9 rfl) rfl rfl ?_
          refine x_iload (dxX5_search_2 10 rfl) rfl ?_
          obtain ⟨is25, h⟩ := h
          refine cl_5_75 (kisC hLs20 is25) (Nat.le_of_ble_eq_true rfl) (dxX5_search_2 11 rfl) h (fun v27 s26 h => ?_) (Nat.le_refl _) (Nat.le_refl _)
          obtain ⟨hFs26, h⟩ := h
          have hKs26 : kd s26 = kd σ := hFs26.1.trans hKs20
          have hLs26 : Lay s26 := hLs20.fr hFs26
          refine x_if_eq (tgt := 179) (dxX5_search_2 12 rfl) (by decide) (fun hc => ?_) (fun hc => ?_)
          · replace h := h.1 hc
            obtain ⟨x28, e29⟩ : ∃ y : Int32, y = l4 + 1 := ⟨_, rfl⟩
            replace h := h x28 e29
            refine x_iinc (v := x28) (dxX5_search_3 9 rfl) (i := 4) rfl (by rw [e29]; rfl) (Nat.le_of_ble_eq_true rfl) rfl rfl ?_
            refine x_goto (tgt := 62) (dxX5_search_3 10 rfl) (by decide) ?_
            exact h
          · replace h := h.2 hc
            refine x_aload_n (i := 0) (dxX5_search_2 13 rfl) rfl rfl ?_
            refine gf_5_15 (kd_87 hLs26) (rv_87_5 hLs26) (dxX5_search_2 14 rfl) ?_
            refine x_iload_n (i := 3) (dxX5_search_2 15 rfl) rfl rfl ?_
            refine x_iload (dxX5_search_2 16 rfl) rfl ?_
            obtain ⟨hi30, h⟩ := h
            refine x_iast (kd_89 hLs26) hi30 (dxX5_search_2 17 rfl) ?_
            refine x_sto (fun s31 e32 => ?_)
            replace h := h s31 e32
            have hKs31 : kd s31 = kd σ := by rw [e32]; exact hKs26
            have hLs31 : Lay s31 := by rw [e32]; exact hLs26.si
            refine x_aload_n (i := 0) (dxX5_search_2 18 rfl) rfl rfl ?_
            refine gf_5_15 (kd_87 hLs31) (rv_87_5 hLs31) (dxX5_search_2 19 rfl) ?_
            refine x_iload (dxX5_search_2 20 rfl) rfl ?_
            refine x_iload_n (i := 3) (dxX5_search_2 21 rfl) rfl rfl ?_
            obtain ⟨hi33, h⟩ := h
            refine x_iast (kd_89 hLs31) hi33 (dxX5_search_2 22 rfl) ?_
            refine x_sto (fun s34 e35 => ?_)
            replace h := h s34 e35
            have hKs34 : kd s34 = kd σ := by rw [e35]; exact hKs31
            have hLs34 : Lay s34 := by rw [e35]; exact hLs31.si
            refine x_aload_n (i := 0) (dxX5_search_2 23 rfl) rfl rfl ?_
            refine x_iload_n (i := 3) (dxX5_search_2 24 rfl) rfl rfl ?_
            refine x_iconst (v := 1) (dxX5_search_2 25 rfl) rfl ?_
            refine x_iadd (dxX5_search_2 26 rfl) ?_
            refine x_iload_n (i := 2) (dxX5_search_2 27 rfl) rfl rfl ?_
            refine x_iconst (v := 1) (dxX5_search_2 28 rfl) rfl ?_
            refine x_iadd (dxX5_search_2 29 rfl) ?_
            refine cl_5_59 (kd_87 hLs34) (Nat.le_of_ble_eq_true rfl) (dxX5_search_2 30 rfl) h (fun s36 h => ?_) (Nat.le_refl _) (Nat.le_refl _)
            obtain ⟨hFs36, h⟩ := h
            have hKs36 : kd s36 = kd σ := hFs36.1.trans hKs34
            have hLs36 : Lay s36 := hLs34.fr hFs36
            refine x_aload_n (i := 0) (dxX5_search_2 31 rfl) rfl rfl ?_
            refine gf_5_15 (kd_87 hLs36) (rv_87_5 hLs36) (dxX5_search_3 0 rfl) ?_
            refine x_iload_n (i := 3) (dxX5_search_3 1 rfl) rfl rfl ?_
            refine x_iconst (v := (-1)) (dxX5_search_3 2 rfl) rfl ?_
            obtain ⟨hi38, h⟩ := h
            refine x_iast (kd_89 hLs36) hi38 (dxX5_search_3 3 rfl) ?_
            refine x_sto (fun s39 e40 => ?_)
            replace h := h s39 e40
            have hKs39 : kd s39 = kd σ := by rw [e40]; exact hKs36
            have hLs39 : Lay s39 := by rw [e40]; exact hLs36.si
            refine x_aload_n (i := 0) (dxX5_search_3 4 rfl) rfl rfl ?_
            refine gf_5_15 (kd_87 hLs39) (rv_87_5 hLs39) (dxX5_search_3 5 rfl) ?_
            refine x_iload (dxX5_search_3 6 rfl) rfl ?_
            refine x_iconst (v := (-1)) (dxX5_search_3 7 rfl) rfl ?_
            obtain ⟨hi41, h⟩ := h
            refine x_iast (kd_89 hLs39) hi41 (dxX5_search_3 8 rfl) ?_
            refine x_sto (fun s42 e43 => ?_)
            replace h := h s42 e43
            have hKs42 : kd s42 = kd σ := by rw [e43]; exact hKs39
            have hLs42 : Lay s42 := by rw [e43]; exact hLs39.si
            obtain ⟨x44, e45⟩ : ∃ y : Int32, y = l4 + 1 := ⟨_, rfl⟩
            replace h := h x44 e45
            refine x_iinc (v := x44) (dxX5_search_3 9 rfl) (i := 4) rfl (by rw [e45]; rfl) (Nat.le_of_ble_eq_true rfl) rfl rfl ?_
            refine x_goto (tgt := 62) (dxX5_search_3 10 rfl) (by decide) ?_
            exact h
        · replace h := h.2 hc
          refine x_goto (tgt := 179) (dxX5_search_1 23 rfl) (by decide) ?_
          obtain ⟨x46, e47⟩ : ∃ y : Int32, y = l4 + 1 := ⟨_, rfl⟩
          replace h := h x46 e47
          refine x_iinc (v := x46) (dxX5_search_3 9 rfl) (i := 4) rfl (by rw [e47]; rfl) (Nat.le_of_ble_eq_true rfl) rfl rfl ?_
          refine x_goto (tgt := 62) (dxX5_search_3 10 rfl) (by decide) ?_
          exact h
theorem vcX5_keep {g : GV} {d : Nat} {P : PS → Prop} {σ : PS} (hL : Lay σ)  (h : ((mi σ 87 3) < 2000 → VX5_keep g d P 20 [some (.ref 87), some (.int 0), some (.int 0)] [] σ) ∧ (¬ (mi σ 87 3) < 2000 → ∀ s1 : PS, s1 = si σ 87 2 1 → P s1)) : CX5_keep g d [.ref 87] σ P := by
  refine x_entry (L := [some (.ref 87), none, none]) pn_5 (Nat.le_of_ble_eq_true rfl) ⟨2, rfl⟩ ?_
  show VX5_keep g d P 0 [some (.ref 87), none, none] [] σ
  refine x_aload_n (i := 0) (dxX5_keep_0 0 rfl) rfl rfl ?_
  refine gf_5_42 (kd_87 hL) rfl (dxX5_keep_0 1 rfl) ?_
  refine x_sipush (v := 2000) (dxX5_keep_0 2 rfl) rfl ?_
  refine x_icmp_lt (tgt := 16) (dxX5_keep_0 3 rfl) (by decide) (fun hc => ?_) (fun hc => ?_)
  · replace h := h.1 hc
    refine x_iconst (v := 0) (dxX5_keep_0 8 rfl) rfl ?_
    refine x_istore_n (i := 1) (dxX5_keep_0 9 rfl) rfl (Nat.le_of_ble_eq_true rfl) rfl rfl ?_
    refine x_iconst (v := 0) (dxX5_keep_0 10 rfl) rfl ?_
    refine x_istore_n (i := 2) (dxX5_keep_0 11 rfl) rfl (Nat.le_of_ble_eq_true rfl) rfl rfl ?_
    exact h
  · replace h := h.2 hc
    refine x_aload_n (i := 0) (dxX5_keep_0 4 rfl) rfl rfl ?_
    refine x_iconst (v := 1) (dxX5_keep_0 5 rfl) rfl ?_
    refine pf_5_38 (Or.inr rfl) (kd_87 hL) (dxX5_keep_0 6 rfl) ?_
    refine x_sto (fun s1 e2 => ?_)
    replace h := h s1 e2
    have hKs1 : kd s1 = kd σ := by rw [e2]; exact (rfl : kd σ = kd σ)
    have hLs1 : Lay s1 := by rw [e2]; exact hL.si
    exact x_vret rfl (dxX5_keep_0 7 rfl) ⟨rfl, h⟩
theorem vcX5_keep_20 {g : GV} {d : Nat} {P : PS → Prop} {σ : PS} (hL : Lay σ) (l1 : Int32) (l2 : Int32) (h : ((mi σ 20 6) ≤ l2 → vp_in (mi σ 87 3) 2000 ∧ ∀ s4 : PS, s4 = si σ 88 (Int32.toNatClampNeg (mi σ 87 3)) l1 → ∀ s6 : PS, s6 = si s4 87 3 ((mi s4 87 3) + 1) → P s6) ∧ (¬ (mi σ 20 6) ≤ l2 → vp_in l2 22 ∧ ((mi σ 89 (Int32.toNatClampNeg l2)) ≤ l2 → ∀ x9 : Int32, x9 = l1 ||| 0 → ∀ x11 : Int32, x11 = l2 + 1 → VX5_keep g d P 20 [some (.ref 87), some (.int x9), some (.int x11)] [] σ) ∧ (¬ (mi σ 89 (Int32.toNatClampNeg l2)) ≤ l2 → ∀ x13 : Int32, x13 = l1 ||| (jshl 1 l2) → ∀ x15 : Int32, x15 = l2 + 1 → VX5_keep g d P 20 [some (.ref 87), some (.int x13), some (.int x15)] [] σ))) : VX5_keep g d P 20 [some (.ref 87), some (.int l1), some (.int l2)] [] σ := by
  refine x_iload_n (i := 2) (dxX5_keep_0 12 rfl) rfl rfl ?_
  refine x_aload_n (i := 0) (dxX5_keep_0 13 rfl) rfl rfl ?_
  refine gf_5_30 (kd_87 hL) (rv_87_0 hL) (dxX5_keep_0 14 rfl) ?_
  refine gf_5_63 (kd_20 hL) rfl (dxX5_keep_0 15 rfl) ?_
  refine x_icmp_ge (tgt := 57) (dxX5_keep_0 16 rfl) (by decide) (fun hc => ?_) (fun hc => ?_)
  · replace h := h.1 hc
    refine x_aload_n (i := 0) (dxX5_keep_1 1 rfl) rfl rfl ?_
    refine gf_5_11 (kd_87 hL) (rv_87_4 hL) (dxX5_keep_1 2 rfl) ?_
    refine x_aload_n (i := 0) (dxX5_keep_1 3 rfl) rfl rfl ?_
    refine gf_5_42 (kd_87 hL) rfl (dxX5_keep_1 4 rfl) ?_
    refine x_iload_n (i := 1) (dxX5_keep_1 5 rfl) rfl rfl ?_
    obtain ⟨hi3, h⟩ := h
    refine x_iast (kd_88 hL) hi3 (dxX5_keep_1 6 rfl) ?_
    refine x_sto (fun s4 e5 => ?_)
    replace h := h s4 e5
    have hKs4 : kd s4 = kd σ := by rw [e5]; exact (rfl : kd σ = kd σ)
    have hLs4 : Lay s4 := by rw [e5]; exact hL.si
    refine x_aload_n (i := 0) (dxX5_keep_1 7 rfl) rfl rfl ?_
    refine x_dup (dxX5_keep_1 8 rfl) rfl ?_
    refine gf_5_42 (kd_87 hLs4) rfl (dxX5_keep_1 9 rfl) ?_
    refine x_iconst (v := 1) (dxX5_keep_1 10 rfl) rfl ?_
    refine x_iadd (dxX5_keep_1 11 rfl) ?_
    refine pf_5_42 (kd_87 hLs4) (dxX5_keep_1 12 rfl) ?_
    refine x_sto (fun s6 e7 => ?_)
    replace h := h s6 e7
    have hKs6 : kd s6 = kd σ := by rw [e7]; exact hKs4
    have hLs6 : Lay s6 := by rw [e7]; exact hLs4.si
    exact x_vret rfl (dxX5_keep_1 13 rfl) ⟨rfl, h⟩
  · replace h := h.2 hc
    refine x_iload_n (i := 1) (dxX5_keep_0 17 rfl) rfl rfl ?_
    refine x_aload_n (i := 0) (dxX5_keep_0 18 rfl) rfl rfl ?_
    refine gf_5_15 (kd_87 hL) (rv_87_5 hL) (dxX5_keep_0 19 rfl) ?_
    refine x_iload_n (i := 2) (dxX5_keep_0 20 rfl) rfl rfl ?_
    obtain ⟨hi8, h⟩ := h
    refine x_iald (kd_89 hL) hi8 (dxX5_keep_0 21 rfl) ?_
    refine x_iload_n (i := 2) (dxX5_keep_0 22 rfl) rfl rfl ?_
    refine x_icmp_le (tgt := 48) (dxX5_keep_0 23 rfl) (by decide) (fun hc => ?_) (fun hc => ?_)
    · replace h := h.1 hc
      refine x_iconst (v := 0) (dxX5_keep_0 28 rfl) rfl ?_
      refine x_ior (dxX5_keep_0 29 rfl) ?_
      refine x_topi (fun x9 e10 => ?_)
      replace h := h x9 e10
      refine x_istore_n (i := 1) (dxX5_keep_0 30 rfl) rfl (Nat.le_of_ble_eq_true rfl) rfl rfl ?_
      obtain ⟨x11, e12⟩ : ∃ y : Int32, y = l2 + 1 := ⟨_, rfl⟩
      replace h := h x11 e12
      refine x_iinc (v := x11) (dxX5_keep_0 31 rfl) (i := 2) rfl (by rw [e12]; rfl) (Nat.le_of_ble_eq_true rfl) rfl rfl ?_
      refine x_goto (tgt := 20) (dxX5_keep_1 0 rfl) (by decide) ?_
      exact h
    · replace h := h.2 hc
      refine x_iconst (v := 1) (dxX5_keep_0 24 rfl) rfl ?_
      refine x_iload_n (i := 2) (dxX5_keep_0 25 rfl) rfl rfl ?_
      refine x_ishl (dxX5_keep_0 26 rfl) ?_
      refine x_goto (tgt := 49) (dxX5_keep_0 27 rfl) (by decide) ?_
      refine x_ior (dxX5_keep_0 29 rfl) ?_
      refine x_topi (fun x13 e14 => ?_)
      replace h := h x13 e14
      refine x_istore_n (i := 1) (dxX5_keep_0 30 rfl) rfl (Nat.le_of_ble_eq_true rfl) rfl rfl ?_
      obtain ⟨x15, e16⟩ : ∃ y : Int32, y = l2 + 1 := ⟨_, rfl⟩
      replace h := h x15 e16
      refine x_iinc (v := x15) (dxX5_keep_0 31 rfl) (i := 2) rfl (by rw [e16]; rfl) (Nat.le_of_ble_eq_true rfl) rfl rfl ?_
      refine x_goto (tgt := 20) (dxX5_keep_1 0 rfl) (by decide) ?_
      exact h
theorem vcX5_tell {g : GV} {d : Nat} {P : PS → Prop} {σ : PS} (hL : Lay σ) (p0 : Int32) (h : (p0 < 0 → VX5_tell g d P 28 [some (.ref 87), none, some (.int 0), some (.int 0), some (.int 0)] [] σ) ∧ (¬ p0 < 0 → ((mi σ 87 3) ≤ p0 → VX5_tell g d P 28 [some (.ref 87), none, some (.int 0), some (.int 0), some (.int 0)] [] σ) ∧ (¬ (mi σ 87 3) ≤ p0 → vp_in p0 2000 ∧ ∀ x2 : Int32, x2 = mi σ 88 (Int32.toNatClampNeg p0) → VX5_tell g d P 28 [some (.ref 87), none, some (.int 0), some (.int x2), some (.int 0)] [] σ))) : CX5_tell g d [.ref 87, .int p0] σ P := by
  refine x_entry (L := [some (.ref 87), some (.int p0), none, none, none]) pn_5 (Nat.le_of_ble_eq_true rfl) ⟨3, rfl⟩ ?_
  show VX5_tell g d P 0 [some (.ref 87), some (.int p0), none, none, none] [] σ
  refine x_iconst (v := 0) (dxX5_tell_0 0 rfl) rfl ?_
  refine x_istore_n (i := 2) (dxX5_tell_0 1 rfl) rfl (Nat.le_of_ble_eq_true rfl) rfl rfl ?_
  refine x_iload_n (i := 1) (dxX5_tell_0 2 rfl) rfl rfl ?_
  refine x_if_lt (tgt := 23) (dxX5_tell_0 3 rfl) (by decide) (fun hc => ?_) (fun hc => ?_)
  · replace h := h.1 hc
    refine x_iconst (v := 0) (dxX5_tell_0 13 rfl) rfl ?_
    refine x_istore_n (i := 3) (dxX5_tell_0 14 rfl) rfl (Nat.le_of_ble_eq_true rfl) rfl rfl ?_
    refine x_iconst (v := 0) (dxX5_tell_0 15 rfl) rfl ?_
    refine x_istore (dxX5_tell_0 16 rfl) (Nat.le_of_ble_eq_true rfl) rfl rfl ?_
    refine x_mask [true, false, true, true, true] (L1 := [some (.ref 87), none, some (.int 0), some (.int 0), some (.int 0)]) rfl ?_
    exact h
  · replace h := h.2 hc
    refine x_iload_n (i := 1) (dxX5_tell_0 4 rfl) rfl rfl ?_
    refine x_aload_n (i := 0) (dxX5_tell_0 5 rfl) rfl rfl ?_
    refine gf_5_42 (kd_87 hL) rfl (dxX5_tell_0 6 rfl) ?_
    refine x_icmp_ge (tgt := 23) (dxX5_tell_0 7 rfl) (by decide) (fun hc => ?_) (fun hc => ?_)
    · replace h := h.1 hc
      refine x_iconst (v := 0) (dxX5_tell_0 13 rfl) rfl ?_
      refine x_istore_n (i := 3) (dxX5_tell_0 14 rfl) rfl (Nat.le_of_ble_eq_true rfl) rfl rfl ?_
      refine x_iconst (v := 0) (dxX5_tell_0 15 rfl) rfl ?_
      refine x_istore (dxX5_tell_0 16 rfl) (Nat.le_of_ble_eq_true rfl) rfl rfl ?_
      refine x_mask [true, false, true, true, true] (L1 := [some (.ref 87), none, some (.int 0), some (.int 0), some (.int 0)]) rfl ?_
      exact h
    · replace h := h.2 hc
      refine x_aload_n (i := 0) (dxX5_tell_0 8 rfl) rfl rfl ?_
      refine gf_5_11 (kd_87 hL) (rv_87_4 hL) (dxX5_tell_0 9 rfl) ?_
      refine x_iload_n (i := 1) (dxX5_tell_0 10 rfl) rfl rfl ?_
      obtain ⟨hi1, h⟩ := h
      refine x_iald (kd_88 hL) hi1 (dxX5_tell_0 11 rfl) ?_
      refine x_goto (tgt := 24) (dxX5_tell_0 12 rfl) (by decide) ?_
      refine x_topi (fun x2 e3 => ?_)
      replace h := h x2 e3
      refine x_istore_n (i := 3) (dxX5_tell_0 14 rfl) rfl (Nat.le_of_ble_eq_true rfl) rfl rfl ?_
      refine x_iconst (v := 0) (dxX5_tell_0 15 rfl) rfl ?_
      refine x_istore (dxX5_tell_0 16 rfl) (Nat.le_of_ble_eq_true rfl) rfl rfl ?_
      refine x_mask [true, false, true, true, true] (L1 := [some (.ref 87), none, some (.int 0), some (.int x2), some (.int 0)]) rfl ?_
      exact h
theorem vcX5_tell_28 {g : GV} {d : Nat} {P : PS → Prop} {σ : PS} (hL : Lay σ) (l2 : Int32) (l3 : Int32) (l4 : Int32) (h : (22 ≤ l4 → P σ) ∧ (¬ 22 ≤ l4 → vp_in l4 22 ∧ ∀ s5 : PS, s5 = si σ 92 (Int32.toNatClampNeg l4) (-1) → (((jshr l3 l4) &&& 1) = 0 → (l2 ≤ 0 → ∀ x7 : Int32, x7 = l4 + 1 → VX5_tell g d P 28 [some (.ref 87), none, some (.int l2), some (.int l3), some (.int x7)] [] s5) ∧ (¬ l2 ≤ 0 → ∀ x9 : Int32, x9 = l2 + (-1) → vp_in x9 22 ∧ vp_in l4 22 ∧ ∀ s13 : PS, s13 = si s5 92 (Int32.toNatClampNeg l4) (mi s5 91 (Int32.toNatClampNeg x9)) → vp_in x9 22 ∧ vp_in (mi s13 91 (Int32.toNatClampNeg x9)) 22 ∧ ∀ s17 : PS, s17 = si s13 92 (Int32.toNatClampNeg (mi s13 91 (Int32.toNatClampNeg x9))) l4 → ∀ x19 : Int32, x19 = l4 + 1 → VX5_tell g d P 28 [some (.ref 87), none, some (.int x9), some (.int l3), some (.int x19)] [] s17)) ∧ (¬ ((jshr l3 l4) &&& 1) = 0 → vp_in l2 22 ∧ ∀ s22 : PS, s22 = si s5 91 (Int32.toNatClampNeg l2) l4 → ∀ x24 : Int32, x24 = l2 + 1 → ∀ x26 : Int32, x26 = l4 + 1 → VX5_tell g d P 28 [some (.ref 87), none, some (.int x24), some (.int l3), some (.int x26)] [] s22))) : VX5_tell g d P 28 [some (.ref 87), none, some (.int l2), some (.int l3), some (.int l4)] [] σ := by
  refine x_iload (dxX5_tell_0 17 rfl) rfl ?_
  refine x_bipush (v := 22) (dxX5_tell_0 18 rfl) rfl ?_
  refine x_icmp_ge (tgt := 105) (dxX5_tell_0 19 rfl) (by decide) (fun hc => ?_) (fun hc => ?_)
  · replace h := h.1 hc
    exact x_vret rfl (dxX5_tell_1 27 rfl) ⟨rfl, h⟩
  · replace h := h.2 hc
    refine x_aload_n (i := 0) (dxX5_tell_0 20 rfl) rfl rfl ?_
    refine gf_5_27 (kd_87 hL) (rv_87_8 hL) (dxX5_tell_0 21 rfl) ?_
    refine x_iload (dxX5_tell_0 22 rfl) rfl ?_
    refine x_iconst (v := (-1)) (dxX5_tell_0 23 rfl) rfl ?_
    obtain ⟨hi4, h⟩ := h
    refine x_iast (kd_92 hL) hi4 (dxX5_tell_0 24 rfl) ?_
    refine x_sto (fun s5 e6 => ?_)
    replace h := h s5 e6
    have hKs5 : kd s5 = kd σ := by rw [e6]; exact (rfl : kd σ = kd σ)
    have hLs5 : Lay s5 := by rw [e6]; exact hL.si
    refine x_iload_n (i := 3) (dxX5_tell_0 25 rfl) rfl rfl ?_
    refine x_iload (dxX5_tell_0 26 rfl) rfl ?_
    refine x_ishr (dxX5_tell_0 27 rfl) ?_
    refine x_iconst (v := 1) (dxX5_tell_0 28 rfl) rfl ?_
    refine x_iand (dxX5_tell_0 29 rfl) ?_
    refine x_if_eq (tgt := 66) (dxX5_tell_0 30 rfl) (by decide) (fun hc => ?_) (fun hc => ?_)
    · replace h := h.1 hc
      refine x_iload_n (i := 2) (dxX5_tell_1 6 rfl) rfl rfl ?_
      refine x_if_le (tgt := 99) (dxX5_tell_1 7 rfl) (by decide) (fun hc => ?_) (fun hc => ?_)
      · replace h := h.1 hc
        obtain ⟨x7, e8⟩ : ∃ y : Int32, y = l4 + 1 := ⟨_, rfl⟩
        replace h := h x7 e8
        refine x_iinc (v := x7) (dxX5_tell_1 25 rfl) (i := 4) rfl (by rw [e8]; rfl) (Nat.le_of_ble_eq_true rfl) rfl rfl ?_
        refine x_goto (tgt := 28) (dxX5_tell_1 26 rfl) (by decide) ?_
        exact h
      · replace h := h.2 hc
        obtain ⟨x9, e10⟩ : ∃ y : Int32, y = l2 + (-1) := ⟨_, rfl⟩
        replace h := h x9 e10
        refine x_iinc (v := x9) (dxX5_tell_1 8 rfl) (i := 2) rfl (by rw [e10]; rfl) (Nat.le_of_ble_eq_true rfl) rfl rfl ?_
        refine x_aload_n (i := 0) (dxX5_tell_1 9 rfl) rfl rfl ?_
        refine gf_5_27 (kd_87 hLs5) (rv_87_8 hLs5) (dxX5_tell_1 10 rfl) ?_
        refine x_iload (dxX5_tell_1 11 rfl) rfl ?_
        refine x_aload_n (i := 0) (dxX5_tell_1 12 rfl) rfl rfl ?_
        refine gf_5_24 (kd_87 hLs5) (rv_87_7 hLs5) (dxX5_tell_1 13 rfl) ?_
        refine x_iload_n (i := 2) (dxX5_tell_1 14 rfl) rfl rfl ?_
        obtain ⟨hi11, h⟩ := h
        refine x_iald (kd_91 hLs5) hi11 (dxX5_tell_1 15 rfl) ?_
        obtain ⟨hi12, h⟩ := h
        refine x_iast (kd_92 hLs5) hi12 (dxX5_tell_1 16 rfl) ?_
        refine x_sto (fun s13 e14 => ?_)
        replace h := h s13 e14
        have hKs13 : kd s13 = kd σ := by rw [e14]; exact hKs5
        have hLs13 : Lay s13 := by rw [e14]; exact hLs5.si
        refine x_aload_n (i := 0) (dxX5_tell_1 17 rfl) rfl rfl ?_
        refine gf_5_27 (kd_87 hLs13) (rv_87_8 hLs13) (dxX5_tell_1 18 rfl) ?_
        refine x_aload_n (i := 0) (dxX5_tell_1 19 rfl) rfl rfl ?_
        refine gf_5_24 (kd_87 hLs13) (rv_87_7 hLs13) (dxX5_tell_1 20 rfl) ?_
        refine x_iload_n (i := 2) (dxX5_tell_1 21 rfl) rfl rfl ?_
        obtain ⟨hi15, h⟩ := h
        refine x_iald (kd_91 hLs13) hi15 (dxX5_tell_1 22 rfl) ?_
        refine x_iload (dxX5_tell_1 23 rfl) rfl ?_
        obtain ⟨hi16, h⟩ := h
        refine x_iast (kd_92 hLs13) hi16 (dxX5_tell_1 24 rfl) ?_
        refine x_sto (fun s17 e18 => ?_)
        replace h := h s17 e18
        have hKs17 : kd s17 = kd σ := by rw [e18]; exact hKs13
        have hLs17 : Lay s17 := by rw [e18]; exact hLs13.si
        obtain ⟨x19, e20⟩ : ∃ y : Int32, y = l4 + 1 := ⟨_, rfl⟩
        replace h := h x19 e20
        refine x_iinc (v := x19) (dxX5_tell_1 25 rfl) (i := 4) rfl (by rw [e20]; rfl) (Nat.le_of_ble_eq_true rfl) rfl rfl ?_
        refine x_goto (tgt := 28) (dxX5_tell_1 26 rfl) (by decide) ?_
        exact h
    · replace h := h.2 hc
      refine x_aload_n (i := 0) (dxX5_tell_0 31 rfl) rfl rfl ?_
      refine gf_5_24 (kd_87 hLs5) (rv_87_7 hLs5) (dxX5_tell_1 0 rfl) ?_
      refine x_iload_n (i := 2) (dxX5_tell_1 1 rfl) rfl rfl ?_
      refine x_iload (dxX5_tell_1 2 rfl) rfl ?_
      obtain ⟨hi21, h⟩ := h
      refine x_iast (kd_91 hLs5) hi21 (dxX5_tell_1 3 rfl) ?_
      refine x_sto (fun s22 e23 => ?_)
      replace h := h s22 e23
      have hKs22 : kd s22 = kd σ := by rw [e23]; exact hKs5
      have hLs22 : Lay s22 := by rw [e23]; exact hLs5.si
      obtain ⟨x24, e25⟩ : ∃ y : Int32, y = l2 + 1 := ⟨_, rfl⟩
      replace h := h x24 e25
      refine x_iinc (v := x24) (dxX5_tell_1 4 rfl) (i := 2) rfl (by rw [e25]; rfl) (Nat.le_of_ble_eq_true rfl) rfl rfl ?_
      refine x_goto (tgt := 99) (dxX5_tell_1 5 rfl) (by decide) ?_
      obtain ⟨x26, e27⟩ : ∃ y : Int32, y = l4 + 1 := ⟨_, rfl⟩
      replace h := h x26 e27
      refine x_iinc (v := x26) (dxX5_tell_1 25 rfl) (i := 4) rfl (by rw [e27]; rfl) (Nat.le_of_ble_eq_true rfl) rfl rfl ?_
      refine x_goto (tgt := 28) (dxX5_tell_1 26 rfl) (by decide) ?_
      exact h
