theorem vcX1_areAlike {g : GV} {d : Nat} {P : Int32 → PS → Prop} {σ : PS} (hL : Lay σ) (p0 : Int32) (p1 : Int32) (h : CX1_describe g d [.ref 133, .int p0, .int 300] σ (fun (s1 : PS) => Fr σ s1 ∧ CX1_describe g d [.ref 133, .int p1, .int 301] s1 (fun (s3 : PS) => Fr s1 s3 ∧ CX1_equal g d [.ref 133, .int 300, .int 301] s3 (fun (v6 : Int32) (s5 : PS) => Fr s3 s5 ∧ (v6 = 0 ∨ v6 = 1) ∧ P v6 s5)))) : CX1_areAlike g (d + 1) [.ref 133, .int p0, .int p1] σ P := by
  refine x_entry (L := [some (.ref 133), some (.int p0), some (.int p1)]) pn_1 (Nat.le_of_ble_eq_true rfl) ⟨0, rfl⟩ ?_
  show VX1_areAlike g (d + 1) P 0 [some (.ref 133), some (.int p0), some (.int p1)] [] σ
  refine x_aload_n (i := 0) (dxX1_areAlike_0 0 rfl) rfl rfl ?_
  refine x_iload_n (i := 1) (dxX1_areAlike_0 1 rfl) rfl rfl ?_
  refine x_sipush (v := 300) (dxX1_areAlike_0 2 rfl) rfl ?_
  refine cl_1_46 (kd_133 hL) (Nat.le_of_ble_eq_true rfl) (dxX1_areAlike_0 3 rfl) h (fun s1 h => ?_) (Nat.le_refl _) (Nat.le_refl _)
  obtain ⟨hFs1, h⟩ := h
  have hKs1 : kd s1 = kd σ := hFs1.1.trans (rfl : kd σ = kd σ)
  have hLs1 : Lay s1 := hL.fr hFs1
  refine x_aload_n (i := 0) (dxX1_areAlike_0 4 rfl) rfl rfl ?_
  refine x_iload_n (i := 2) (dxX1_areAlike_0 5 rfl) rfl rfl ?_
  refine x_sipush (v := 301) (dxX1_areAlike_0 6 rfl) rfl ?_
  refine cl_1_46 (kd_133 hLs1) (Nat.le_of_ble_eq_true rfl) (dxX1_areAlike_0 7 rfl) h (fun s3 h => ?_) (Nat.le_refl _) (Nat.le_refl _)
  obtain ⟨hFs3, h⟩ := h
  have hKs3 : kd s3 = kd σ := hFs3.1.trans hKs1
  have hLs3 : Lay s3 := hLs1.fr hFs3
  refine x_aload_n (i := 0) (dxX1_areAlike_0 8 rfl) rfl rfl ?_
  refine x_sipush (v := 300) (dxX1_areAlike_0 9 rfl) rfl ?_
  refine x_sipush (v := 301) (dxX1_areAlike_0 10 rfl) rfl ?_
  refine cl_1_50 (kd_133 hLs3) (Nat.le_of_ble_eq_true rfl) (dxX1_areAlike_0 11 rfl) h (fun v6 s5 h => ?_) (Nat.le_refl _) (Nat.le_refl _)
  obtain ⟨hFs5, h⟩ := h
  have hKs5 : kd s5 = kd σ := hFs5.1.trans hKs3
  have hLs5 : Lay s5 := hLs3.fr hFs5
  obtain ⟨hb7, h⟩ := h
  exact x_iret (ty := .boolean) rfl (nb01 hb7) (dxX1_areAlike_0 12 rfl) ⟨_, rfl, h⟩
theorem vcX1_work {g : GV} {d : Nat} {P : Int32 → PS → Prop} {σ : PS} (hL : Lay σ)  (h : (¬ (mi σ 133 9) = 0 → ((mi σ 133 10) = 0 ∨ (mi σ 133 10) = 1) ∧ P (mi σ 133 10) σ) ∧ ((mi σ 133 9) = 0 → ∀ s2 : PS, s2 = si σ 133 9 1 → CX5_work g d [.ref 87] s2 (fun (s4 : PS) => Fr s2 s4 ∧ (¬ (mi s4 87 2) = 0 → ∀ s6 : PS, s6 = si s4 133 10 0 → ∀ s8 : PS, s8 = si s6 133 11 0 → VX1_work g (d + 1) P 58 [some (.ref 133), some (.int 0)] [] s8) ∧ ((mi s4 87 2) = 0 → (300 < (mi s4 87 3) → ∀ s10 : PS, s10 = si s4 133 10 0 → ∀ s12 : PS, s12 = si s10 133 11 0 → VX1_work g (d + 1) P 58 [some (.ref 133), some (.int 0)] [] s12) ∧ (¬ 300 < (mi s4 87 3) → ∀ s14 : PS, s14 = si s4 133 10 1 → ∀ s16 : PS, s16 = si s14 133 11 0 → VX1_work g (d + 1) P 58 [some (.ref 133), some (.int 0)] [] s16))))) : CX1_work g (d + 1) [.ref 133] σ P := by
  refine x_entry (L := [some (.ref 133), none]) pn_1 (Nat.le_of_ble_eq_true rfl) ⟨1, rfl⟩ ?_
  show VX1_work g (d + 1) P 0 [some (.ref 133), none] [] σ
  refine x_aload_n (i := 0) (dxX1_work_0 0 rfl) rfl rfl ?_
  refine gf_1_54 (kd_133 hL) rfl (dxX1_work_0 1 rfl) ?_
  refine x_if_ne (tgt := 123) (dxX1_work_0 2 rfl) (by decide) (fun hc => ?_) (fun hc => ?_)
  · replace h := h.1 hc
    refine x_aload_n (i := 0) (dxX1_work_1 31 rfl) rfl rfl ?_
    refine gf_1_70 (kd_133 hL) rfl (dxX1_work_2 0 rfl) ?_
    obtain ⟨hb1, h⟩ := h
    exact x_iret (ty := .boolean) rfl (nb01 hb1) (dxX1_work_2 1 rfl) ⟨_, rfl, h⟩
  · replace h := h.2 hc
    refine x_aload_n (i := 0) (dxX1_work_0 3 rfl) rfl rfl ?_
    refine x_iconst (v := 1) (dxX1_work_0 4 rfl) rfl ?_
    refine pf_1_54 (Or.inr rfl) (kd_133 hL) (dxX1_work_0 5 rfl) ?_
    refine x_sto (fun s2 e3 => ?_)
    replace h := h s2 e3
    have hKs2 : kd s2 = kd σ := by rw [e3]; exact (rfl : kd σ = kd σ)
    have hLs2 : Lay s2 := by rw [e3]; exact hL.si
    refine x_aload_n (i := 0) (dxX1_work_0 6 rfl) rfl rfl ?_
    refine gf_1_42 (kd_133 hLs2) (rv_133_1 hLs2) (dxX1_work_0 7 rfl) ?_
    refine cl_1_58 (kd_87 hLs2) (Nat.le_of_ble_eq_true rfl) (dxX1_work_0 8 rfl) h (fun s4 h => ?_) (Nat.le_refl _) (Nat.le_refl _)
    obtain ⟨hFs4, h⟩ := h
    have hKs4 : kd s4 = kd σ := hFs4.1.trans hKs2
    have hLs4 : Lay s4 := hLs2.fr hFs4
    refine x_aload_n (i := 0) (dxX1_work_0 9 rfl) rfl rfl ?_
    refine x_aload_n (i := 0) (dxX1_work_0 10 rfl) rfl rfl ?_
    refine gf_1_42 (kd_133 hLs4) (rv_133_1 hLs4) (dxX1_work_0 11 rfl) ?_
    refine gf_1_63 (kd_87 hLs4) rfl (dxX1_work_0 12 rfl) ?_
    refine x_if_ne (tgt := 47) (dxX1_work_0 13 rfl) (by decide) (fun hc => ?_) (fun hc => ?_)
    · replace h := h.1 hc
      refine x_iconst (v := 0) (dxX1_work_0 21 rfl) rfl ?_
      refine pf_1_70 (Or.inl rfl) (kd_133 hLs4) (dxX1_work_0 22 rfl) ?_
      refine x_sto (fun s6 e7 => ?_)
      replace h := h s6 e7
      have hKs6 : kd s6 = kd σ := by rw [e7]; exact hKs4
      have hLs6 : Lay s6 := by rw [e7]; exact hLs4.si
      refine x_aload_n (i := 0) (dxX1_work_0 23 rfl) rfl rfl ?_
      refine x_iconst (v := 0) (dxX1_work_0 24 rfl) rfl ?_
      refine pf_1_73 (kd_133 hLs6) (dxX1_work_0 25 rfl) ?_
      refine x_sto (fun s8 e9 => ?_)
      replace h := h s8 e9
      have hKs8 : kd s8 = kd σ := by rw [e9]; exact hKs6
      have hLs8 : Lay s8 := by rw [e9]; exact hLs6.si
      refine x_iconst (v := 0) (dxX1_work_0 26 rfl) rfl ?_
      refine x_istore_n (i := 1) (dxX1_work_0 27 rfl) rfl (Nat.le_of_ble_eq_true rfl) rfl rfl ?_
      exact h
    · replace h := h.2 hc
      refine x_aload_n (i := 0) (dxX1_work_0 14 rfl) rfl rfl ?_
      refine gf_1_42 (kd_133 hLs4) (rv_133_1 hLs4) (dxX1_work_0 15 rfl) ?_
      refine gf_1_66 (kd_87 hLs4) rfl (dxX1_work_0 16 rfl) ?_
      refine x_sipush (v := 300) (dxX1_work_0 17 rfl) rfl ?_
      refine x_icmp_gt (tgt := 47) (dxX1_work_0 18 rfl) (by decide) (fun hc => ?_) (fun hc => ?_)
      · replace h := h.1 hc
        refine x_iconst (v := 0) (dxX1_work_0 21 rfl) rfl ?_
        refine pf_1_70 (Or.inl rfl) (kd_133 hLs4) (dxX1_work_0 22 rfl) ?_
        refine x_sto (fun s10 e11 => ?_)
        replace h := h s10 e11
        have hKs10 : kd s10 = kd σ := by rw [e11]; exact hKs4
        have hLs10 : Lay s10 := by rw [e11]; exact hLs4.si
        refine x_aload_n (i := 0) (dxX1_work_0 23 rfl) rfl rfl ?_
        refine x_iconst (v := 0) (dxX1_work_0 24 rfl) rfl ?_
        refine pf_1_73 (kd_133 hLs10) (dxX1_work_0 25 rfl) ?_
        refine x_sto (fun s12 e13 => ?_)
        replace h := h s12 e13
        have hKs12 : kd s12 = kd σ := by rw [e13]; exact hKs10
        have hLs12 : Lay s12 := by rw [e13]; exact hLs10.si
        refine x_iconst (v := 0) (dxX1_work_0 26 rfl) rfl ?_
        refine x_istore_n (i := 1) (dxX1_work_0 27 rfl) rfl (Nat.le_of_ble_eq_true rfl) rfl rfl ?_
        exact h
      · replace h := h.2 hc
        refine x_iconst (v := 1) (dxX1_work_0 19 rfl) rfl ?_
        refine x_goto (tgt := 48) (dxX1_work_0 20 rfl) (by decide) ?_
        refine pf_1_70 (Or.inr rfl) (kd_133 hLs4) (dxX1_work_0 22 rfl) ?_
        refine x_sto (fun s14 e15 => ?_)
        replace h := h s14 e15
        have hKs14 : kd s14 = kd σ := by rw [e15]; exact hKs4
        have hLs14 : Lay s14 := by rw [e15]; exact hLs4.si
        refine x_aload_n (i := 0) (dxX1_work_0 23 rfl) rfl rfl ?_
        refine x_iconst (v := 0) (dxX1_work_0 24 rfl) rfl ?_
        refine pf_1_73 (kd_133 hLs14) (dxX1_work_0 25 rfl) ?_
        refine x_sto (fun s16 e17 => ?_)
        replace h := h s16 e17
        have hKs16 : kd s16 = kd σ := by rw [e17]; exact hKs14
        have hLs16 : Lay s16 := by rw [e17]; exact hLs14.si
        refine x_iconst (v := 0) (dxX1_work_0 26 rfl) rfl ?_
        refine x_istore_n (i := 1) (dxX1_work_0 27 rfl) rfl (Nat.le_of_ble_eq_true rfl) rfl rfl ?_
        exact h
theorem vcX1_work_58 {g : GV} {d : Nat} {P : Int32 → PS → Prop} {σ : PS} (hL : Lay σ) (l1 : Int32) (h : ((mi σ 133 10) = 0 → ((mi σ 133 10) = 0 ∨ (mi σ 133 10) = 1) ∧ P (mi σ 133 10) σ) ∧ (¬ (mi σ 133 10) = 0 → ((mi σ 87 3) ≤ l1 → ((mi σ 133 10) = 0 ∨ (mi σ 133 10) = 1) ∧ P (mi σ 133 10) σ) ∧ (¬ (mi σ 87 3) ≤ l1 → CX1_describe g d [.ref 133, .int l1, .int l1] σ (fun (s20 : PS) => Fr σ s20 ∧ CX1_firstEqual g d [.ref 133, .int l1] s20 (fun (v23 : Int32) (s22 : PS) => Fr s20 s22 ∧ vp_in l1 300 ∧ ∀ s25 : PS, s25 = si s22 143 (Int32.toNatClampNeg l1) v23 → vp_in l1 300 ∧ (¬ (mi s25 143 (Int32.toNatClampNeg l1)) = l1 → ∀ s28 : PS, s28 = si s25 133 11 ((mi s25 133 11) + 0) → ∀ x30 : Int32, x30 = l1 + 1 → VX1_work g (d + 1) P 58 [some (.ref 133), some (.int x30)] [] s28) ∧ ((mi s25 143 (Int32.toNatClampNeg l1)) = l1 → ∀ s32 : PS, s32 = si s25 133 11 ((mi s25 133 11) + 1) → ∀ x34 : Int32, x34 = l1 + 1 → VX1_work g (d + 1) P 58 [some (.ref 133), some (.int x34)] [] s32)))))) : VX1_work g (d + 1) P 58 [some (.ref 133), some (.int l1)] [] σ := by
  refine x_aload_n (i := 0) (dxX1_work_0 28 rfl) rfl rfl ?_
  refine gf_1_70 (kd_133 hL) rfl (dxX1_work_0 29 rfl) ?_
  refine x_if_eq (tgt := 123) (dxX1_work_0 30 rfl) (by decide) (fun hc => ?_) (fun hc => ?_)
  · replace h := h.1 hc
    refine x_aload_n (i := 0) (dxX1_work_1 31 rfl) rfl rfl ?_
    refine gf_1_70 (kd_133 hL) rfl (dxX1_work_2 0 rfl) ?_
    obtain ⟨hb18, h⟩ := h
    exact x_iret (ty := .boolean) rfl (nb01 hb18) (dxX1_work_2 1 rfl) ⟨_, rfl, h⟩
  · replace h := h.2 hc
    refine x_iload_n (i := 1) (dxX1_work_0 31 rfl) rfl rfl ?_
    refine x_aload_n (i := 0) (dxX1_work_1 0 rfl) rfl rfl ?_
    refine gf_1_42 (kd_133 hL) (rv_133_1 hL) (dxX1_work_1 1 rfl) ?_
    refine gf_1_66 (kd_87 hL) rfl (dxX1_work_1 2 rfl) ?_
    refine x_icmp_ge (tgt := 123) (dxX1_work_1 3 rfl) (by decide) (fun hc => ?_) (fun hc => ?_)
    · replace h := h.1 hc
      refine x_aload_n (i := 0) (dxX1_work_1 31 rfl) rfl rfl ?_
      refine gf_1_70 (kd_133 hL) rfl (dxX1_work_2 0 rfl) ?_
      obtain ⟨hb19, h⟩ := h
      exact x_iret (ty := .boolean) rfl (nb01 hb19) (dxX1_work_2 1 rfl) ⟨_, rfl, h⟩
    · replace h := h.2 hc
      refine x_aload_n (i := 0) (dxX1_work_1 4 rfl) rfl rfl ?_
      refine x_iload_n (i := 1) (dxX1_work_1 5 rfl) rfl rfl ?_
      refine x_iload_n (i := 1) (dxX1_work_1 6 rfl) rfl rfl ?_
      refine cl_1_46 (kd_133 hL) (Nat.le_of_ble_eq_true rfl) (dxX1_work_1 7 rfl) h (fun s20 h => ?_) (Nat.le_refl _) (Nat.le_refl _)
      obtain ⟨hFs20, h⟩ := h
      have hKs20 : kd s20 = kd σ := hFs20.1.trans (rfl : kd σ = kd σ)
      have hLs20 : Lay s20 := hL.fr hFs20
      refine x_aload_n (i := 0) (dxX1_work_1 8 rfl) rfl rfl ?_
      refine gf_1_35 (kd_133 hLs20) (rv_133_8 hLs20) (dxX1_work_1 9 rfl) ?_
      refine x_iload_n (i := 1) (dxX1_work_1 10 rfl) rfl rfl ?_
      refine x_aload_n (i := 0) (dxX1_work_1 11 rfl) rfl rfl ?_
      refine x_iload_n (i := 1) (dxX1_work_1 12 rfl) rfl rfl ?_
      refine cl_1_76 (kd_133 hLs20) (Nat.le_of_ble_eq_true rfl) (dxX1_work_1 13 rfl) h (fun v23 s22 h => ?_) (Nat.le_refl _) (Nat.le_refl _)
      obtain ⟨hFs22, h⟩ := h
      have hKs22 : kd s22 = kd σ := hFs22.1.trans hKs20
      have hLs22 : Lay s22 := hLs20.fr hFs22
      obtain ⟨hi24, h⟩ := h
      refine x_iast (kd_143 hLs22) hi24 (dxX1_work_1 14 rfl) ?_
      refine x_sto (fun s25 e26 => ?_)
      replace h := h s25 e26
      have hKs25 : kd s25 = kd σ := by rw [e26]; exact hKs22
      have hLs25 : Lay s25 := by rw [e26]; exact hLs22.si
      refine x_aload_n (i := 0) (dxX1_work_1 15 rfl) rfl rfl ?_
      refine x_dup (dxX1_work_1 16 rfl) rfl ?_
      refine gf_1_73 (kd_133 hLs25) rfl (dxX1_work_1 17 rfl) ?_
      refine x_aload_n (i := 0) (dxX1_work_1 18 rfl) rfl rfl ?_
      refine gf_1_35 (kd_133 hLs25) (rv_133_8 hLs25) (dxX1_work_1 19 rfl) ?_
      refine x_iload_n (i := 1) (dxX1_work_1 20 rfl) rfl rfl ?_
      obtain ⟨hi27, h⟩ := h
      refine x_iald (kd_143 hLs25) hi27 (dxX1_work_1 21 rfl) ?_
      refine x_iload_n (i := 1) (dxX1_work_1 22 rfl) rfl rfl ?_
      refine x_icmp_ne (tgt := 112) (dxX1_work_1 23 rfl) (by decide) (fun hc => ?_) (fun hc => ?_)
      · replace h := h.1 hc
        refine x_iconst (v := 0) (dxX1_work_1 26 rfl) rfl ?_
        refine x_iadd (dxX1_work_1 27 rfl) ?_
        refine pf_1_73 (kd_133 hLs25) (dxX1_work_1 28 rfl) ?_
        refine x_sto (fun s28 e29 => ?_)
        replace h := h s28 e29
        have hKs28 : kd s28 = kd σ := by rw [e29]; exact hKs25
        have hLs28 : Lay s28 := by rw [e29]; exact hLs25.si
        obtain ⟨x30, e31⟩ : ∃ y : Int32, y = l1 + 1 := ⟨_, rfl⟩
        replace h := h x30 e31
        refine x_iinc (v := x30) (dxX1_work_1 29 rfl) (i := 1) rfl (by rw [e31]; rfl) (Nat.le_of_ble_eq_true rfl) rfl rfl ?_
        refine x_goto (tgt := 58) (dxX1_work_1 30 rfl) (by decide) ?_
        exact h
      · replace h := h.2 hc
        refine x_iconst (v := 1) (dxX1_work_1 24 rfl) rfl ?_
        refine x_goto (tgt := 113) (dxX1_work_1 25 rfl) (by decide) ?_
        refine x_iadd (dxX1_work_1 27 rfl) ?_
        refine pf_1_73 (kd_133 hLs25) (dxX1_work_1 28 rfl) ?_
        refine x_sto (fun s32 e33 => ?_)
        replace h := h s32 e33
        have hKs32 : kd s32 = kd σ := by rw [e33]; exact hKs25
        have hLs32 : Lay s32 := by rw [e33]; exact hLs25.si
        obtain ⟨x34, e35⟩ : ∃ y : Int32, y = l1 + 1 := ⟨_, rfl⟩
        replace h := h x34 e35
        refine x_iinc (v := x34) (dxX1_work_1 29 rfl) (i := 1) rfl (by rw [e35]; rfl) (Nat.le_of_ble_eq_true rfl) rfl rfl ?_
        refine x_goto (tgt := 58) (dxX1_work_1 30 rfl) (by decide) ?_
        exact h
theorem vcX1_leastAlike {g : GV} {d : Nat} {P : Int32 → PS → Prop} {σ : PS} (hL : Lay σ) (p0 : Int32) (h : (p0 < 0 → P (-1) σ) ∧ (¬ p0 < 0 → (300 ≤ p0 → P (-1) σ) ∧ (¬ 300 ≤ p0 → vp_in p0 300 ∧ P (mi σ 143 (Int32.toNatClampNeg p0)) σ))) : CX1_leastAlike g d [.ref 133, .int p0] σ P := by
  refine x_entry (L := [some (.ref 133), some (.int p0)]) pn_1 (Nat.le_of_ble_eq_true rfl) ⟨0, rfl⟩ ?_
  show VX1_leastAlike g d P 0 [some (.ref 133), some (.int p0)] [] σ
  refine x_iload_n (i := 1) (dxX1_leastAlike_0 0 rfl) rfl rfl ?_
  refine x_if_lt (tgt := 20) (dxX1_leastAlike_0 1 rfl) (by decide) (fun hc => ?_) (fun hc => ?_)
  · replace h := h.1 hc
    refine x_iconst (v := (-1)) (dxX1_leastAlike_0 10 rfl) rfl ?_
    exact x_iret (ty := .int) rfl rfl (dxX1_leastAlike_0 11 rfl) ⟨_, rfl, h⟩
  · replace h := h.2 hc
    refine x_iload_n (i := 1) (dxX1_leastAlike_0 2 rfl) rfl rfl ?_
    refine x_sipush (v := 300) (dxX1_leastAlike_0 3 rfl) rfl ?_
    refine x_icmp_ge (tgt := 20) (dxX1_leastAlike_0 4 rfl) (by decide) (fun hc => ?_) (fun hc => ?_)
    · replace h := h.1 hc
      refine x_iconst (v := (-1)) (dxX1_leastAlike_0 10 rfl) rfl ?_
      exact x_iret (ty := .int) rfl rfl (dxX1_leastAlike_0 11 rfl) ⟨_, rfl, h⟩
    · replace h := h.2 hc
      refine x_aload_n (i := 0) (dxX1_leastAlike_0 5 rfl) rfl rfl ?_
      refine gf_1_35 (kd_133 hL) (rv_133_8 hL) (dxX1_leastAlike_0 6 rfl) ?_
      refine x_iload_n (i := 1) (dxX1_leastAlike_0 7 rfl) rfl rfl ?_
      obtain ⟨hi1, h⟩ := h
      refine x_iald (kd_143 hL) hi1 (dxX1_leastAlike_0 8 rfl) ?_
      refine x_goto (tgt := 21) (dxX1_leastAlike_0 9 rfl) (by decide) ?_
      exact x_iret (ty := .int) rfl rfl (dxX1_leastAlike_0 11 rfl) ⟨_, rfl, h⟩
theorem vcX1_firstEqual {g : GV} {d : Nat} {P : Int32 → PS → Prop} {σ : PS} (hL : Lay σ) (p0 : Int32) (h : VX1_firstEqual g (d + 1) P 2 [some (.ref 133), some (.int p0), some (.int 0)] [] σ) : CX1_firstEqual g (d + 1) [.ref 133, .int p0] σ P := by
  refine x_entry (L := [some (.ref 133), some (.int p0), none]) pn_1 (Nat.le_of_ble_eq_true rfl) ⟨1, rfl⟩ ?_
  show VX1_firstEqual g (d + 1) P 0 [some (.ref 133), some (.int p0), none] [] σ
  refine x_iconst (v := 0) (dxX1_firstEqual_0 0 rfl) rfl ?_
  refine x_istore_n (i := 2) (dxX1_firstEqual_0 1 rfl) rfl (Nat.le_of_ble_eq_true rfl) rfl rfl ?_
  exact h
theorem vcX1_firstEqual_2 {g : GV} {d : Nat} {P : Int32 → PS → Prop} {σ : PS} (hL : Lay σ) (l1 : Int32) (l2 : Int32) (h : (l1 ≤ l2 → P l2 σ) ∧ (¬ l1 ≤ l2 → CX1_equal g d [.ref 133, .int l2, .int l1] σ (fun (v2 : Int32) (s1 : PS) => Fr σ s1 ∧ (¬ v2 = 0 → P l2 s1) ∧ (v2 = 0 → ∀ x3 : Int32, x3 = l2 + 1 → VX1_firstEqual g (d + 1) P 2 [some (.ref 133), some (.int l1), some (.int x3)] [] s1)))) : VX1_firstEqual g (d + 1) P 2 [some (.ref 133), some (.int l1), some (.int l2)] [] σ := by
  refine x_iload_n (i := 2) (dxX1_firstEqual_0 2 rfl) rfl rfl ?_
  refine x_iload_n (i := 1) (dxX1_firstEqual_0 3 rfl) rfl rfl ?_
  refine x_icmp_ge (tgt := 22) (dxX1_firstEqual_0 4 rfl) (by decide) (fun hc => ?_) (fun hc => ?_)
  · replace h := h.1 hc
    refine x_iload_n (i := 2) (dxX1_firstEqual_0 12 rfl) rfl rfl ?_
    exact x_iret (ty := .int) rfl rfl (dxX1_firstEqual_0 13 rfl) ⟨_, rfl, h⟩
  · replace h := h.2 hc
    refine x_aload_n (i := 0) (dxX1_firstEqual_0 5 rfl) rfl rfl ?_
    refine x_iload_n (i := 2) (dxX1_firstEqual_0 6 rfl) rfl rfl ?_
    refine x_iload_n (i := 1) (dxX1_firstEqual_0 7 rfl) rfl rfl ?_
    refine cl_1_50 (kd_133 hL) (Nat.le_of_ble_eq_true rfl) (dxX1_firstEqual_0 8 rfl) h (fun v2 s1 h => ?_) (Nat.le_refl _) (Nat.le_refl _)
    obtain ⟨hFs1, h⟩ := h
    have hKs1 : kd s1 = kd σ := hFs1.1.trans (rfl : kd σ = kd σ)
    have hLs1 : Lay s1 := hL.fr hFs1
    refine x_if_ne (tgt := 22) (dxX1_firstEqual_0 9 rfl) (by decide) (fun hc => ?_) (fun hc => ?_)
    · replace h := h.1 hc
      refine x_iload_n (i := 2) (dxX1_firstEqual_0 12 rfl) rfl rfl ?_
      exact x_iret (ty := .int) rfl rfl (dxX1_firstEqual_0 13 rfl) ⟨_, rfl, h⟩
    · replace h := h.2 hc
      obtain ⟨x3, e4⟩ : ∃ y : Int32, y = l2 + 1 := ⟨_, rfl⟩
      replace h := h x3 e4
      refine x_iinc (v := x3) (dxX1_firstEqual_0 10 rfl) (i := 2) rfl (by rw [e4]; rfl) (Nat.le_of_ble_eq_true rfl) rfl rfl ?_
      refine x_goto (tgt := 2) (dxX1_firstEqual_0 11 rfl) (by decide) ?_
      exact h
theorem vcX1_equal {g : GV} {d : Nat} {P : Int32 → PS → Prop} {σ : PS} (hL : Lay σ) (p0 : Int32) (p1 : Int32) (h : VX1_equal g d P 2 [some (.ref 133), some (.int p0), some (.int p1), some (.int 0)] [] σ) : CX1_equal g d [.ref 133, .int p0, .int p1] σ P := by
  refine x_entry (L := [some (.ref 133), some (.int p0), some (.int p1), none]) pn_1 (Nat.le_of_ble_eq_true rfl) ⟨1, rfl⟩ ?_
  show VX1_equal g d P 0 [some (.ref 133), some (.int p0), some (.int p1), none] [] σ
  refine x_iconst (v := 0) (dxX1_equal_0 0 rfl) rfl ?_
  refine x_istore_n (i := 3) (dxX1_equal_0 1 rfl) rfl (Nat.le_of_ble_eq_true rfl) rfl rfl ?_
  exact h
theorem vcX1_equal_2 {g : GV} {d : Nat} {P : Int32 → PS → Prop} {σ : PS} (hL : Lay σ) (l1 : Int32) (l2 : Int32) (l3 : Int32) (h : (4 ≤ l3 → P 1 σ) ∧ (¬ 4 ≤ l3 → vp_in ((l1 * 4) + l3) 1208 ∧ vp_in ((l2 * 4) + l3) 1208 ∧ ((lg_cmp (ml σ 142 (Int32.toNatClampNeg ((l1 * 4) + l3))) (ml σ 142 (Int32.toNatClampNeg ((l2 * 4) + l3)))) = 0 → ∀ x3 : Int32, x3 = l3 + 1 → VX1_equal g d P 2 [some (.ref 133), some (.int l1), some (.int l2), some (.int x3)] [] σ) ∧ (¬ (lg_cmp (ml σ 142 (Int32.toNatClampNeg ((l1 * 4) + l3))) (ml σ 142 (Int32.toNatClampNeg ((l2 * 4) + l3)))) = 0 → P 0 σ))) : VX1_equal g d P 2 [some (.ref 133), some (.int l1), some (.int l2), some (.int l3)] [] σ := by
  refine x_iload_n (i := 3) (dxX1_equal_0 2 rfl) rfl rfl ?_
  refine x_iconst (v := 4) (dxX1_equal_0 3 rfl) rfl ?_
  refine x_icmp_ge (tgt := 39) (dxX1_equal_0 4 rfl) (by decide) (fun hc => ?_) (fun hc => ?_)
  · replace h := h.1 hc
    refine x_iconst (v := 1) (dxX1_equal_0 27 rfl) rfl ?_
    exact x_iret (ty := .boolean) rfl rfl (dxX1_equal_0 28 rfl) ⟨_, rfl, h⟩
  · replace h := h.2 hc
    refine x_aload_n (i := 0) (dxX1_equal_0 5 rfl) rfl rfl ?_
    refine gf_1_31 (kd_133 hL) (rv_133_7 hL) (dxX1_equal_0 6 rfl) ?_
    refine x_iload_n (i := 1) (dxX1_equal_0 7 rfl) rfl rfl ?_
    refine x_iconst (v := 4) (dxX1_equal_0 8 rfl) rfl ?_
    refine x_imul (dxX1_equal_0 9 rfl) ?_
    refine x_iload_n (i := 3) (dxX1_equal_0 10 rfl) rfl rfl ?_
    refine x_iadd (dxX1_equal_0 11 rfl) ?_
    obtain ⟨hi1, h⟩ := h
    refine x_lald (kd_142 hL) hi1 (dxX1_equal_0 12 rfl) ?_
    refine x_aload_n (i := 0) (dxX1_equal_0 13 rfl) rfl rfl ?_
    refine gf_1_31 (kd_133 hL) (rv_133_7 hL) (dxX1_equal_0 14 rfl) ?_
    refine x_iload_n (i := 2) (dxX1_equal_0 15 rfl) rfl rfl ?_
    refine x_iconst (v := 4) (dxX1_equal_0 16 rfl) rfl ?_
    refine x_imul (dxX1_equal_0 17 rfl) ?_
    refine x_iload_n (i := 3) (dxX1_equal_0 18 rfl) rfl rfl ?_
    refine x_iadd (dxX1_equal_0 19 rfl) ?_
    obtain ⟨hi2, h⟩ := h
    refine x_lald (kd_142 hL) hi2 (dxX1_equal_0 20 rfl) ?_
    refine x_lcmp (dxX1_equal_0 21 rfl) ?_
    refine x_if_eq (tgt := 33) (dxX1_equal_0 22 rfl) (by decide) (fun hc => ?_) (fun hc => ?_)
    · replace h := h.1 hc
      obtain ⟨x3, e4⟩ : ∃ y : Int32, y = l3 + 1 := ⟨_, rfl⟩
      replace h := h x3 e4
      refine x_iinc (v := x3) (dxX1_equal_0 25 rfl) (i := 3) rfl (by rw [e4]; rfl) (Nat.le_of_ble_eq_true rfl) rfl rfl ?_
      refine x_goto (tgt := 2) (dxX1_equal_0 26 rfl) (by decide) ?_
      exact h
    · replace h := h.2 hc
      refine x_iconst (v := 0) (dxX1_equal_0 23 rfl) rfl ?_
      exact x_iret (ty := .boolean) rfl rfl (dxX1_equal_0 24 rfl) ⟨_, rfl, h⟩
theorem vcX1_describe {g : GV} {d : Nat} {P : PS → Prop} {σ : PS} (hL : Lay σ) (p0 : Int32) (p1 : Int32) (h : CX5_tell g d [.ref 87, .int p0] σ (fun (s1 : PS) => Fr σ s1 ∧ CX2_fold g d [.ref 134, .ref 20, .ref 92] s1 (fun (s3 : PS) => Fr s1 s3 ∧ CJ7_fill_53178 g d [.ref 141, .int 40] s3 (fun (s5 : PS) => Fr s3 s5 ∧ VX1_describe g (d + 1) P 37 [some (.ref 133), none, some (.int p1), some (.int 0), none, none, none] [] s5)))) : CX1_describe g (d + 1) [.ref 133, .int p0, .int p1] σ P := by
  refine x_entry (L := [some (.ref 133), some (.int p0), some (.int p1), none, none, none, none]) pn_1 (Nat.le_of_ble_eq_true rfl) ⟨4, rfl⟩ ?_
  show VX1_describe g (d + 1) P 0 [some (.ref 133), some (.int p0), some (.int p1), none, none, none, none] [] σ
  refine x_aload_n (i := 0) (dxX1_describe_0 0 rfl) rfl rfl ?_
  refine gf_1_42 (kd_133 hL) (rv_133_1 hL) (dxX1_describe_0 1 rfl) ?_
  refine x_iload_n (i := 1) (dxX1_describe_0 2 rfl) rfl rfl ?_
  refine cl_1_80 (kd_87 hL) (Nat.le_of_ble_eq_true rfl) (dxX1_describe_0 3 rfl) h (fun s1 h => ?_) (Nat.le_refl _) (Nat.le_refl _)
  obtain ⟨hFs1, h⟩ := h
  have hKs1 : kd s1 = kd σ := hFs1.1.trans (rfl : kd σ = kd σ)
  have hLs1 : Lay s1 := hL.fr hFs1
  refine x_aload_n (i := 0) (dxX1_describe_0 4 rfl) rfl rfl ?_
  refine gf_1_12 (kd_133 hLs1) (rv_133_2 hLs1) (dxX1_describe_0 5 rfl) ?_
  refine x_aload_n (i := 0) (dxX1_describe_0 6 rfl) rfl rfl ?_
  refine gf_1_38 (kd_133 hLs1) (rv_133_0 hLs1) (dxX1_describe_0 7 rfl) ?_
  refine x_aload_n (i := 0) (dxX1_describe_0 8 rfl) rfl rfl ?_
  refine gf_1_42 (kd_133 hLs1) (rv_133_1 hLs1) (dxX1_describe_0 9 rfl) ?_
  refine gf_1_84 (kd_87 hLs1) (rv_87_8 hLs1) (dxX1_describe_0 10 rfl) ?_
  refine cl_1_87 (kd_134 hLs1) (Nat.le_of_ble_eq_true rfl) (dxX1_describe_0 11 rfl) h (fun s3 h => ?_) (Nat.le_refl _) (Nat.le_refl _)
  obtain ⟨hFs3, h⟩ := h
  have hKs3 : kd s3 = kd σ := hFs3.1.trans hKs1
  have hLs3 : Lay s3 := hLs1.fr hFs3
  refine x_aload_n (i := 0) (dxX1_describe_0 12 rfl) rfl rfl ?_
  refine gf_1_28 (kd_133 hLs3) (rv_133_6 hLs3) (dxX1_describe_0 13 rfl) ?_
  refine x_bipush (v := 40) (dxX1_describe_0 14 rfl) rfl ?_
  refine cl_1_91 (Nat.le_of_ble_eq_true rfl) (dxX1_describe_0 15 rfl) h (fun s5 h => ?_) (Nat.le_refl _) (Nat.le_refl _)
  obtain ⟨hFs5, h⟩ := h
  have hKs5 : kd s5 = kd σ := hFs5.1.trans hKs3
  have hLs5 : Lay s5 := hLs3.fr hFs5
  refine x_iconst (v := 0) (dxX1_describe_0 16 rfl) rfl ?_
  refine x_istore_n (i := 3) (dxX1_describe_0 17 rfl) rfl (Nat.le_of_ble_eq_true rfl) rfl rfl ?_
  refine x_mask [true, false, true, true, false, false, false] (L1 := [some (.ref 133), none, some (.int p1), some (.int 0), none, none, none]) rfl ?_
  exact h
theorem vcX1_describe_37 {g : GV} {d : Nat} {P : PS → Prop} {σ : PS} (hL : Lay σ) (l2 : Int32) (l3 : Int32) (h : (((mi σ 134 0) * 4) ≤ l3 → VX1_describe g (d + 1) P 80 [some (.ref 133), none, some (.int l2), some (.int 0), none, none, none] [] σ) ∧ (¬ ((mi σ 134 0) * 4) ≤ l3 → CX1_describeFrom g d [.ref 133, .int (l3 / 4), .int (jrem l3 4), .int 1] σ (fun (s7 : PS) => Fr σ s7 ∧ CX1_describeFrom g d [.ref 133, .int (l3 / 4), .int (jrem l3 4), .int 3] s7 (fun (s9 : PS) => Fr s7 s9 ∧ ∀ x11 : Int32, x11 = l3 + 1 → VX1_describe g (d + 1) P 37 [some (.ref 133), none, some (.int l2), some (.int x11), none, none, none] [] s9)))) : VX1_describe g (d + 1) P 37 [some (.ref 133), none, some (.int l2), some (.int l3), none, none, none] [] σ := by
  refine x_iload_n (i := 3) (dxX1_describe_0 18 rfl) rfl rfl ?_
  refine x_aload_n (i := 0) (dxX1_describe_0 19 rfl) rfl rfl ?_
  refine gf_1_12 (kd_133 hL) (rv_133_2 hL) (dxX1_describe_0 20 rfl) ?_
  refine gf_1_97 (kd_134 hL) rfl (dxX1_describe_0 21 rfl) ?_
  refine x_iconst (v := 4) (dxX1_describe_0 22 rfl) rfl ?_
  refine x_imul (dxX1_describe_0 23 rfl) ?_
  refine x_icmp_ge (tgt := 78) (dxX1_describe_0 24 rfl) (by decide) (fun hc => ?_) (fun hc => ?_)
  · replace h := h.1 hc
    refine x_iconst (v := 0) (dxX1_describe_1 13 rfl) rfl ?_
    refine x_istore_n (i := 3) (dxX1_describe_1 14 rfl) rfl (Nat.le_of_ble_eq_true rfl) rfl rfl ?_
    exact h
  · replace h := h.2 hc
    refine x_aload_n (i := 0) (dxX1_describe_0 25 rfl) rfl rfl ?_
    refine x_iload_n (i := 3) (dxX1_describe_0 26 rfl) rfl rfl ?_
    refine x_iconst (v := 4) (dxX1_describe_0 27 rfl) rfl ?_
    refine x_idiv (dxX1_describe_0 28 rfl) (by decide) ?_
    refine x_iload_n (i := 3) (dxX1_describe_0 29 rfl) rfl rfl ?_
    refine x_iconst (v := 4) (dxX1_describe_0 30 rfl) rfl ?_
    refine x_irem (dxX1_describe_0 31 rfl) (by decide) ?_
    refine x_iconst (v := 1) (dxX1_describe_1 0 rfl) rfl ?_
    refine cl_1_100 (kd_133 hL) (Nat.le_of_ble_eq_true rfl) (dxX1_describe_1 1 rfl) h (fun s7 h => ?_) (Nat.le_refl _) (Nat.le_refl _)
    obtain ⟨hFs7, h⟩ := h
    have hKs7 : kd s7 = kd σ := hFs7.1.trans (rfl : kd σ = kd σ)
    have hLs7 : Lay s7 := hL.fr hFs7
    refine x_aload_n (i := 0) (dxX1_describe_1 2 rfl) rfl rfl ?_
    refine x_iload_n (i := 3) (dxX1_describe_1 3 rfl) rfl rfl ?_
    refine x_iconst (v := 4) (dxX1_describe_1 4 rfl) rfl ?_
    refine x_idiv (dxX1_describe_1 5 rfl) (by decide) ?_
    refine x_iload_n (i := 3) (dxX1_describe_1 6 rfl) rfl rfl ?_
    refine x_iconst (v := 4) (dxX1_describe_1 7 rfl) rfl ?_
    refine x_irem (dxX1_describe_1 8 rfl) (by decide) ?_
    refine x_iconst (v := 3) (dxX1_describe_1 9 rfl) rfl ?_
    refine cl_1_100 (kd_133 hLs7) (Nat.le_of_ble_eq_true rfl) (dxX1_describe_1 10 rfl) h (fun s9 h => ?_) (Nat.le_refl _) (Nat.le_refl _)
    obtain ⟨hFs9, h⟩ := h
    have hKs9 : kd s9 = kd σ := hFs9.1.trans hKs7
    have hLs9 : Lay s9 := hLs7.fr hFs9
    obtain ⟨x11, e12⟩ : ∃ y : Int32, y = l3 + 1 := ⟨_, rfl⟩
    replace h := h x11 e12
    refine x_iinc (v := x11) (dxX1_describe_1 11 rfl) (i := 3) rfl (by rw [e12]; rfl) (Nat.le_of_ble_eq_true rfl) rfl rfl ?_
    refine x_goto (tgt := 37) (dxX1_describe_1 12 rfl) (by decide) ?_
    exact h
theorem vcX1_describe_80 {g : GV} {d : Nat} {P : PS → Prop} {σ : PS} (hL : Lay σ) (l2 : Int32) (l3 : Int32) (h : (4 ≤ l3 → P σ) ∧ (¬ 4 ≤ l3 → VX1_describe g (d + 1) P 91 [some (.ref 133), none, some (.int l2), some (.int l3), some (.long 0), none, some (.int 0)] [] σ)) : VX1_describe g (d + 1) P 80 [some (.ref 133), none, some (.int l2), some (.int l3), none, none, none] [] σ := by
  refine x_iload_n (i := 3) (dxX1_describe_1 15 rfl) rfl rfl ?_
  refine x_iconst (v := 4) (dxX1_describe_1 16 rfl) rfl ?_
  refine x_icmp_ge (tgt := 144) (dxX1_describe_1 17 rfl) (by decide) (fun hc => ?_) (fun hc => ?_)
  · replace h := h.1 hc
    exact x_vret rfl (dxX1_describe_2 20 rfl) ⟨rfl, h⟩
  · replace h := h.2 hc
    refine x_lconst (v := 0) (dxX1_describe_1 18 rfl) rfl ?_
    refine x_lstore (dxX1_describe_1 19 rfl) (Nat.le_of_ble_eq_true rfl) rfl rfl ?_
    refine x_iconst (v := 0) (dxX1_describe_1 20 rfl) rfl ?_
    refine x_istore (dxX1_describe_1 21 rfl) (Nat.le_of_ble_eq_true rfl) rfl rfl ?_
    exact h
theorem vcX1_describe_91 {g : GV} {d : Nat} {P : PS → Prop} {σ : PS} (hL : Lay σ) (l2 : Int32) (l3 : Int32) (l4 : Int64) (l6 : Int32) (h : (10 ≤ l6 → vp_in ((l2 * 4) + l3) 1208 ∧ ∀ s14 : PS, s14 = sj σ 142 (Int32.toNatClampNeg ((l2 * 4) + l3)) l4 → ∀ x16 : Int32, x16 = l3 + 1 → VX1_describe g (d + 1) P 80 [some (.ref 133), none, some (.int l2), some (.int x16), none, none, none] [] s14) ∧ (¬ 10 ≤ l6 → vp_in ((l3 * 10) + l6) 40 ∧ ∀ x19 : Int64, x19 = (l4 * 64) + (Int32.toInt64 (mi σ 141 (Int32.toNatClampNeg ((l3 * 10) + l6)))) → ∀ x21 : Int32, x21 = l6 + 1 → VX1_describe g (d + 1) P 91 [some (.ref 133), none, some (.int l2), some (.int l3), some (.long x19), none, some (.int x21)] [] σ)) : VX1_describe g (d + 1) P 91 [some (.ref 133), none, some (.int l2), some (.int l3), some (.long l4), none, some (.int l6)] [] σ := by
  refine x_iload (dxX1_describe_1 22 rfl) rfl ?_
  refine x_bipush (v := 10) (dxX1_describe_1 23 rfl) rfl ?_
  refine x_icmp_ge (tgt := 126) (dxX1_describe_1 24 rfl) (by decide) (fun hc => ?_) (fun hc => ?_)
  · replace h := h.1 hc
    refine x_aload_n (i := 0) (dxX1_describe_2 9 rfl) rfl rfl ?_
    refine gf_1_31 (kd_133 hL) (rv_133_7 hL) (dxX1_describe_2 10 rfl) ?_
    refine x_iload_n (i := 2) (dxX1_describe_2 11 rfl) rfl rfl ?_
    refine x_iconst (v := 4) (dxX1_describe_2 12 rfl) rfl ?_
    refine x_imul (dxX1_describe_2 13 rfl) ?_
    refine x_iload_n (i := 3) (dxX1_describe_2 14 rfl) rfl rfl ?_
    refine x_iadd (dxX1_describe_2 15 rfl) ?_
    refine x_lload (dxX1_describe_2 16 rfl) rfl ?_
    obtain ⟨hi13, h⟩ := h
    refine x_last (kd_142 hL) hi13 (dxX1_describe_2 17 rfl) ?_
    refine x_sto (fun s14 e15 => ?_)
    replace h := h s14 e15
    have hKs14 : kd s14 = kd σ := by rw [e15]; exact (rfl : kd σ = kd σ)
    have hLs14 : Lay s14 := by rw [e15]; exact hL.sj
    obtain ⟨x16, e17⟩ : ∃ y : Int32, y = l3 + 1 := ⟨_, rfl⟩
    replace h := h x16 e17
    refine x_iinc (v := x16) (dxX1_describe_2 18 rfl) (i := 3) rfl (by rw [e17]; rfl) (Nat.le_of_ble_eq_true rfl) rfl rfl ?_
    refine x_goto (tgt := 80) (dxX1_describe_2 19 rfl) (by decide) ?_
    refine x_mask [true, false, true, true, false, false, false] (L1 := [some (.ref 133), none, some (.int l2), some (.int x16), none, none, none]) rfl ?_
    exact h
  · replace h := h.2 hc
    refine x_lload (dxX1_describe_1 25 rfl) rfl ?_
    refine x_ldc2 (dxX1_describe_1 26 rfl) gw_980 ?_
    refine x_lmul (dxX1_describe_1 27 rfl) ?_
    refine x_aload_n (i := 0) (dxX1_describe_1 28 rfl) rfl rfl ?_
    refine gf_1_28 (kd_133 hL) (rv_133_6 hL) (dxX1_describe_1 29 rfl) ?_
    refine x_iload_n (i := 3) (dxX1_describe_1 30 rfl) rfl rfl ?_
    refine x_bipush (v := 10) (dxX1_describe_1 31 rfl) rfl ?_
    refine x_imul (dxX1_describe_2 0 rfl) ?_
    refine x_iload (dxX1_describe_2 1 rfl) rfl ?_
    refine x_iadd (dxX1_describe_2 2 rfl) ?_
    obtain ⟨hi18, h⟩ := h
    refine x_iald (kd_141 hL) hi18 (dxX1_describe_2 3 rfl) ?_
    refine x_i2l (dxX1_describe_2 4 rfl) ?_
    refine x_ladd (dxX1_describe_2 5 rfl) ?_
    refine x_topl (fun x19 e20 => ?_)
    replace h := h x19 e20
    refine x_lstore (dxX1_describe_2 6 rfl) (Nat.le_of_ble_eq_true rfl) rfl rfl ?_
    obtain ⟨x21, e22⟩ : ∃ y : Int32, y = l6 + 1 := ⟨_, rfl⟩
    replace h := h x21 e22
    refine x_iinc (v := x21) (dxX1_describe_2 7 rfl) (i := 6) rfl (by rw [e22]; rfl) (Nat.le_of_ble_eq_true rfl) rfl rfl ?_
    refine x_goto (tgt := 91) (dxX1_describe_2 8 rfl) (by decide) ?_
    exact h
theorem vcX1_describeFrom {g : GV} {d : Nat} {P : PS → Prop} {σ : PS} (hL : Lay σ) (p0 : Int32) (p1 : Int32) (p2 : Int32) (h : CJ7_fill_53178 g d [.ref 138, .int (-1)] σ (fun (s1 : PS) => Fr σ s1 ∧ vp_in p0 10 ∧ ∀ s4 : PS, s4 = si s1 138 (Int32.toNatClampNeg p0) 0 → vp_in p0 10 ∧ ∀ s7 : PS, s7 = si s4 139 (Int32.toNatClampNeg p0) p1 → ∀ s9 : PS, s9 = si s7 140 (Int32.toNatClampNeg 0) p0 → VX1_describeFrom g (d + 1) P 38 [some (.ref 133), none, none, some (.int p2), some (.int 1), some (.int 0), some (.int 0), none, none, none, none, none] [] s9)) : CX1_describeFrom g (d + 1) [.ref 133, .int p0, .int p1, .int p2] σ P := by
  refine x_entry (L := [some (.ref 133), some (.int p0), some (.int p1), some (.int p2), none, none, none, none, none, none, none, none]) pn_1 (Nat.le_of_ble_eq_true rfl) ⟨8, rfl⟩ ?_
  show VX1_describeFrom g (d + 1) P 0 [some (.ref 133), some (.int p0), some (.int p1), some (.int p2), none, none, none, none, none, none, none, none] [] σ
  refine x_aload_n (i := 0) (dxX1_describeFrom_0 0 rfl) rfl rfl ?_
  refine gf_1_18 (kd_133 hL) (rv_133_3 hL) (dxX1_describeFrom_0 1 rfl) ?_
  refine x_iconst (v := (-1)) (dxX1_describeFrom_0 2 rfl) rfl ?_
  refine cl_1_91 (Nat.le_of_ble_eq_true rfl) (dxX1_describeFrom_0 3 rfl) h (fun s1 h => ?_) (Nat.le_refl _) (Nat.le_refl _)
  obtain ⟨hFs1, h⟩ := h
  have hKs1 : kd s1 = kd σ := hFs1.1.trans (rfl : kd σ = kd σ)
  have hLs1 : Lay s1 := hL.fr hFs1
  refine x_aload_n (i := 0) (dxX1_describeFrom_0 4 rfl) rfl rfl ?_
  refine gf_1_18 (kd_133 hLs1) (rv_133_3 hLs1) (dxX1_describeFrom_0 5 rfl) ?_
  refine x_iload_n (i := 1) (dxX1_describeFrom_0 6 rfl) rfl rfl ?_
  refine x_iconst (v := 0) (dxX1_describeFrom_0 7 rfl) rfl ?_
  obtain ⟨hi3, h⟩ := h
  refine x_iast (kd_138 hLs1) hi3 (dxX1_describeFrom_0 8 rfl) ?_
  refine x_sto (fun s4 e5 => ?_)
  replace h := h s4 e5
  have hKs4 : kd s4 = kd σ := by rw [e5]; exact hKs1
  have hLs4 : Lay s4 := by rw [e5]; exact hLs1.si
  refine x_aload_n (i := 0) (dxX1_describeFrom_0 9 rfl) rfl rfl ?_
  refine gf_1_22 (kd_133 hLs4) (rv_133_4 hLs4) (dxX1_describeFrom_0 10 rfl) ?_
  refine x_iload_n (i := 1) (dxX1_describeFrom_0 11 rfl) rfl rfl ?_
  refine x_iload_n (i := 2) (dxX1_describeFrom_0 12 rfl) rfl rfl ?_
  obtain ⟨hi6, h⟩ := h
  refine x_iast (kd_139 hLs4) hi6 (dxX1_describeFrom_0 13 rfl) ?_
  refine x_sto (fun s7 e8 => ?_)
  replace h := h s7 e8
  have hKs7 : kd s7 = kd σ := by rw [e8]; exact hKs4
  have hLs7 : Lay s7 := by rw [e8]; exact hLs4.si
  refine x_aload_n (i := 0) (dxX1_describeFrom_0 14 rfl) rfl rfl ?_
  refine gf_1_25 (kd_133 hLs7) (rv_133_5 hLs7) (dxX1_describeFrom_0 15 rfl) ?_
  refine x_iconst (v := 0) (dxX1_describeFrom_0 16 rfl) rfl ?_
  refine x_iload_n (i := 1) (dxX1_describeFrom_0 17 rfl) rfl rfl ?_
  refine x_iast (kd_140 hLs7) (vpl 10 0 rfl) (dxX1_describeFrom_0 18 rfl) ?_
  refine x_sto (fun s9 e10 => ?_)
  replace h := h s9 e10
  have hKs9 : kd s9 = kd σ := by rw [e10]; exact hKs7
  have hLs9 : Lay s9 := by rw [e10]; exact hLs7.si
  refine x_iconst (v := 1) (dxX1_describeFrom_0 19 rfl) rfl ?_
  refine x_istore (dxX1_describeFrom_0 20 rfl) (Nat.le_of_ble_eq_true rfl) rfl rfl ?_
  refine x_iconst (v := 0) (dxX1_describeFrom_0 21 rfl) rfl ?_
  refine x_istore (dxX1_describeFrom_0 22 rfl) (Nat.le_of_ble_eq_true rfl) rfl rfl ?_
  refine x_iconst (v := 0) (dxX1_describeFrom_0 23 rfl) rfl ?_
  refine x_istore (dxX1_describeFrom_0 24 rfl) (Nat.le_of_ble_eq_true rfl) rfl rfl ?_
  refine x_mask [true, false, false, true, true, true, true, false, false, false, false, false] (L1 := [some (.ref 133), none, none, some (.int p2), some (.int 1), some (.int 0), some (.int 0), none, none, none, none, none]) rfl ?_
  exact h
theorem vcX1_describeFrom_38 {g : GV} {d : Nat} {P : PS → Prop} {σ : PS} (hL : Lay σ) (l3 : Int32) (l4 : Int32) (l5 : Int32) (l6 : Int32) (h : (((mi σ 134 0) * 4) ≤ l6 → P σ) ∧ (¬ ((mi σ 134 0) * 4) ≤ l6 → (l4 ≤ (l6 / 4) → P σ) ∧ (¬ l4 ≤ (l6 / 4) → vp_in (l6 / 4) 10 ∧ ∀ x12 : Int32, x12 = mi σ 140 (Int32.toNatClampNeg (l6 / 4)) → vp_in x12 10 ∧ ∀ x15 : Int32, x15 = (x12 * 4) + (jrem ((mi σ 139 (Int32.toNatClampNeg x12)) + (l3 * (jrem l6 4))) 4) → vp_in x15 40 ∧ ∀ x18 : Int32, x18 = mi σ 135 (Int32.toNatClampNeg x15) → vp_in x15 40 ∧ ∀ x21 : Int32, x21 = mi σ 136 (Int32.toNatClampNeg x15) → vp_in x18 10 ∧ (¬ (mi σ 138 (Int32.toNatClampNeg x18)) = (-1) → VX1_describeFrom g (d + 1) P 160 [some (.ref 133), none, none, some (.int l3), some (.int l4), some (.int l5), some (.int l6), none, none, some (.int x18), some (.int x21), none] [] σ) ∧ ((mi σ 138 (Int32.toNatClampNeg x18)) = (-1) → vp_in x18 10 ∧ ∀ s25 : PS, s25 = si σ 138 (Int32.toNatClampNeg x18) l4 → vp_in x18 10 ∧ ∀ s28 : PS, s28 = si s25 139 (Int32.toNatClampNeg x18) x21 → vp_in l4 10 ∧ ∀ s31 : PS, s31 = si s28 140 (Int32.toNatClampNeg l4) x18 → ∀ x33 : Int32, x33 = l4 + 1 → VX1_describeFrom g (d + 1) P 160 [some (.ref 133), none, none, some (.int l3), some (.int x33), some (.int l5), some (.int l6), none, none, some (.int x18), some (.int x21), none] [] s31)))) : VX1_describeFrom g (d + 1) P 38 [some (.ref 133), none, none, some (.int l3), some (.int l4), some (.int l5), some (.int l6), none, none, none, none, none] [] σ := by
  refine x_iload (dxX1_describeFrom_0 25 rfl) rfl ?_
  refine x_aload_n (i := 0) (dxX1_describeFrom_0 26 rfl) rfl rfl ?_
  refine gf_1_12 (kd_133 hL) (rv_133_2 hL) (dxX1_describeFrom_0 27 rfl) ?_
  refine gf_1_97 (kd_134 hL) rfl (dxX1_describeFrom_0 28 rfl) ?_
  refine x_iconst (v := 4) (dxX1_describeFrom_0 29 rfl) rfl ?_
  refine x_imul (dxX1_describeFrom_0 30 rfl) ?_
  refine x_icmp_ge (tgt := 245) (dxX1_describeFrom_0 31 rfl) (by decide) (fun hc => ?_) (fun hc => ?_)
  · replace h := h.1 hc
    exact x_vret rfl (dxX1_describeFrom_4 15 rfl) ⟨rfl, h⟩
  · replace h := h.2 hc
    refine x_iload (dxX1_describeFrom_1 0 rfl) rfl ?_
    refine x_iconst (v := 4) (dxX1_describeFrom_1 1 rfl) rfl ?_
    refine x_idiv (dxX1_describeFrom_1 2 rfl) (by decide) ?_
    refine x_iload (dxX1_describeFrom_1 3 rfl) rfl ?_
    refine x_icmp_ge (tgt := 245) (dxX1_describeFrom_1 4 rfl) (by decide) (fun hc => ?_) (fun hc => ?_)
    · replace h := h.1 hc
      exact x_vret rfl (dxX1_describeFrom_4 15 rfl) ⟨rfl, h⟩
    · replace h := h.2 hc
      refine x_aload_n (i := 0) (dxX1_describeFrom_1 5 rfl) rfl rfl ?_
      refine gf_1_25 (kd_133 hL) (rv_133_5 hL) (dxX1_describeFrom_1 6 rfl) ?_
      refine x_iload (dxX1_describeFrom_1 7 rfl) rfl ?_
      refine x_iconst (v := 4) (dxX1_describeFrom_1 8 rfl) rfl ?_
      refine x_idiv (dxX1_describeFrom_1 9 rfl) (by decide) ?_
      obtain ⟨hi11, h⟩ := h
      refine x_iald (kd_140 hL) hi11 (dxX1_describeFrom_1 10 rfl) ?_
      refine x_topi (fun x12 e13 => ?_)
      replace h := h x12 e13
      refine x_istore (dxX1_describeFrom_1 11 rfl) (Nat.le_of_ble_eq_true rfl) rfl rfl ?_
      refine x_iload (dxX1_describeFrom_1 12 rfl) rfl ?_
      refine x_iconst (v := 4) (dxX1_describeFrom_1 13 rfl) rfl ?_
      refine x_imul (dxX1_describeFrom_1 14 rfl) ?_
      refine x_aload_n (i := 0) (dxX1_describeFrom_1 15 rfl) rfl rfl ?_
      refine gf_1_22 (kd_133 hL) (rv_133_4 hL) (dxX1_describeFrom_1 16 rfl) ?_
      refine x_iload (dxX1_describeFrom_1 17 rfl) rfl ?_
      obtain ⟨hi14, h⟩ := h
      refine x_iald (kd_139 hL) hi14 (dxX1_describeFrom_1 18 rfl) ?_
      refine x_iload_n (i := 3) (dxX1_describeFrom_1 19 rfl) rfl rfl ?_
      refine x_iload (dxX1_describeFrom_1 20 rfl) rfl ?_
      refine x_iconst (v := 4) (dxX1_describeFrom_1 21 rfl) rfl ?_
      refine x_irem (dxX1_describeFrom_1 22 rfl) (by decide) ?_
      refine x_imul (dxX1_describeFrom_1 23 rfl) ?_
      refine x_iadd (dxX1_describeFrom_1 24 rfl) ?_
      refine x_iconst (v := 4) (dxX1_describeFrom_1 25 rfl) rfl ?_
      refine x_irem (dxX1_describeFrom_1 26 rfl) (by decide) ?_
      refine x_iadd (dxX1_describeFrom_1 27 rfl) ?_
      refine x_topi (fun x15 e16 => ?_)
      replace h := h x15 e16
      refine x_istore (dxX1_describeFrom_1 28 rfl) (Nat.le_of_ble_eq_true rfl) rfl rfl ?_
      refine x_aload_n (i := 0) (dxX1_describeFrom_1 29 rfl) rfl rfl ?_
      refine gf_1_12 (kd_133 hL) (rv_133_2 hL) (dxX1_describeFrom_1 30 rfl) ?_
      refine gf_1_106 (kd_134 hL) (rv_134_1 hL) (dxX1_describeFrom_1 31 rfl) ?_
      refine x_iload (dxX1_describeFrom_2 0 rfl) rfl ?_
      obtain ⟨hi17, h⟩ := h
      refine x_iald (kd_135 hL) hi17 (dxX1_describeFrom_2 1 rfl) ?_
      refine x_topi (fun x18 e19 => ?_)
      replace h := h x18 e19
      refine x_istore (dxX1_describeFrom_2 2 rfl) (Nat.le_of_ble_eq_true rfl) rfl rfl ?_
      refine x_aload_n (i := 0) (dxX1_describeFrom_2 3 rfl) rfl rfl ?_
      refine gf_1_12 (kd_133 hL) (rv_133_2 hL) (dxX1_describeFrom_2 4 rfl) ?_
      refine gf_1_109 (kd_134 hL) (rv_134_2 hL) (dxX1_describeFrom_2 5 rfl) ?_
      refine x_iload (dxX1_describeFrom_2 6 rfl) rfl ?_
      obtain ⟨hi20, h⟩ := h
      refine x_iald (kd_136 hL) hi20 (dxX1_describeFrom_2 7 rfl) ?_
      refine x_topi (fun x21 e22 => ?_)
      replace h := h x21 e22
      refine x_istore (dxX1_describeFrom_2 8 rfl) (Nat.le_of_ble_eq_true rfl) rfl rfl ?_
      refine x_aload_n (i := 0) (dxX1_describeFrom_2 9 rfl) rfl rfl ?_
      refine gf_1_18 (kd_133 hL) (rv_133_3 hL) (dxX1_describeFrom_2 10 rfl) ?_
      refine x_iload (dxX1_describeFrom_2 11 rfl) rfl ?_
      obtain ⟨hi23, h⟩ := h
      refine x_iald (kd_138 hL) hi23 (dxX1_describeFrom_2 12 rfl) ?_
      refine x_iconst (v := (-1)) (dxX1_describeFrom_2 13 rfl) rfl ?_
      refine x_icmp_ne (tgt := 160) (dxX1_describeFrom_2 14 rfl) (by decide) (fun hc => ?_) (fun hc => ?_)
      · replace h := h.1 hc
        refine x_mask [true, false, false, true, true, true, true, false, false, true, true, false] (L1 := [some (.ref 133), none, none, some (.int l3), some (.int l4), some (.int l5), some (.int l6), none, none, some (.int x18), some (.int x21), none]) rfl ?_
        exact h
      · replace h := h.2 hc
        refine x_aload_n (i := 0) (dxX1_describeFrom_2 15 rfl) rfl rfl ?_
        refine gf_1_18 (kd_133 hL) (rv_133_3 hL) (dxX1_describeFrom_2 16 rfl) ?_
        refine x_iload (dxX1_describeFrom_2 17 rfl) rfl ?_
        refine x_iload (dxX1_describeFrom_2 18 rfl) rfl ?_
        obtain ⟨hi24, h⟩ := h
        refine x_iast (kd_138 hL) hi24 (dxX1_describeFrom_2 19 rfl) ?_
        refine x_sto (fun s25 e26 => ?_)
        replace h := h s25 e26
        have hKs25 : kd s25 = kd σ := by rw [e26]; exact (rfl : kd σ = kd σ)
        have hLs25 : Lay s25 := by rw [e26]; exact hL.si
        refine x_aload_n (i := 0) (dxX1_describeFrom_2 20 rfl) rfl rfl ?_
        refine gf_1_22 (kd_133 hLs25) (rv_133_4 hLs25) (dxX1_describeFrom_2 21 rfl) ?_
        refine x_iload (dxX1_describeFrom_2 22 rfl) rfl ?_
        refine x_iload (dxX1_describeFrom_2 23 rfl) rfl ?_
        obtain ⟨hi27, h⟩ := h
        refine x_iast (kd_139 hLs25) hi27 (dxX1_describeFrom_2 24 rfl) ?_
        refine x_sto (fun s28 e29 => ?_)
        replace h := h s28 e29
        have hKs28 : kd s28 = kd σ := by rw [e29]; exact hKs25
        have hLs28 : Lay s28 := by rw [e29]; exact hLs25.si
        refine x_aload_n (i := 0) (dxX1_describeFrom_2 25 rfl) rfl rfl ?_
        refine gf_1_25 (kd_133 hLs28) (rv_133_5 hLs28) (dxX1_describeFrom_2 26 rfl) ?_
        refine x_iload (dxX1_describeFrom_2 27 rfl) rfl ?_
        refine x_iload (dxX1_describeFrom_2 28 rfl) rfl ?_
        obtain ⟨hi30, h⟩ := h
        refine x_iast (kd_140 hLs28) hi30 (dxX1_describeFrom_2 29 rfl) ?_
        refine x_sto (fun s31 e32 => ?_)
        replace h := h s31 e32
        have hKs31 : kd s31 = kd σ := by rw [e32]; exact hKs28
        have hLs31 : Lay s31 := by rw [e32]; exact hLs28.si
        obtain ⟨x33, e34⟩ : ∃ y : Int32, y = l4 + 1 := ⟨_, rfl⟩
        replace h := h x33 e34
        refine x_iinc (v := x33) (dxX1_describeFrom_2 30 rfl) (i := 4) rfl (by rw [e34]; rfl) (Nat.le_of_ble_eq_true rfl) rfl rfl ?_
        refine x_mask [true, false, false, true, true, true, true, false, false, true, true, false] (L1 := [some (.ref 133), none, none, some (.int l3), some (.int x33), some (.int l5), some (.int l6), none, none, some (.int x18), some (.int x21), none]) rfl ?_
        exact h
theorem vcX1_describeFrom_160 {g : GV} {d : Nat} {P : PS → Prop} {σ : PS} (hL : Lay σ) (l3 : Int32) (l4 : Int32) (l5 : Int32) (l6 : Int32) (l9 : Int32) (l10 : Int32) (h : vp_in l9 10 ∧ vp_in l9 10 ∧ ∀ x37 : Int32, x37 = ((mi σ 138 (Int32.toNatClampNeg l9)) * 4) + (jrem (((l10 - (mi σ 139 (Int32.toNatClampNeg l9))) + 4) * l3) 4) → (¬ l5 = 0 → (¬ l5 = 0 → vp_in l6 40 ∧ ∀ s40 : PS, s40 = si σ 141 (Int32.toNatClampNeg l6) x37 → ∀ x42 : Int32, x42 = l6 + 1 → VX1_describeFrom g (d + 1) P 38 [some (.ref 133), none, none, some (.int l3), some (.int l4), some (.int 1), some (.int x42), none, none, none, none, none] [] s40) ∧ (l5 = 0 → vp_in l6 40 ∧ ((mi σ 141 (Int32.toNatClampNeg l6)) ≤ x37 → vp_in l6 40 ∧ ∀ s46 : PS, s46 = si σ 141 (Int32.toNatClampNeg l6) x37 → ∀ x48 : Int32, x48 = l6 + 1 → VX1_describeFrom g (d + 1) P 38 [some (.ref 133), none, none, some (.int l3), some (.int l4), some (.int 0), some (.int x48), none, none, none, none, none] [] s46) ∧ (¬ (mi σ 141 (Int32.toNatClampNeg l6)) ≤ x37 → vp_in l6 40 ∧ ∀ s51 : PS, s51 = si σ 141 (Int32.toNatClampNeg l6) x37 → ∀ x53 : Int32, x53 = l6 + 1 → VX1_describeFrom g (d + 1) P 38 [some (.ref 133), none, none, some (.int l3), some (.int l4), some (.int 1), some (.int x53), none, none, none, none, none] [] s51))) ∧ (l5 = 0 → vp_in l6 40 ∧ (x37 ≤ (mi σ 141 (Int32.toNatClampNeg l6)) → (¬ l5 = 0 → vp_in l6 40 ∧ ∀ s57 : PS, s57 = si σ 141 (Int32.toNatClampNeg l6) x37 → ∀ x59 : Int32, x59 = l6 + 1 → VX1_describeFrom g (d + 1) P 38 [some (.ref 133), none, none, some (.int l3), some (.int l4), some (.int 1), some (.int x59), none, none, none, none, none] [] s57) ∧ (l5 = 0 → vp_in l6 40 ∧ ((mi σ 141 (Int32.toNatClampNeg l6)) ≤ x37 → vp_in l6 40 ∧ ∀ s63 : PS, s63 = si σ 141 (Int32.toNatClampNeg l6) x37 → ∀ x65 : Int32, x65 = l6 + 1 → VX1_describeFrom g (d + 1) P 38 [some (.ref 133), none, none, some (.int l3), some (.int l4), some (.int 0), some (.int x65), none, none, none, none, none] [] s63) ∧ (¬ (mi σ 141 (Int32.toNatClampNeg l6)) ≤ x37 → vp_in l6 40 ∧ ∀ s68 : PS, s68 = si σ 141 (Int32.toNatClampNeg l6) x37 → ∀ x70 : Int32, x70 = l6 + 1 → VX1_describeFrom g (d + 1) P 38 [some (.ref 133), none, none, some (.int l3), some (.int l4), some (.int 1), some (.int x70), none, none, none, none, none] [] s68))) ∧ (¬ x37 ≤ (mi σ 141 (Int32.toNatClampNeg l6)) → P σ))) : VX1_describeFrom g (d + 1) P 160 [some (.ref 133), none, none, some (.int l3), some (.int l4), some (.int l5), some (.int l6), none, none, some (.int l9), some (.int l10), none] [] σ := by
  refine x_aload_n (i := 0) (dxX1_describeFrom_2 31 rfl) rfl rfl ?_
  refine gf_1_18 (kd_133 hL) (rv_133_3 hL) (dxX1_describeFrom_3 0 rfl) ?_
  refine x_iload (dxX1_describeFrom_3 1 rfl) rfl ?_
  obtain ⟨hi35, h⟩ := h
  refine x_iald (kd_138 hL) hi35 (dxX1_describeFrom_3 2 rfl) ?_
  refine x_iconst (v := 4) (dxX1_describeFrom_3 3 rfl) rfl ?_
  refine x_imul (dxX1_describeFrom_3 4 rfl) ?_
  refine x_iload (dxX1_describeFrom_3 5 rfl) rfl ?_
  refine x_aload_n (i := 0) (dxX1_describeFrom_3 6 rfl) rfl rfl ?_
  refine gf_1_22 (kd_133 hL) (rv_133_4 hL) (dxX1_describeFrom_3 7 rfl) ?_
  refine x_iload (dxX1_describeFrom_3 8 rfl) rfl ?_
  obtain ⟨hi36, h⟩ := h
  refine x_iald (kd_139 hL) hi36 (dxX1_describeFrom_3 9 rfl) ?_
  refine x_isub (dxX1_describeFrom_3 10 rfl) ?_
  refine x_iconst (v := 4) (dxX1_describeFrom_3 11 rfl) rfl ?_
  refine x_iadd (dxX1_describeFrom_3 12 rfl) ?_
  refine x_iload_n (i := 3) (dxX1_describeFrom_3 13 rfl) rfl rfl ?_
  refine x_imul (dxX1_describeFrom_3 14 rfl) ?_
  refine x_iconst (v := 4) (dxX1_describeFrom_3 15 rfl) rfl ?_
  refine x_irem (dxX1_describeFrom_3 16 rfl) (by decide) ?_
  refine x_iadd (dxX1_describeFrom_3 17 rfl) ?_
  refine x_topi (fun x37 e38 => ?_)
  replace h := h x37 e38
  refine x_istore (dxX1_describeFrom_3 18 rfl) (Nat.le_of_ble_eq_true rfl) rfl rfl ?_
  refine x_iload (dxX1_describeFrom_3 19 rfl) rfl ?_
  refine x_if_ne (tgt := 206) (dxX1_describeFrom_3 20 rfl) (by decide) (fun hc => ?_) (fun hc => ?_)
  · replace h := h.1 hc
    refine x_iload (dxX1_describeFrom_3 28 rfl) rfl ?_
    refine x_if_ne (tgt := 223) (dxX1_describeFrom_3 29 rfl) (by decide) (fun hc => ?_) (fun hc => ?_)
    · replace h := h.1 hc
      refine x_iconst (v := 1) (dxX1_describeFrom_4 4 rfl) rfl ?_
      refine x_goto (tgt := 228) (dxX1_describeFrom_4 5 rfl) (by decide) ?_
      refine x_istore (dxX1_describeFrom_4 7 rfl) (Nat.le_of_ble_eq_true rfl) rfl rfl ?_
      refine x_aload_n (i := 0) (dxX1_describeFrom_4 8 rfl) rfl rfl ?_
      refine gf_1_28 (kd_133 hL) (rv_133_6 hL) (dxX1_describeFrom_4 9 rfl) ?_
      refine x_iload (dxX1_describeFrom_4 10 rfl) rfl ?_
      refine x_iload (dxX1_describeFrom_4 11 rfl) rfl ?_
      obtain ⟨hi39, h⟩ := h
      refine x_iast (kd_141 hL) hi39 (dxX1_describeFrom_4 12 rfl) ?_
      refine x_sto (fun s40 e41 => ?_)
      replace h := h s40 e41
      have hKs40 : kd s40 = kd σ := by rw [e41]; exact (rfl : kd σ = kd σ)
      have hLs40 : Lay s40 := by rw [e41]; exact hL.si
      obtain ⟨x42, e43⟩ : ∃ y : Int32, y = l6 + 1 := ⟨_, rfl⟩
      replace h := h x42 e43
      refine x_iinc (v := x42) (dxX1_describeFrom_4 13 rfl) (i := 6) rfl (by rw [e43]; rfl) (Nat.le_of_ble_eq_true rfl) rfl rfl ?_
      refine x_goto (tgt := 38) (dxX1_describeFrom_4 14 rfl) (by decide) ?_
      refine x_mask [true, false, false, true, true, true, true, false, false, false, false, false] (L1 := [some (.ref 133), none, none, some (.int l3), some (.int l4), some (.int 1), some (.int x42), none, none, none, none, none]) rfl ?_
      exact h
    · replace h := h.2 hc
      refine x_iload (dxX1_describeFrom_3 30 rfl) rfl ?_
      refine x_aload_n (i := 0) (dxX1_describeFrom_3 31 rfl) rfl rfl ?_
      refine gf_1_28 (kd_133 hL) (rv_133_6 hL) (dxX1_describeFrom_4 0 rfl) ?_
      refine x_iload (dxX1_describeFrom_4 1 rfl) rfl ?_
      obtain ⟨hi44, h⟩ := h
      refine x_iald (kd_141 hL) hi44 (dxX1_describeFrom_4 2 rfl) ?_
      refine x_icmp_ge (tgt := 227) (dxX1_describeFrom_4 3 rfl) (by decide) (fun hc => ?_) (fun hc => ?_)
      · replace h := h.1 hc
        refine x_iconst (v := 0) (dxX1_describeFrom_4 6 rfl) rfl ?_
        refine x_istore (dxX1_describeFrom_4 7 rfl) (Nat.le_of_ble_eq_true rfl) rfl rfl ?_
        refine x_aload_n (i := 0) (dxX1_describeFrom_4 8 rfl) rfl rfl ?_
        refine gf_1_28 (kd_133 hL) (rv_133_6 hL) (dxX1_describeFrom_4 9 rfl) ?_
        refine x_iload (dxX1_describeFrom_4 10 rfl) rfl ?_
        refine x_iload (dxX1_describeFrom_4 11 rfl) rfl ?_
        obtain ⟨hi45, h⟩ := h
        refine x_iast (kd_141 hL) hi45 (dxX1_describeFrom_4 12 rfl) ?_
        refine x_sto (fun s46 e47 => ?_)
        replace h := h s46 e47
        have hKs46 : kd s46 = kd σ := by rw [e47]; exact (rfl : kd σ = kd σ)
        have hLs46 : Lay s46 := by rw [e47]; exact hL.si
        obtain ⟨x48, e49⟩ : ∃ y : Int32, y = l6 + 1 := ⟨_, rfl⟩
        replace h := h x48 e49
        refine x_iinc (v := x48) (dxX1_describeFrom_4 13 rfl) (i := 6) rfl (by rw [e49]; rfl) (Nat.le_of_ble_eq_true rfl) rfl rfl ?_
        refine x_goto (tgt := 38) (dxX1_describeFrom_4 14 rfl) (by decide) ?_
        refine x_mask [true, false, false, true, true, true, true, false, false, false, false, false] (L1 := [some (.ref 133), none, none, some (.int l3), some (.int l4), some (.int 0), some (.int x48), none, none, none, none, none]) rfl ?_
        exact h
      · replace h := h.2 hc
        refine x_iconst (v := 1) (dxX1_describeFrom_4 4 rfl) rfl ?_
        refine x_goto (tgt := 228) (dxX1_describeFrom_4 5 rfl) (by decide) ?_
        refine x_istore (dxX1_describeFrom_4 7 rfl) (Nat.le_of_ble_eq_true rfl) rfl rfl ?_
        refine x_aload_n (i := 0) (dxX1_describeFrom_4 8 rfl) rfl rfl ?_
        refine gf_1_28 (kd_133 hL) (rv_133_6 hL) (dxX1_describeFrom_4 9 rfl) ?_
        refine x_iload (dxX1_describeFrom_4 10 rfl) rfl ?_
        refine x_iload (dxX1_describeFrom_4 11 rfl) rfl ?_
        obtain ⟨hi50, h⟩ := h
        refine x_iast (kd_141 hL) hi50 (dxX1_describeFrom_4 12 rfl) ?_
        refine x_sto (fun s51 e52 => ?_)
        replace h := h s51 e52
        have hKs51 : kd s51 = kd σ := by rw [e52]; exact (rfl : kd σ = kd σ)
        have hLs51 : Lay s51 := by rw [e52]; exact hL.si
        obtain ⟨x53, e54⟩ : ∃ y : Int32, y = l6 + 1 := ⟨_, rfl⟩
        replace h := h x53 e54
        refine x_iinc (v := x53) (dxX1_describeFrom_4 13 rfl) (i := 6) rfl (by rw [e54]; rfl) (Nat.le_of_ble_eq_true rfl) rfl rfl ?_
        refine x_goto (tgt := 38) (dxX1_describeFrom_4 14 rfl) (by decide) ?_
        refine x_mask [true, false, false, true, true, true, true, false, false, false, false, false] (L1 := [some (.ref 133), none, none, some (.int l3), some (.int l4), some (.int 1), some (.int x53), none, none, none, none, none]) rfl ?_
        exact h
  · replace h := h.2 hc
    refine x_iload (dxX1_describeFrom_3 21 rfl) rfl ?_
    refine x_aload_n (i := 0) (dxX1_describeFrom_3 22 rfl) rfl rfl ?_
    refine gf_1_28 (kd_133 hL) (rv_133_6 hL) (dxX1_describeFrom_3 23 rfl) ?_
    refine x_iload (dxX1_describeFrom_3 24 rfl) rfl ?_
    obtain ⟨hi55, h⟩ := h
    refine x_iald (kd_141 hL) hi55 (dxX1_describeFrom_3 25 rfl) ?_
    refine x_icmp_le (tgt := 206) (dxX1_describeFrom_3 26 rfl) (by decide) (fun hc => ?_) (fun hc => ?_)
    · replace h := h.1 hc
      refine x_iload (dxX1_describeFrom_3 28 rfl) rfl ?_
      refine x_if_ne (tgt := 223) (dxX1_describeFrom_3 29 rfl) (by decide) (fun hc => ?_) (fun hc => ?_)
      · replace h := h.1 hc
        refine x_iconst (v := 1) (dxX1_describeFrom_4 4 rfl) rfl ?_
        refine x_goto (tgt := 228) (dxX1_describeFrom_4 5 rfl) (by decide) ?_
        refine x_istore (dxX1_describeFrom_4 7 rfl) (Nat.le_of_ble_eq_true rfl) rfl rfl ?_
        refine x_aload_n (i := 0) (dxX1_describeFrom_4 8 rfl) rfl rfl ?_
        refine gf_1_28 (kd_133 hL) (rv_133_6 hL) (dxX1_describeFrom_4 9 rfl) ?_
        refine x_iload (dxX1_describeFrom_4 10 rfl) rfl ?_
        refine x_iload (dxX1_describeFrom_4 11 rfl) rfl ?_
        obtain ⟨hi56, h⟩ := h
        refine x_iast (kd_141 hL) hi56 (dxX1_describeFrom_4 12 rfl) ?_
        refine x_sto (fun s57 e58 => ?_)
        replace h := h s57 e58
        have hKs57 : kd s57 = kd σ := by rw [e58]; exact (rfl : kd σ = kd σ)
        have hLs57 : Lay s57 := by rw [e58]; exact hL.si
        obtain ⟨x59, e60⟩ : ∃ y : Int32, y = l6 + 1 := ⟨_, rfl⟩
        replace h := h x59 e60
        refine x_iinc (v := x59) (dxX1_describeFrom_4 13 rfl) (i := 6) rfl (by rw [e60]; rfl) (Nat.le_of_ble_eq_true rfl) rfl rfl ?_
        refine x_goto (tgt := 38) (dxX1_describeFrom_4 14 rfl) (by decide) ?_
        refine x_mask [true, false, false, true, true, true, true, false, false, false, false, false] (L1 := [some (.ref 133), none, none, some (.int l3), some (.int l4), some (.int 1), some (.int x59), none, none, none, none, none]) rfl ?_
        exact h
      · replace h := h.2 hc
        refine x_iload (dxX1_describeFrom_3 30 rfl) rfl ?_
        refine x_aload_n (i := 0) (dxX1_describeFrom_3 31 rfl) rfl rfl ?_
        refine gf_1_28 (kd_133 hL) (rv_133_6 hL) (dxX1_describeFrom_4 0 rfl) ?_
        refine x_iload (dxX1_describeFrom_4 1 rfl) rfl ?_
        obtain ⟨hi61, h⟩ := h
        refine x_iald (kd_141 hL) hi61 (dxX1_describeFrom_4 2 rfl) ?_
        refine x_icmp_ge (tgt := 227) (dxX1_describeFrom_4 3 rfl) (by decide) (fun hc => ?_) (fun hc => ?_)
        · replace h := h.1 hc
          refine x_iconst (v := 0) (dxX1_describeFrom_4 6 rfl) rfl ?_
          refine x_istore (dxX1_describeFrom_4 7 rfl) (Nat.le_of_ble_eq_true rfl) rfl rfl ?_
          refine x_aload_n (i := 0) (dxX1_describeFrom_4 8 rfl) rfl rfl ?_
          refine gf_1_28 (kd_133 hL) (rv_133_6 hL) (dxX1_describeFrom_4 9 rfl) ?_
          refine x_iload (dxX1_describeFrom_4 10 rfl) rfl ?_
          refine x_iload (dxX1_describeFrom_4 11 rfl) rfl ?_
          obtain ⟨hi62, h⟩ := h
          refine x_iast (kd_141 hL) hi62 (dxX1_describeFrom_4 12 rfl) ?_
          refine x_sto (fun s63 e64 => ?_)
          replace h := h s63 e64
          have hKs63 : kd s63 = kd σ := by rw [e64]; exact (rfl : kd σ = kd σ)
          have hLs63 : Lay s63 := by rw [e64]; exact hL.si
          obtain ⟨x65, e66⟩ : ∃ y : Int32, y = l6 + 1 := ⟨_, rfl⟩
          replace h := h x65 e66
          refine x_iinc (v := x65) (dxX1_describeFrom_4 13 rfl) (i := 6) rfl (by rw [e66]; rfl) (Nat.le_of_ble_eq_true rfl) rfl rfl ?_
          refine x_goto (tgt := 38) (dxX1_describeFrom_4 14 rfl) (by decide) ?_
          refine x_mask [true, false, false, true, true, true, true, false, false, false, false, false] (L1 := [some (.ref 133), none, none, some (.int l3), some (.int l4), some (.int 0), some (.int x65), none, none, none, none, none]) rfl ?_
          exact h
        · replace h := h.2 hc
          refine x_iconst (v := 1) (dxX1_describeFrom_4 4 rfl) rfl ?_
          refine x_goto (tgt := 228) (dxX1_describeFrom_4 5 rfl) (by decide) ?_
          refine x_istore (dxX1_describeFrom_4 7 rfl) (Nat.le_of_ble_eq_true rfl) rfl rfl ?_
          refine x_aload_n (i := 0) (dxX1_describeFrom_4 8 rfl) rfl rfl ?_
          refine gf_1_28 (kd_133 hL) (rv_133_6 hL) (dxX1_describeFrom_4 9 rfl) ?_
          refine x_iload (dxX1_describeFrom_4 10 rfl) rfl ?_
          refine x_iload (dxX1_describeFrom_4 11 rfl) rfl ?_
          obtain ⟨hi67, h⟩ := h
          refine x_iast (kd_141 hL) hi67 (dxX1_describeFrom_4 12 rfl) ?_
          refine x_sto (fun s68 e69 => ?_)
          replace h := h s68 e69
          have hKs68 : kd s68 = kd σ := by rw [e69]; exact (rfl : kd σ = kd σ)
          have hLs68 : Lay s68 := by rw [e69]; exact hL.si
          obtain ⟨x70, e71⟩ : ∃ y : Int32, y = l6 + 1 := ⟨_, rfl⟩
          replace h := h x70 e71
          refine x_iinc (v := x70) (dxX1_describeFrom_4 13 rfl) (i := 6) rfl (by rw [e71]; rfl) (Nat.le_of_ble_eq_true rfl) rfl rfl ?_
          refine x_goto (tgt := 38) (dxX1_describeFrom_4 14 rfl) (by decide) ?_
          refine x_mask [true, false, false, true, true, true, true, false, false, false, false, false] (L1 := [some (.ref 133), none, none, some (.int l3), some (.int l4), some (.int 1), some (.int x70), none, none, none, none, none]) rfl ?_
          exact h
    · replace h := h.2 hc
      exact x_vret rfl (dxX1_describeFrom_3 27 rfl) ⟨rfl, h⟩
