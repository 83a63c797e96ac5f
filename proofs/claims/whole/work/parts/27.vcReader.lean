-- FAIL ('GluedPaper$Reader', 'read', '(LGluedPaper$Tape;)I') Exception('putfield ref')
theorem vcX7_kind {g : GV} {d : Nat} {P : Int32 → PS → Prop} {σ : PS} (hL : Lay σ) (hT : mr σ 16 4 = some 11)  (h : ((mi σ 16 5) < 0 → P 0 σ) ∧ (¬ (mi σ 16 5) < 0 → ((mi σ 11 5) < (mi σ 16 5) → P 0 σ) ∧ (¬ (mi σ 11 5) < (mi σ 16 5) → vp_in (mi σ 16 5) 1001 ∧ P (mi σ 13 (Int32.toNatClampNeg (mi σ 16 5))) σ))) : CX7_kind g d [.ref 16] σ P := by
  refine x_entry (L := [some (.ref 16)]) pn_7 (Nat.le_of_ble_eq_true rfl) ⟨0, rfl⟩ ?_
  show VX7_kind g d P 0 [some (.ref 16)] [] σ
  refine x_aload_n (i := 0) (dxX7_kind_0 0 rfl) rfl rfl ?_
  refine gf_7_48 (kd_16 hL) rfl (dxX7_kind_0 1 rfl) ?_
  refine x_if_lt (tgt := 36) (dxX7_kind_0 2 rfl) (by decide) (fun hc => ?_) (fun hc => ?_)
  · replace h := h.1 hc
    refine x_iconst (v := 0) (dxX7_kind_0 16 rfl) rfl ?_
    exact x_iret (ty := .int) rfl rfl (dxX7_kind_0 17 rfl) ⟨_, rfl, h⟩
  · replace h := h.2 hc
    refine x_aload_n (i := 0) (dxX7_kind_0 3 rfl) rfl rfl ?_
    refine gf_7_48 (kd_16 hL) rfl (dxX7_kind_0 4 rfl) ?_
    refine x_aload_n (i := 0) (dxX7_kind_0 5 rfl) rfl rfl ?_
    refine gf_7_22 (kd_16 hL) (rv_text hT) (dxX7_kind_0 6 rfl) ?_
    refine gf_7_51 (kd_11 hL) rfl (dxX7_kind_0 7 rfl) ?_
    refine x_icmp_gt (tgt := 36) (dxX7_kind_0 8 rfl) (by decide) (fun hc => ?_) (fun hc => ?_)
    · replace h := h.1 hc
      refine x_iconst (v := 0) (dxX7_kind_0 16 rfl) rfl ?_
      exact x_iret (ty := .int) rfl rfl (dxX7_kind_0 17 rfl) ⟨_, rfl, h⟩
    · replace h := h.2 hc
      refine x_aload_n (i := 0) (dxX7_kind_0 9 rfl) rfl rfl ?_
      refine gf_7_22 (kd_16 hL) (rv_text hT) (dxX7_kind_0 10 rfl) ?_
      refine gf_7_72 (kd_11 hL) (rv_11_2 hL) (dxX7_kind_0 11 rfl) ?_
      refine x_aload_n (i := 0) (dxX7_kind_0 12 rfl) rfl rfl ?_
      refine gf_7_48 (kd_16 hL) rfl (dxX7_kind_0 13 rfl) ?_
      obtain ⟨hi1, h⟩ := h
      refine x_iald (kd_13 hL) hi1 (dxX7_kind_0 14 rfl) ?_
      refine x_goto (tgt := 37) (dxX7_kind_0 15 rfl) (by decide) ?_
      exact x_iret (ty := .int) rfl rfl (dxX7_kind_0 17 rfl) ⟨_, rfl, h⟩
theorem vcX7_fail {g : GV} {d : Nat} {P : PS → Prop} {σ : PS} (hL : Lay σ) (hT : mr σ 16 4 = some 11) (p0 : Int32) (p1 : Int32) (h : (¬ (mi σ 16 6) = 0 → P σ) ∧ ((mi σ 16 6) = 0 → (p0 < 0 → P σ) ∧ (¬ p0 < 0 → ((mi σ 11 5) < p0 → P σ) ∧ (¬ (mi σ 11 5) < p0 → vp_in p0 1001 ∧ ∀ s2 : PS, s2 = si σ 16 6 (p1 + (16 * (mi σ 14 (Int32.toNatClampNeg p0)))) → P s2)))) : CX7_fail g d [.ref 16, .int p0, .int p1] σ P := by
  refine x_entry (L := [some (.ref 16), some (.int p0), some (.int p1)]) pn_7 (Nat.le_of_ble_eq_true rfl) ⟨0, rfl⟩ ?_
  show VX7_fail g d P 0 [some (.ref 16), some (.int p0), some (.int p1)] [] σ
  refine x_aload_n (i := 0) (dxX7_fail_0 0 rfl) rfl rfl ?_
  refine gf_7_35 (kd_16 hL) rfl (dxX7_fail_0 1 rfl) ?_
  refine x_if_ne (tgt := 40) (dxX7_fail_0 2 rfl) (by decide) (fun hc => ?_) (fun hc => ?_)
  · replace h := h.1 hc
    exact x_vret rfl (dxX7_fail_0 21 rfl) ⟨rfl, h⟩
  · replace h := h.2 hc
    refine x_iload_n (i := 1) (dxX7_fail_0 3 rfl) rfl rfl ?_
    refine x_if_lt (tgt := 40) (dxX7_fail_0 4 rfl) (by decide) (fun hc => ?_) (fun hc => ?_)
    · replace h := h.1 hc
      exact x_vret rfl (dxX7_fail_0 21 rfl) ⟨rfl, h⟩
    · replace h := h.2 hc
      refine x_iload_n (i := 1) (dxX7_fail_0 5 rfl) rfl rfl ?_
      refine x_aload_n (i := 0) (dxX7_fail_0 6 rfl) rfl rfl ?_
      refine gf_7_22 (kd_16 hL) (rv_text hT) (dxX7_fail_0 7 rfl) ?_
      refine gf_7_51 (kd_11 hL) rfl (dxX7_fail_0 8 rfl) ?_
      refine x_icmp_gt (tgt := 40) (dxX7_fail_0 9 rfl) (by decide) (fun hc => ?_) (fun hc => ?_)
      · replace h := h.1 hc
        exact x_vret rfl (dxX7_fail_0 21 rfl) ⟨rfl, h⟩
      · replace h := h.2 hc
        refine x_aload_n (i := 0) (dxX7_fail_0 10 rfl) rfl rfl ?_
        refine x_iload_n (i := 2) (dxX7_fail_0 11 rfl) rfl rfl ?_
        refine x_bipush (v := 16) (dxX7_fail_0 12 rfl) rfl ?_
        refine x_aload_n (i := 0) (dxX7_fail_0 13 rfl) rfl rfl ?_
        refine gf_7_22 (kd_16 hL) (rv_text hT) (dxX7_fail_0 14 rfl) ?_
        refine gf_7_74 (kd_11 hL) (rv_11_3 hL) (dxX7_fail_0 15 rfl) ?_
        refine x_iload_n (i := 1) (dxX7_fail_0 16 rfl) rfl rfl ?_
        obtain ⟨hi1, h⟩ := h
        refine x_iald (kd_14 hL) hi1 (dxX7_fail_0 17 rfl) ?_
        refine x_imul (dxX7_fail_0 18 rfl) ?_
        refine x_iadd (dxX7_fail_0 19 rfl) ?_
        refine pf_7_35 (kd_16 hL) (dxX7_fail_0 20 rfl) ?_
        refine x_sto (fun s2 e3 => ?_)
        replace h := h s2 e3
        have hKs2 : kd s2 = kd σ := by rw [e3]; exact (rfl : kd σ = kd σ)
        have hLs2 : Lay s2 := by rw [e3]; exact hL.si
        have hTs2 : mr s2 16 4 = some 11 := by rw [e3]; exact hT
        exact x_vret rfl (dxX7_fail_0 21 rfl) ⟨rfl, h⟩
theorem vcX7_expect {g : GV} {d : Nat} {P : PS → Prop} {σ : PS} (hL : Lay σ) (hT : mr σ 16 4 = some 11) (p0 : Int32) (h : CX7_kind g d [.ref 16] σ (fun (v2 : Int32) (s1 : PS) => Fr σ s1 ∧ (v2 = p0 → ∀ s3 : PS, s3 = si s1 16 5 ((mi s1 16 5) + 1) → P s3) ∧ (¬ v2 = p0 → CX7_fail g d [.ref 16, .int (mi s1 16 5), .int 1] s1 (fun (s5 : PS) => Fr s1 s5 ∧ P s5)))) : CX7_expect g (d + 1) [.ref 16, .int p0] σ P := by
  refine x_entry (L := [some (.ref 16), some (.int p0)]) pn_7 (Nat.le_of_ble_eq_true rfl) ⟨0, rfl⟩ ?_
  show VX7_expect g (d + 1) P 0 [some (.ref 16), some (.int p0)] [] σ
  refine x_aload_n (i := 0) (dxX7_expect_0 0 rfl) rfl rfl ?_
  refine cl_7_54 (kd_16 hL) (Nat.le_of_ble_eq_true rfl) (dxX7_expect_0 1 rfl) h (fun v2 s1 h => ?_) (Nat.le_refl _) (Nat.le_refl _)
  obtain ⟨hFs1, h⟩ := h
  have hKs1 : kd s1 = kd σ := hFs1.1.trans (rfl : kd σ = kd σ)
  have hLs1 : Lay s1 := hL.fr hFs1
  have hTs1 : mr s1 16 4 = some 11 := by rw [hFs1.2]; exact hT
  refine x_iload_n (i := 1) (dxX7_expect_0 2 rfl) rfl rfl ?_
  refine x_icmp_eq (tgt := 20) (dxX7_expect_0 3 rfl) (by decide) (fun hc => ?_) (fun hc => ?_)
  · replace h := h.1 hc
    refine x_aload_n (i := 0) (dxX7_expect_0 10 rfl) rfl rfl ?_
    refine x_dup (dxX7_expect_0 11 rfl) rfl ?_
    refine gf_7_48 (kd_16 hLs1) rfl (dxX7_expect_0 12 rfl) ?_
    refine x_iconst (v := 1) (dxX7_expect_0 13 rfl) rfl ?_
    refine x_iadd (dxX7_expect_0 14 rfl) ?_
    refine pf_7_48 (kd_16 hLs1) (dxX7_expect_0 15 rfl) ?_
    refine x_sto (fun s3 e4 => ?_)
    replace h := h s3 e4
    have hKs3 : kd s3 = kd σ := by rw [e4]; exact hKs1
    have hLs3 : Lay s3 := by rw [e4]; exact hLs1.si
    have hTs3 : mr s3 16 4 = some 11 := by rw [e4]; exact hTs1
    exact x_vret rfl (dxX7_expect_0 16 rfl) ⟨rfl, h⟩
  · replace h := h.2 hc
    refine x_aload_n (i := 0) (dxX7_expect_0 4 rfl) rfl rfl ?_
    refine x_aload_n (i := 0) (dxX7_expect_0 5 rfl) rfl rfl ?_
    refine gf_7_48 (kd_16 hLs1) rfl (dxX7_expect_0 6 rfl) ?_
    refine x_iconst (v := 1) (dxX7_expect_0 7 rfl) rfl ?_
    refine cl_7_77 (kd_16 hLs1) (Nat.le_of_ble_eq_true rfl) (dxX7_expect_0 8 rfl) h (fun s5 h => ?_) (Nat.le_refl _) (Nat.le_refl _)
    obtain ⟨hFs5, h⟩ := h
    have hKs5 : kd s5 = kd σ := hFs5.1.trans hKs1
    have hLs5 : Lay s5 := hLs1.fr hFs5
    have hTs5 : mr s5 16 4 = some 11 := by rw [hFs5.2]; exact hTs1
    refine x_goto (tgt := 30) (dxX7_expect_0 9 rfl) (by decide) ?_
    exact x_vret rfl (dxX7_expect_0 16 rfl) ⟨rfl, h⟩
theorem vcX7_readLet {g : GV} {d : Nat} {P : PS → Prop} {σ : PS} (hL : Lay σ) (hT : mr σ 16 4 = some 11)  (h : ∀ s1 : PS, s1 = si σ 16 5 ((mi σ 16 5) + 1) → ∀ x3 : Int32, x3 = mi s1 16 5 → CX7_readNewName g d [.ref 16] s1 (fun (s5 : PS) => Fr s1 s5 ∧ CX7_sum g d [.ref 16, .int 0] s5 (fun (v8 : Int32) (s7 : PS) => Fr s5 s7 ∧ (¬ (mi s7 16 6) = 0 → P s7) ∧ ((mi s7 16 6) = 0 → CX7_tellName g d [.ref 16, .int x3] s7 (fun (v10 : Int32) (s9 : PS) => Fr s7 s9 ∧ vp_in v10 8 ∧ ∀ s12 : PS, s12 = si s9 19 (Int32.toNatClampNeg v10) v8 → P s12))))) : CX7_readLet g (d + 1) [.ref 16] σ P := by
  refine x_entry (L := [some (.ref 16), none, none]) pn_7 (Nat.le_of_ble_eq_true rfl) ⟨2, rfl⟩ ?_
  show VX7_readLet g (d + 1) P 0 [some (.ref 16), none, none] [] σ
  refine x_aload_n (i := 0) (dxX7_readLet_0 0 rfl) rfl rfl ?_
  refine x_dup (dxX7_readLet_0 1 rfl) rfl ?_
  refine gf_7_48 (kd_16 hL) rfl (dxX7_readLet_0 2 rfl) ?_
  refine x_iconst (v := 1) (dxX7_readLet_0 3 rfl) rfl ?_
  refine x_iadd (dxX7_readLet_0 4 rfl) ?_
  refine pf_7_48 (kd_16 hL) (dxX7_readLet_0 5 rfl) ?_
  refine x_sto (fun s1 e2 => ?_)
  replace h := h s1 e2
  have hKs1 : kd s1 = kd σ := by rw [e2]; exact (rfl : kd σ = kd σ)
  have hLs1 : Lay s1 := by rw [e2]; exact hL.si
  have hTs1 : mr s1 16 4 = some 11 := by rw [e2]; exact hT
  refine x_aload_n (i := 0) (dxX7_readLet_0 6 rfl) rfl rfl ?_
  refine gf_7_48 (kd_16 hLs1) rfl (dxX7_readLet_0 7 rfl) ?_
  refine x_topi (fun x3 e4 => ?_)
  replace h := h x3 e4
  refine x_istore_n (i := 1) (dxX7_readLet_0 8 rfl) rfl (Nat.le_of_ble_eq_true rfl) rfl rfl ?_
  refine x_aload_n (i := 0) (dxX7_readLet_0 9 rfl) rfl rfl ?_
  refine cl_7_81 (kd_16 hLs1) (Nat.le_of_ble_eq_true rfl) (dxX7_readLet_0 10 rfl) h (fun s5 h => ?_) (Nat.le_refl _) (Nat.le_refl _)
  obtain ⟨hFs5, h⟩ := h
  have hKs5 : kd s5 = kd σ := hFs5.1.trans hKs1
  have hLs5 : Lay s5 := hLs1.fr hFs5
  have hTs5 : mr s5 16 4 = some 11 := by rw [hFs5.2]; exact hTs1
  refine x_aload_n (i := 0) (dxX7_readLet_0 11 rfl) rfl rfl ?_
  refine x_iconst (v := 0) (dxX7_readLet_0 12 rfl) rfl ?_
  refine cl_7_84 (kd_16 hLs5) (Nat.le_of_ble_eq_true rfl) (dxX7_readLet_0 13 rfl) h (fun v8 s7 h => ?_) (Nat.le_refl _) (Nat.le_refl _)
  obtain ⟨hFs7, h⟩ := h
  have hKs7 : kd s7 = kd σ := hFs7.1.trans hKs5
  have hLs7 : Lay s7 := hLs5.fr hFs7
  have hTs7 : mr s7 16 4 = some 11 := by rw [hFs7.2]; exact hTs5
  refine x_istore_n (i := 2) (dxX7_readLet_0 14 rfl) rfl (Nat.le_of_ble_eq_true rfl) rfl rfl ?_
  refine x_aload_n (i := 0) (dxX7_readLet_0 15 rfl) rfl rfl ?_
  refine gf_7_35 (kd_16 hLs7) rfl (dxX7_readLet_0 16 rfl) ?_
  refine x_if_ne (tgt := 43) (dxX7_readLet_0 17 rfl) (by decide) (fun hc => ?_) (fun hc => ?_)
  · replace h := h.1 hc
    exact x_vret rfl (dxX7_readLet_0 25 rfl) ⟨rfl, h⟩
  · replace h := h.2 hc
    refine x_aload_n (i := 0) (dxX7_readLet_0 18 rfl) rfl rfl ?_
    refine gf_7_19 (kd_16 hLs7) (rv_16_2 hLs7) (dxX7_readLet_0 19 rfl) ?_
    refine x_aload_n (i := 0) (dxX7_readLet_0 20 rfl) rfl rfl ?_
    refine x_iload_n (i := 1) (dxX7_readLet_0 21 rfl) rfl rfl ?_
    refine cl_7_88 (kd_16 hLs7) (Nat.le_of_ble_eq_true rfl) (dxX7_readLet_0 22 rfl) h (fun v10 s9 h => ?_) (Nat.le_refl _) (Nat.le_refl _)
    obtain ⟨hFs9, h⟩ := h
    have hKs9 : kd s9 = kd σ := hFs9.1.trans hKs7
    have hLs9 : Lay s9 := hLs7.fr hFs9
    have hTs9 : mr s9 16 4 = some 11 := by rw [hFs9.2]; exact hTs7
    refine x_iload_n (i := 2) (dxX7_readLet_0 23 rfl) rfl rfl ?_
    obtain ⟨hi11, h⟩ := h
    refine x_iast (kd_19 hLs9) hi11 (dxX7_readLet_0 24 rfl) ?_
    refine x_sto (fun s12 e13 => ?_)
    replace h := h s12 e13
    have hKs12 : kd s12 = kd σ := by rw [e13]; exact hKs9
    have hLs12 : Lay s12 := by rw [e13]; exact hLs9.si
    have hTs12 : mr s12 16 4 = some 11 := by rw [e13]; exact hTs9
    exact x_vret rfl (dxX7_readLet_0 25 rfl) ⟨rfl, h⟩
theorem vcX7_readEach {g : GV} {d : Nat} {P : PS → Prop} {σ : PS} (hL : Lay σ) (hT : mr σ 16 4 = some 11)  (h : ∀ x1 : Int32, x1 = mi σ 16 5 → ∀ s3 : PS, s3 = si σ 16 5 ((mi σ 16 5) + 1) → ∀ x5 : Int32, x5 = mi s3 16 5 → CX7_readNewName g d [.ref 16] s3 (fun (s7 : PS) => Fr s3 s7 ∧ CX7_sum g d [.ref 16, .int 0] s7 (fun (v10 : Int32) (s9 : PS) => Fr s7 s9 ∧ CX7_sum g d [.ref 16, .int 0] s9 (fun (v12 : Int32) (s11 : PS) => Fr s9 s11 ∧ ((mi s11 16 6) = 0 → CX7_tellName g d [.ref 16, .int x5] s11 (fun (v14 : Int32) (s13 : PS) => Fr s11 s13 ∧ ∀ x15 : Int64, x15 = ((Int32.toInt64 v12) - (Int32.toInt64 v10)) + 1 → ((mi s13 16 7) = 0 → CX7_readStep g d [.ref 16, .int 0] s13 (fun (s17 : PS) => Fr s13 s17 ∧ P s17)) ∧ (¬ (mi s13 16 7) = 0 → (0 < (lg_cmp x15 0) → ((lg_cmp x15 64) ≤ 0 → ∀ x19 : Int32, x19 = mi s13 16 5 → VX7_readEach g (d + 1) P 107 [some (.ref 16), none, none, some (.int v10), none, some (.int v14), some (.long x15), none, some (.int x19), some (.int 0)] [] s13) ∧ (¬ (lg_cmp x15 64) ≤ 0 → CX7_fail g d [.ref 16, .int x1, .int 4] s13 (fun (s21 : PS) => Fr s13 s21 ∧ P s21))) ∧ (¬ 0 < (lg_cmp x15 0) → CX7_readStep g d [.ref 16, .int 0] s13 (fun (s23 : PS) => Fr s13 s23 ∧ P s23))))) ∧ (¬ (mi s11 16 6) = 0 → P s11))))) : CX7_readEach g (d + 1) [.ref 16] σ P := by
  refine x_entry (L := [some (.ref 16), none, none, none, none, none, none, none, none, none]) pn_7 (Nat.le_of_ble_eq_true rfl) ⟨9, rfl⟩ ?_
  show VX7_readEach g (d + 1) P 0 [some (.ref 16), none, none, none, none, none, none, none, none, none] [] σ
  refine x_aload_n (i := 0) (dxX7_readEach_0 0 rfl) rfl rfl ?_
  refine gf_7_48 (kd_16 hL) rfl (dxX7_readEach_0 1 rfl) ?_
  refine x_topi (fun x1 e2 => ?_)
  replace h := h x1 e2
  refine x_istore_n (i := 1) (dxX7_readEach_0 2 rfl) rfl (Nat.le_of_ble_eq_true rfl) rfl rfl ?_
  refine x_aload_n (i := 0) (dxX7_readEach_0 3 rfl) rfl rfl ?_
  refine x_dup (dxX7_readEach_0 4 rfl) rfl ?_
  refine gf_7_48 (kd_16 hL) rfl (dxX7_readEach_0 5 rfl) ?_
  refine x_iconst (v := 1) (dxX7_readEach_0 6 rfl) rfl ?_
  refine x_iadd (dxX7_readEach_0 7 rfl) ?_
  refine pf_7_48 (kd_16 hL) (dxX7_readEach_0 8 rfl) ?_
  refine x_sto (fun s3 e4 => ?_)
  replace h := h s3 e4
  have hKs3 : kd s3 = kd σ := by rw [e4]; exact (rfl : kd σ = kd σ)
  have hLs3 : Lay s3 := by rw [e4]; exact hL.si
  have hTs3 : mr s3 16 4 = some 11 := by rw [e4]; exact hT
  refine x_aload_n (i := 0) (dxX7_readEach_0 9 rfl) rfl rfl ?_
  refine gf_7_48 (kd_16 hLs3) rfl (dxX7_readEach_0 10 rfl) ?_
  refine x_topi (fun x5 e6 => ?_)
  replace h := h x5 e6
  refine x_istore_n (i := 2) (dxX7_readEach_0 11 rfl) rfl (Nat.le_of_ble_eq_true rfl) rfl rfl ?_
  refine x_aload_n (i := 0) (dxX7_readEach_0 12 rfl) rfl rfl ?_
  refine cl_7_81 (kd_16 hLs3) (Nat.le_of_ble_eq_true rfl) (dxX7_readEach_0 13 rfl) h (fun s7 h => ?_) (Nat.le_refl _) (Nat.le_refl _)
  obtain ⟨hFs7, h⟩ := h
  have hKs7 : kd s7 = kd σ := hFs7.1.trans hKs3
  have hLs7 : Lay s7 := hLs3.fr hFs7
  have hTs7 : mr s7 16 4 = some 11 := by rw [hFs7.2]; exact hTs3
  refine x_aload_n (i := 0) (dxX7_readEach_0 14 rfl) rfl rfl ?_
  refine x_iconst (v := 0) (dxX7_readEach_0 15 rfl) rfl ?_
  refine cl_7_84 (kd_16 hLs7) (Nat.le_of_ble_eq_true rfl) (dxX7_readEach_0 16 rfl) h (fun v10 s9 h => ?_) (Nat.le_refl _) (Nat.le_refl _)
  obtain ⟨hFs9, h⟩ := h
  have hKs9 : kd s9 = kd σ := hFs9.1.trans hKs7
  have hLs9 : Lay s9 := hLs7.fr hFs9
  have hTs9 : mr s9 16 4 = some 11 := by rw [hFs9.2]; exact hTs7
  refine x_istore_n (i := 3) (dxX7_readEach_0 17 rfl) rfl (Nat.le_of_ble_eq_true rfl) rfl rfl ?_
  refine x_aload_n (i := 0) (dxX7_readEach_0 18 rfl) rfl rfl ?_
  refine x_iconst (v := 0) (dxX7_readEach_0 19 rfl) rfl ?_
  refine cl_7_84 (kd_16 hLs9) (Nat.le_of_ble_eq_true rfl) (dxX7_readEach_0 20 rfl) h (fun v12 s11 h => ?_) (Nat.le_refl _) (Nat.le_refl _)
  obtain ⟨hFs11, h⟩ := h
  have hKs11 : kd s11 = kd σ := hFs11.1.trans hKs9
  have hLs11 : Lay s11 := hLs9.fr hFs11
  have hTs11 : mr s11 16 4 = some 11 := by rw [hFs11.2]; exact hTs9
  refine x_istore (dxX7_readEach_0 21 rfl) (Nat.le_of_ble_eq_true rfl) rfl rfl ?_
  refine x_aload_n (i := 0) (dxX7_readEach_0 22 rfl) rfl rfl ?_
  refine gf_7_35 (kd_16 hLs11) rfl (dxX7_readEach_0 23 rfl) ?_
  refine x_if_eq (tgt := 45) (dxX7_readEach_0 24 rfl) (by decide) (fun hc => ?_) (fun hc => ?_)
  · replace h := h.1 hc
    refine x_aload_n (i := 0) (dxX7_readEach_0 26 rfl) rfl rfl ?_
    refine x_iload_n (i := 2) (dxX7_readEach_0 27 rfl) rfl rfl ?_
    refine cl_7_88 (kd_16 hLs11) (Nat.le_of_ble_eq_true rfl) (dxX7_readEach_0 28 rfl) h (fun v14 s13 h => ?_) (Nat.le_refl _) (Nat.le_refl _)
    obtain ⟨hFs13, h⟩ := h
    have hKs13 : kd s13 = kd σ := hFs13.1.trans hKs11
    have hLs13 : Lay s13 := hLs11.fr hFs13
    have hTs13 : mr s13 16 4 = some 11 := by rw [hFs13.2]; exact hTs11
    refine x_istore (dxX7_readEach_0 29 rfl) (Nat.le_of_ble_eq_true rfl) rfl rfl ?_
    refine x_iload (dxX7_readEach_0 30 rfl) rfl ?_
    refine x_i2l (dxX7_readEach_0 31 rfl) ?_
    refine x_iload_n (i := 3) (dxX7_readEach_1 0 rfl) rfl rfl ?_
    refine x_i2l (dxX7_readEach_1 1 rfl) ?_
    refine x_lsub (dxX7_readEach_1 2 rfl) ?_
    refine x_lconst (v := 1) (dxX7_readEach_1 3 rfl) rfl ?_
    refine x_ladd (dxX7_readEach_1 4 rfl) ?_
    refine x_topl (fun x15 e16 => ?_)
    replace h := h x15 e16
    refine x_lstore (dxX7_readEach_1 5 rfl) (Nat.le_of_ble_eq_true rfl) rfl rfl ?_
    refine x_aload_n (i := 0) (dxX7_readEach_1 6 rfl) rfl rfl ?_
    refine gf_7_44 (kd_16 hLs13) rfl (dxX7_readEach_1 7 rfl) ?_
    refine x_if_eq (tgt := 76) (dxX7_readEach_1 8 rfl) (by decide) (fun hc => ?_) (fun hc => ?_)
    · replace h := h.1 hc
      refine x_aload_n (i := 0) (dxX7_readEach_1 13 rfl) rfl rfl ?_
      refine x_iconst (v := 0) (dxX7_readEach_1 14 rfl) rfl ?_
      refine cl_7_64 (kd_16 hLs13) (Nat.le_of_ble_eq_true rfl) (dxX7_readEach_1 15 rfl) h (fun s17 h => ?_) (Nat.le_refl _) (Nat.le_refl _)
      obtain ⟨hFs17, h⟩ := h
      have hKs17 : kd s17 = kd σ := hFs17.1.trans hKs13
      have hLs17 : Lay s17 := hLs13.fr hFs17
      have hTs17 : mr s17 16 4 = some 11 := by rw [hFs17.2]; exact hTs13
      exact x_vret rfl (dxX7_readEach_1 16 rfl) ⟨rfl, h⟩
    · replace h := h.2 hc
      refine x_lload (dxX7_readEach_1 9 rfl) rfl ?_
      refine x_lconst (v := 0) (dxX7_readEach_1 10 rfl) rfl ?_
      refine x_lcmp (dxX7_readEach_1 11 rfl) ?_
      refine x_if_gt (tgt := 82) (dxX7_readEach_1 12 rfl) (by decide) (fun hc => ?_) (fun hc => ?_)
      · replace h := h.1 hc
        refine x_lload (dxX7_readEach_1 17 rfl) rfl ?_
        refine x_ldc2 (dxX7_readEach_1 18 rfl) gw_856 ?_
        refine x_lcmp (dxX7_readEach_1 19 rfl) ?_
        refine x_if_le (tgt := 98) (dxX7_readEach_1 20 rfl) (by decide) (fun hc => ?_) (fun hc => ?_)
        · replace h := h.1 hc
          refine x_aload_n (i := 0) (dxX7_readEach_1 26 rfl) rfl rfl ?_
          refine gf_7_48 (kd_16 hLs13) rfl (dxX7_readEach_1 27 rfl) ?_
          refine x_topi (fun x19 e20 => ?_)
          replace h := h x19 e20
          refine x_istore (dxX7_readEach_1 28 rfl) (Nat.le_of_ble_eq_true rfl) rfl rfl ?_
          refine x_iconst (v := 0) (dxX7_readEach_1 29 rfl) rfl ?_
          refine x_istore (dxX7_readEach_1 30 rfl) (Nat.le_of_ble_eq_true rfl) rfl rfl ?_
          refine x_mask [true, false, false, true, false, true, true, false, true, true] (L1 := [some (.ref 16), none, none, some (.int v10), none, some (.int v14), some (.long x15), none, some (.int x19), some (.int 0)]) rfl ?_
          exact h
        · replace h := h.2 hc
          refine x_aload_n (i := 0) (dxX7_readEach_1 21 rfl) rfl rfl ?_
          refine x_iload_n (i := 1) (dxX7_readEach_1 22 rfl) rfl rfl ?_
          refine x_iconst (v := 4) (dxX7_readEach_1 23 rfl) rfl ?_
          refine cl_7_77 (kd_16 hLs13) (Nat.le_of_ble_eq_true rfl) (dxX7_readEach_1 24 rfl) h (fun s21 h => ?_) (Nat.le_refl _) (Nat.le_refl _)
          obtain ⟨hFs21, h⟩ := h
          have hKs21 : kd s21 = kd σ := hFs21.1.trans hKs13
          have hLs21 : Lay s21 := hLs13.fr hFs21
          have hTs21 : mr s21 16 4 = some 11 := by rw [hFs21.2]; exact hTs13
          exact x_vret rfl (dxX7_readEach_1 25 rfl) ⟨rfl, h⟩
      · replace h := h.2 hc
        refine x_aload_n (i := 0) (dxX7_readEach_1 13 rfl) rfl rfl ?_
        refine x_iconst (v := 0) (dxX7_readEach_1 14 rfl) rfl ?_
        refine cl_7_64 (kd_16 hLs13) (Nat.le_of_ble_eq_true rfl) (dxX7_readEach_1 15 rfl) h (fun s23 h => ?_) (Nat.le_refl _) (Nat.le_refl _)
        obtain ⟨hFs23, h⟩ := h
        have hKs23 : kd s23 = kd σ := hFs23.1.trans hKs13
        have hLs23 : Lay s23 := hLs13.fr hFs23
        have hTs23 : mr s23 16 4 = some 11 := by rw [hFs23.2]; exact hTs13
        exact x_vret rfl (dxX7_readEach_1 16 rfl) ⟨rfl, h⟩
  · replace h := h.2 hc
    exact x_vret rfl (dxX7_readEach_0 25 rfl) ⟨rfl, h⟩
theorem vcX7_readEach_107 {g : GV} {d : Nat} {P : PS → Prop} {σ : PS} (hL : Lay σ) (hT : mr σ 16 4 = some 11) (l3 : Int32) (l5 : Int32) (l6 : Int64) (l8 : Int32) (l9 : Int32) (h : (0 ≤ (lg_cmp (Int32.toInt64 l9) l6) → P σ) ∧ (¬ 0 ≤ (lg_cmp (Int32.toInt64 l9) l6) → (¬ (mi σ 16 6) = 0 → P σ) ∧ ((mi σ 16 6) = 0 → ∀ s25 : PS, s25 = si σ 16 5 l8 → vp_in l5 8 ∧ ∀ s28 : PS, s28 = si s25 19 (Int32.toNatClampNeg l5) (l3 + l9) → CX7_readStep g d [.ref 16, .int 1] s28 (fun (s30 : PS) => Fr s28 s30 ∧ ∀ x32 : Int32, x32 = l9 + 1 → VX7_readEach g (d + 1) P 107 [some (.ref 16), none, none, some (.int l3), none, some (.int l5), some (.long l6), none, some (.int l8), some (.int x32)] [] s30)))) : VX7_readEach g (d + 1) P 107 [some (.ref 16), none, none, some (.int l3), none, some (.int l5), some (.long l6), none, some (.int l8), some (.int l9)] [] σ := by
  refine x_iload (dxX7_readEach_1 31 rfl) rfl ?_
  refine x_i2l (dxX7_readEach_2 0 rfl) ?_
  refine x_lload (dxX7_readEach_2 1 rfl) rfl ?_
  refine x_lcmp (dxX7_readEach_2 2 rfl) ?_
  refine x_if_ge (tgt := 151) (dxX7_readEach_2 3 rfl) (by decide) (fun hc => ?_) (fun hc => ?_)
  · replace h := h.1 hc
    exact x_vret rfl (dxX7_readEach_2 22 rfl) ⟨rfl, h⟩
  · replace h := h.2 hc
    refine x_aload_n (i := 0) (dxX7_readEach_2 4 rfl) rfl rfl ?_
    refine gf_7_35 (kd_16 hL) rfl (dxX7_readEach_2 5 rfl) ?_
    refine x_if_ne (tgt := 151) (dxX7_readEach_2 6 rfl) (by decide) (fun hc => ?_) (fun hc => ?_)
    · replace h := h.1 hc
      exact x_vret rfl (dxX7_readEach_2 22 rfl) ⟨rfl, h⟩
    · replace h := h.2 hc
      refine x_aload_n (i := 0) (dxX7_readEach_2 7 rfl) rfl rfl ?_
      refine x_iload (dxX7_readEach_2 8 rfl) rfl ?_
      refine pf_7_48 (kd_16 hL) (dxX7_readEach_2 9 rfl) ?_
      refine x_sto (fun s25 e26 => ?_)
      replace h := h s25 e26
      have hKs25 : kd s25 = kd σ := by rw [e26]; exact (rfl : kd σ = kd σ)
      have hLs25 : Lay s25 := by rw [e26]; exact hL.si
      have hTs25 : mr s25 16 4 = some 11 := by rw [e26]; exact hT
      refine x_aload_n (i := 0) (dxX7_readEach_2 10 rfl) rfl rfl ?_
      refine gf_7_19 (kd_16 hLs25) (rv_16_2 hLs25) (dxX7_readEach_2 11 rfl) ?_
      refine x_iload (dxX7_readEach_2 12 rfl) rfl ?_
      refine x_iload_n (i := 3) (dxX7_readEach_2 13 rfl) rfl rfl ?_
      refine x_iload (dxX7_readEach_2 14 rfl) rfl ?_
      refine x_iadd (dxX7_readEach_2 15 rfl) ?_
      obtain ⟨hi27, h⟩ := h
      refine x_iast (kd_19 hLs25) hi27 (dxX7_readEach_2 16 rfl) ?_
      refine x_sto (fun s28 e29 => ?_)
      replace h := h s28 e29
      have hKs28 : kd s28 = kd σ := by rw [e29]; exact hKs25
      have hLs28 : Lay s28 := by rw [e29]; exact hLs25.si
      have hTs28 : mr s28 16 4 = some 11 := by rw [e29]; exact hTs25
      refine x_aload_n (i := 0) (dxX7_readEach_2 17 rfl) rfl rfl ?_
      refine x_iconst (v := 1) (dxX7_readEach_2 18 rfl) rfl ?_
      refine cl_7_64 (kd_16 hLs28) (Nat.le_of_ble_eq_true rfl) (dxX7_readEach_2 19 rfl) h (fun s30 h => ?_) (Nat.le_refl _) (Nat.le_refl _)
      obtain ⟨hFs30, h⟩ := h
      have hKs30 : kd s30 = kd σ := hFs30.1.trans hKs28
      have hLs30 : Lay s30 := hLs28.fr hFs30
      have hTs30 : mr s30 16 4 = some 11 := by rw [hFs30.2]; exact hTs28
      obtain ⟨x32, e33⟩ : ∃ y : Int32, y = l9 + 1 := ⟨_, rfl⟩
      replace h := h x32 e33
      refine x_iinc (v := x32) (dxX7_readEach_2 20 rfl) (i := 9) rfl (by rw [e33]; rfl) (Nat.le_of_ble_eq_true rfl) rfl rfl ?_
      refine x_goto (tgt := 107) (dxX7_readEach_2 21 rfl) (by decide) ?_
      exact h
theorem vcX7_readNewName {g : GV} {d : Nat} {P : PS → Prop} {σ : PS} (hL : Lay σ) (hT : mr σ 16 4 = some 11)  (h : ((mi σ 16 6) = 0 → CX7_kind g d [.ref 16] σ (fun (v2 : Int32) (s1 : PS) => Fr σ s1 ∧ (v2 = 3 → CX7_slotOf g d [.ref 16, .int (mi s1 16 5)] s1 (fun (v4 : Int32) (s3 : PS) => Fr s1 s3 ∧ (¬ v4 = (-1) → ∀ s5 : PS, s5 = si s3 16 5 ((mi s3 16 5) + 1) → P s5) ∧ (v4 = (-1) → (¬ (mi s3 16 3) = 8 → ∀ s7 : PS, s7 = si s3 16 5 ((mi s3 16 5) + 1) → P s7) ∧ ((mi s3 16 3) = 8 → CX7_fail g d [.ref 16, .int (mi s3 16 5), .int 5] s3 (fun (s9 : PS) => Fr s3 s9 ∧ P s9))))) ∧ (¬ v2 = 3 → CX7_fail g d [.ref 16, .int (mi s1 16 5), .int 1] s1 (fun (s11 : PS) => Fr s1 s11 ∧ P s11)))) ∧ (¬ (mi σ 16 6) = 0 → P σ)) : CX7_readNewName g (d + 1) [.ref 16] σ P := by
  refine x_entry (L := [some (.ref 16)]) pn_7 (Nat.le_of_ble_eq_true rfl) ⟨0, rfl⟩ ?_
  show VX7_readNewName g (d + 1) P 0 [some (.ref 16)] [] σ
  refine x_aload_n (i := 0) (dxX7_readNewName_0 0 rfl) rfl rfl ?_
  refine gf_7_35 (kd_16 hL) rfl (dxX7_readNewName_0 1 rfl) ?_
  refine x_if_eq (tgt := 8) (dxX7_readNewName_0 2 rfl) (by decide) (fun hc => ?_) (fun hc => ?_)
  · replace h := h.1 hc
    refine x_aload_n (i := 0) (dxX7_readNewName_0 4 rfl) rfl rfl ?_
    refine cl_7_54 (kd_16 hL) (Nat.le_of_ble_eq_true rfl) (dxX7_readNewName_0 5 rfl) h (fun v2 s1 h => ?_) (Nat.le_refl _) (Nat.le_refl _)
    obtain ⟨hFs1, h⟩ := h
    have hKs1 : kd s1 = kd σ := hFs1.1.trans (rfl : kd σ = kd σ)
    have hLs1 : Lay s1 := hL.fr hFs1
    have hTs1 : mr s1 16 4 = some 11 := by rw [hFs1.2]; exact hT
    refine x_iconst (v := 3) (dxX7_readNewName_0 6 rfl) rfl ?_
    refine x_icmp_eq (tgt := 28) (dxX7_readNewName_0 7 rfl) (by decide) (fun hc => ?_) (fun hc => ?_)
    · replace h := h.1 hc
      refine x_aload_n (i := 0) (dxX7_readNewName_0 14 rfl) rfl rfl ?_
      refine x_aload_n (i := 0) (dxX7_readNewName_0 15 rfl) rfl rfl ?_
      refine gf_7_48 (kd_16 hLs1) rfl (dxX7_readNewName_0 16 rfl) ?_
      refine cl_7_93 (kd_16 hLs1) (Nat.le_of_ble_eq_true rfl) (dxX7_readNewName_0 17 rfl) h (fun v4 s3 h => ?_) (Nat.le_refl _) (Nat.le_refl _)
      obtain ⟨hFs3, h⟩ := h
      have hKs3 : kd s3 = kd σ := hFs3.1.trans hKs1
      have hLs3 : Lay s3 := hLs1.fr hFs3
      have hTs3 : mr s3 16 4 = some 11 := by rw [hFs3.2]; exact hTs1
      refine x_iconst (v := (-1)) (dxX7_readNewName_0 18 rfl) rfl ?_
      refine x_icmp_ne (tgt := 61) (dxX7_readNewName_0 19 rfl) (by decide) (fun hc => ?_) (fun hc => ?_)
      · replace h := h.1 hc
        refine x_aload_n (i := 0) (dxX7_readNewName_0 30 rfl) rfl rfl ?_
        refine x_dup (dxX7_readNewName_0 31 rfl) rfl ?_
        refine gf_7_48 (kd_16 hLs3) rfl (dxX7_readNewName_1 0 rfl) ?_
        refine x_iconst (v := 1) (dxX7_readNewName_1 1 rfl) rfl ?_
        refine x_iadd (dxX7_readNewName_1 2 rfl) ?_
        refine pf_7_48 (kd_16 hLs3) (dxX7_readNewName_1 3 rfl) ?_
        refine x_sto (fun s5 e6 => ?_)
        replace h := h s5 e6
        have hKs5 : kd s5 = kd σ := by rw [e6]; exact hKs3
        have hLs5 : Lay s5 := by rw [e6]; exact hLs3.si
        have hTs5 : mr s5 16 4 = some 11 := by rw [e6]; exact hTs3
        exact x_vret rfl (dxX7_readNewName_1 4 rfl) ⟨rfl, h⟩
      · replace h := h.2 hc
        refine x_aload_n (i := 0) (dxX7_readNewName_0 20 rfl) rfl rfl ?_
        refine gf_7_31 (kd_16 hLs3) rfl (dxX7_readNewName_0 21 rfl) ?_
        refine x_bipush (v := 8) (dxX7_readNewName_0 22 rfl) rfl ?_
        refine x_icmp_ne (tgt := 61) (dxX7_readNewName_0 23 rfl) (by decide) (fun hc => ?_) (fun hc => ?_)
        · replace h := h.1 hc
          refine x_aload_n (i := 0) (dxX7_readNewName_0 30 rfl) rfl rfl ?_
          refine x_dup (dxX7_readNewName_0 31 rfl) rfl ?_
          refine gf_7_48 (kd_16 hLs3) rfl (dxX7_readNewName_1 0 rfl) ?_
          refine x_iconst (v := 1) (dxX7_readNewName_1 1 rfl) rfl ?_
          refine x_iadd (dxX7_readNewName_1 2 rfl) ?_
          refine pf_7_48 (kd_16 hLs3) (dxX7_readNewName_1 3 rfl) ?_
          refine x_sto (fun s7 e8 => ?_)
          replace h := h s7 e8
          have hKs7 : kd s7 = kd σ := by rw [e8]; exact hKs3
          have hLs7 : Lay s7 := by rw [e8]; exact hLs3.si
          have hTs7 : mr s7 16 4 = some 11 := by rw [e8]; exact hTs3
          exact x_vret rfl (dxX7_readNewName_1 4 rfl) ⟨rfl, h⟩
        · replace h := h.2 hc
          refine x_aload_n (i := 0) (dxX7_readNewName_0 24 rfl) rfl rfl ?_
          refine x_aload_n (i := 0) (dxX7_readNewName_0 25 rfl) rfl rfl ?_
          refine gf_7_48 (kd_16 hLs3) rfl (dxX7_readNewName_0 26 rfl) ?_
          refine x_iconst (v := 5) (dxX7_readNewName_0 27 rfl) rfl ?_
          refine cl_7_77 (kd_16 hLs3) (Nat.le_of_ble_eq_true rfl) (dxX7_readNewName_0 28 rfl) h (fun s9 h => ?_) (Nat.le_refl _) (Nat.le_refl _)
          obtain ⟨hFs9, h⟩ := h
          have hKs9 : kd s9 = kd σ := hFs9.1.trans hKs3
          have hLs9 : Lay s9 := hLs3.fr hFs9
          have hTs9 : mr s9 16 4 = some 11 := by rw [hFs9.2]; exact hTs3
          refine x_goto (tgt := 71) (dxX7_readNewName_0 29 rfl) (by decide) ?_
          exact x_vret rfl (dxX7_readNewName_1 4 rfl) ⟨rfl, h⟩
    · replace h := h.2 hc
      refine x_aload_n (i := 0) (dxX7_readNewName_0 8 rfl) rfl rfl ?_
      refine x_aload_n (i := 0) (dxX7_readNewName_0 9 rfl) rfl rfl ?_
      refine gf_7_48 (kd_16 hLs1) rfl (dxX7_readNewName_0 10 rfl) ?_
      refine x_iconst (v := 1) (dxX7_readNewName_0 11 rfl) rfl ?_
      refine cl_7_77 (kd_16 hLs1) (Nat.le_of_ble_eq_true rfl) (dxX7_readNewName_0 12 rfl) h (fun s11 h => ?_) (Nat.le_refl _) (Nat.le_refl _)
      obtain ⟨hFs11, h⟩ := h
      have hKs11 : kd s11 = kd σ := hFs11.1.trans hKs1
      have hLs11 : Lay s11 := hLs1.fr hFs11
      have hTs11 : mr s11 16 4 = some 11 := by rw [hFs11.2]; exact hTs1
      refine x_goto (tgt := 71) (dxX7_readNewName_0 13 rfl) (by decide) ?_
      exact x_vret rfl (dxX7_readNewName_1 4 rfl) ⟨rfl, h⟩
  · replace h := h.2 hc
    exact x_vret rfl (dxX7_readNewName_0 3 rfl) ⟨rfl, h⟩
theorem vcX7_slotOf {g : GV} {d : Nat} {P : Int32 → PS → Prop} {σ : PS} (hL : Lay σ) (hT : mr σ 16 4 = some 11) (p0 : Int32) (h : VX7_slotOf g d P 2 [some (.ref 16), some (.int p0), some (.int 0)] [] σ) : CX7_slotOf g d [.ref 16, .int p0] σ P := by
  refine x_entry (L := [some (.ref 16), some (.int p0), none]) pn_7 (Nat.le_of_ble_eq_true rfl) ⟨1, rfl⟩ ?_
  show VX7_slotOf g d P 0 [some (.ref 16), some (.int p0), none] [] σ
  refine x_iconst (v := 0) (dxX7_slotOf_0 0 rfl) rfl ?_
  refine x_istore_n (i := 2) (dxX7_slotOf_0 1 rfl) rfl (Nat.le_of_ble_eq_true rfl) rfl rfl ?_
  exact h
theorem vcX7_slotOf_2 {g : GV} {d : Nat} {P : Int32 → PS → Prop} {σ : PS} (hL : Lay σ) (hT : mr σ 16 4 = some 11) (l1 : Int32) (l2 : Int32) (h : ((mi σ 16 3) ≤ l2 → P (-1) σ) ∧ (¬ (mi σ 16 3) ≤ l2 → vp_in l2 8 ∧ vp_in l1 1001 ∧ (¬ (lg_cmp (ml σ 18 (Int32.toNatClampNeg l2)) (ml σ 15 (Int32.toNatClampNeg l1))) = 0 → ∀ x3 : Int32, x3 = l2 + 1 → VX7_slotOf g d P 2 [some (.ref 16), some (.int l1), some (.int x3)] [] σ) ∧ ((lg_cmp (ml σ 18 (Int32.toNatClampNeg l2)) (ml σ 15 (Int32.toNatClampNeg l1))) = 0 → P l2 σ))) : VX7_slotOf g d P 2 [some (.ref 16), some (.int l1), some (.int l2)] [] σ := by
  refine x_iload_n (i := 2) (dxX7_slotOf_0 2 rfl) rfl rfl ?_
  refine x_aload_n (i := 0) (dxX7_slotOf_0 3 rfl) rfl rfl ?_
  refine gf_7_31 (kd_16 hL) rfl (dxX7_slotOf_0 4 rfl) ?_
  refine x_icmp_ge (tgt := 37) (dxX7_slotOf_0 5 rfl) (by decide) (fun hc => ?_) (fun hc => ?_)
  · replace h := h.1 hc
    refine x_iconst (v := (-1)) (dxX7_slotOf_0 21 rfl) rfl ?_
    exact x_iret (ty := .int) rfl rfl (dxX7_slotOf_0 22 rfl) ⟨_, rfl, h⟩
  · replace h := h.2 hc
    refine x_aload_n (i := 0) (dxX7_slotOf_0 6 rfl) rfl rfl ?_
    refine gf_7_15 (kd_16 hL) (rv_16_1 hL) (dxX7_slotOf_0 7 rfl) ?_
    refine x_iload_n (i := 2) (dxX7_slotOf_0 8 rfl) rfl rfl ?_
    obtain ⟨hi1, h⟩ := h
    refine x_lald (kd_18 hL) hi1 (dxX7_slotOf_0 9 rfl) ?_
    refine x_aload_n (i := 0) (dxX7_slotOf_0 10 rfl) rfl rfl ?_
    refine gf_7_22 (kd_16 hL) (rv_text hT) (dxX7_slotOf_0 11 rfl) ?_
    refine gf_7_96 (kd_11 hL) (rv_11_4 hL) (dxX7_slotOf_0 12 rfl) ?_
    refine x_iload_n (i := 1) (dxX7_slotOf_0 13 rfl) rfl rfl ?_
    obtain ⟨hi2, h⟩ := h
    refine x_lald (kd_15 hL) hi2 (dxX7_slotOf_0 14 rfl) ?_
    refine x_lcmp (dxX7_slotOf_0 15 rfl) ?_
    refine x_if_ne (tgt := 31) (dxX7_slotOf_0 16 rfl) (by decide) (fun hc => ?_) (fun hc => ?_)
    · replace h := h.1 hc
      obtain ⟨x3, e4⟩ : ∃ y : Int32, y = l2 + 1 := ⟨_, rfl⟩
      replace h := h x3 e4
      refine x_iinc (v := x3) (dxX7_slotOf_0 19 rfl) (i := 2) rfl (by rw [e4]; rfl) (Nat.le_of_ble_eq_true rfl) rfl rfl ?_
      refine x_goto (tgt := 2) (dxX7_slotOf_0 20 rfl) (by decide) ?_
      exact h
    · replace h := h.2 hc
      refine x_iload_n (i := 2) (dxX7_slotOf_0 17 rfl) rfl rfl ?_
      exact x_iret (ty := .int) rfl rfl (dxX7_slotOf_0 18 rfl) ⟨_, rfl, h⟩
theorem vcX7_tellName {g : GV} {d : Nat} {P : Int32 → PS → Prop} {σ : PS} (hL : Lay σ) (hT : mr σ 16 4 = some 11) (p0 : Int32) (h : CX7_slotOf g d [.ref 16, .int p0] σ (fun (v2 : Int32) (s1 : PS) => Fr σ s1 ∧ (¬ v2 = (-1) → P (jmax v2 0) s1) ∧ (v2 = (-1) → ((mi s1 16 3) < 8 → vp_in p0 1001 ∧ vp_in (mi s1 16 3) 8 ∧ ∀ s5 : PS, s5 = sj s1 18 (Int32.toNatClampNeg (mi s1 16 3)) (ml s1 15 (Int32.toNatClampNeg p0)) → ∀ s7 : PS, s7 = si s5 16 3 ((mi s5 16 3) + 1) → P ((mi s7 16 3) - 1) s7) ∧ (¬ (mi s1 16 3) < 8 → P (jmax v2 0) s1)))) : CX7_tellName g (d + 1) [.ref 16, .int p0] σ P := by
  refine x_entry (L := [some (.ref 16), some (.int p0), none]) pn_7 (Nat.le_of_ble_eq_true rfl) ⟨1, rfl⟩ ?_
  show VX7_tellName g (d + 1) P 0 [some (.ref 16), some (.int p0), none] [] σ
  refine x_aload_n (i := 0) (dxX7_tellName_0 0 rfl) rfl rfl ?_
  refine x_iload_n (i := 1) (dxX7_tellName_0 1 rfl) rfl rfl ?_
  refine cl_7_93 (kd_16 hL) (Nat.le_of_ble_eq_true rfl) (dxX7_tellName_0 2 rfl) h (fun v2 s1 h => ?_) (Nat.le_refl _) (Nat.le_refl _)
  obtain ⟨hFs1, h⟩ := h
  have hKs1 : kd s1 = kd σ := hFs1.1.trans (rfl : kd σ = kd σ)
  have hLs1 : Lay s1 := hL.fr hFs1
  have hTs1 : mr s1 16 4 = some 11 := by rw [hFs1.2]; exact hT
  refine x_istore_n (i := 2) (dxX7_tellName_0 3 rfl) rfl (Nat.le_of_ble_eq_true rfl) rfl rfl ?_
  refine x_iload_n (i := 2) (dxX7_tellName_0 4 rfl) rfl rfl ?_
  refine x_iconst (v := (-1)) (dxX7_tellName_0 5 rfl) rfl ?_
  refine x_icmp_ne (tgt := 20) (dxX7_tellName_0 6 rfl) (by decide) (fun hc => ?_) (fun hc => ?_)
  · replace h := h.1 hc
    refine x_iload_n (i := 2) (dxX7_tellName_0 11 rfl) rfl rfl ?_
    refine x_iconst (v := 0) (dxX7_tellName_0 12 rfl) rfl ?_
    refine cl_7_99 (Nat.le_of_ble_eq_true rfl) (dxX7_tellName_0 13 rfl) ?_
    exact x_iret (ty := .int) rfl rfl (dxX7_tellName_0 14 rfl) ⟨_, rfl, h⟩
  · replace h := h.2 hc
    refine x_aload_n (i := 0) (dxX7_tellName_0 7 rfl) rfl rfl ?_
    refine gf_7_31 (kd_16 hLs1) rfl (dxX7_tellName_0 8 rfl) ?_
    refine x_bipush (v := 8) (dxX7_tellName_0 9 rfl) rfl ?_
    refine x_icmp_lt (tgt := 26) (dxX7_tellName_0 10 rfl) (by decide) (fun hc => ?_) (fun hc => ?_)
    · replace h := h.1 hc
      refine x_aload_n (i := 0) (dxX7_tellName_0 15 rfl) rfl rfl ?_
      refine gf_7_15 (kd_16 hLs1) (rv_16_1 hLs1) (dxX7_tellName_0 16 rfl) ?_
      refine x_aload_n (i := 0) (dxX7_tellName_0 17 rfl) rfl rfl ?_
      refine gf_7_31 (kd_16 hLs1) rfl (dxX7_tellName_0 18 rfl) ?_
      refine x_aload_n (i := 0) (dxX7_tellName_0 19 rfl) rfl rfl ?_
      refine gf_7_22 (kd_16 hLs1) (rv_text hTs1) (dxX7_tellName_0 20 rfl) ?_
      refine gf_7_96 (kd_11 hLs1) (rv_11_4 hLs1) (dxX7_tellName_0 21 rfl) ?_
      refine x_iload_n (i := 1) (dxX7_tellName_0 22 rfl) rfl rfl ?_
      obtain ⟨hi3, h⟩ := h
      refine x_lald (kd_15 hLs1) hi3 (dxX7_tellName_0 23 rfl) ?_
      obtain ⟨hi4, h⟩ := h
      refine x_last (kd_18 hLs1) hi4 (dxX7_tellName_0 24 rfl) ?_
      refine x_sto (fun s5 e6 => ?_)
      replace h := h s5 e6
      have hKs5 : kd s5 = kd σ := by rw [e6]; exact hKs1
      have hLs5 : Lay s5 := by rw [e6]; exact hLs1.sj
      have hTs5 : mr s5 16 4 = some 11 := by rw [e6]; exact hTs1
      refine x_aload_n (i := 0) (dxX7_tellName_0 25 rfl) rfl rfl ?_
      refine x_dup (dxX7_tellName_0 26 rfl) rfl ?_
      refine gf_7_31 (kd_16 hLs5) rfl (dxX7_tellName_0 27 rfl) ?_
      refine x_iconst (v := 1) (dxX7_tellName_0 28 rfl) rfl ?_
      refine x_iadd (dxX7_tellName_0 29 rfl) ?_
      refine pf_7_31 (kd_16 hLs5) (dxX7_tellName_0 30 rfl) ?_
      refine x_sto (fun s7 e8 => ?_)
      replace h := h s7 e8
      have hKs7 : kd s7 = kd σ := by rw [e8]; exact hKs5
      have hLs7 : Lay s7 := by rw [e8]; exact hLs5.si
      have hTs7 : mr s7 16 4 = some 11 := by rw [e8]; exact hTs5
      refine x_aload_n (i := 0) (dxX7_tellName_0 31 rfl) rfl rfl ?_
      refine gf_7_31 (kd_16 hLs7) rfl (dxX7_tellName_1 0 rfl) ?_
      refine x_iconst (v := 1) (dxX7_tellName_1 1 rfl) rfl ?_
      refine x_isub (dxX7_tellName_1 2 rfl) ?_
      exact x_iret (ty := .int) rfl rfl (dxX7_tellName_1 3 rfl) ⟨_, rfl, h⟩
    · replace h := h.2 hc
      refine x_iload_n (i := 2) (dxX7_tellName_0 11 rfl) rfl rfl ?_
      refine x_iconst (v := 0) (dxX7_tellName_0 12 rfl) rfl ?_
      refine cl_7_99 (Nat.le_of_ble_eq_true rfl) (dxX7_tellName_0 13 rfl) ?_
      exact x_iret (ty := .int) rfl rfl (dxX7_tellName_0 14 rfl) ⟨_, rfl, h⟩
theorem vcX7_readStep {g : GV} {d : Nat} {P : PS → Prop} {σ : PS} (hL : Lay σ) (hT : mr σ 16 4 = some 11) (p0 : Int32) (h : ∀ x1 : Int32, x1 = mi σ 16 5 → CX7_kind g d [.ref 16] σ (fun (v4 : Int32) (s3 : PS) => Fr σ s3 ∧ ((mi s3 16 6) = 0 → (v4 = 4 → ∀ s5 : PS, s5 = si s3 16 5 ((mi s3 16 5) + 1) → CX7_sum g d [.ref 16, .int 0] s5 (fun (v8 : Int32) (s7 : PS) => Fr s5 s7 ∧ CX7_sum g d [.ref 16, .int 0] s7 (fun (v10 : Int32) (s9 : PS) => Fr s7 s9 ∧ (¬ v4 = 5 → (¬ v4 = 5 → VX7_readStep g (d + 1) P 98 [some (.ref 16), some (.int p0), some (.int x1), some (.int v4), some (.int v8), some (.int v10), some (.int 1), none] [.int 1] s9) ∧ (v4 = 5 → CX7_sum g d [.ref 16, .int 0] s9 (fun (v12 : Int32) (s11 : PS) => Fr s9 s11 ∧ VX7_readStep g (d + 1) P 98 [some (.ref 16), some (.int p0), some (.int x1), some (.int v4), some (.int v8), some (.int v10), some (.int 1), none] [.int v12] s11))) ∧ (v4 = 5 → CX7_sum g d [.ref 16, .int 0] s9 (fun (v14 : Int32) (s13 : PS) => Fr s9 s13 ∧ (¬ v4 = 5 → VX7_readStep g (d + 1) P 98 [some (.ref 16), some (.int p0), some (.int x1), some (.int v4), some (.int v8), some (.int v10), some (.int v14), none] [.int 1] s13) ∧ (v4 = 5 → CX7_sum g d [.ref 16, .int 0] s13 (fun (v16 : Int32) (s15 : PS) => Fr s13 s15 ∧ VX7_readStep g (d + 1) P 98 [some (.ref 16), some (.int p0), some (.int x1), some (.int v4), some (.int v8), some (.int v10), some (.int v14), none] [.int v16] s15))))))) ∧ (¬ v4 = 4 → (v4 = 5 → ∀ s17 : PS, s17 = si s3 16 5 ((mi s3 16 5) + 1) → CX7_sum g d [.ref 16, .int 0] s17 (fun (v20 : Int32) (s19 : PS) => Fr s17 s19 ∧ CX7_sum g d [.ref 16, .int 0] s19 (fun (v22 : Int32) (s21 : PS) => Fr s19 s21 ∧ (¬ v4 = 5 → (¬ v4 = 5 → VX7_readStep g (d + 1) P 98 [some (.ref 16), some (.int p0), some (.int x1), some (.int v4), some (.int v20), some (.int v22), some (.int 1), none] [.int 1] s21) ∧ (v4 = 5 → CX7_sum g d [.ref 16, .int 0] s21 (fun (v24 : Int32) (s23 : PS) => Fr s21 s23 ∧ VX7_readStep g (d + 1) P 98 [some (.ref 16), some (.int p0), some (.int x1), some (.int v4), some (.int v20), some (.int v22), some (.int 1), none] [.int v24] s23))) ∧ (v4 = 5 → CX7_sum g d [.ref 16, .int 0] s21 (fun (v26 : Int32) (s25 : PS) => Fr s21 s25 ∧ (¬ v4 = 5 → VX7_readStep g (d + 1) P 98 [some (.ref 16), some (.int p0), some (.int x1), some (.int v4), some (.int v20), some (.int v22), some (.int v26), none] [.int 1] s25) ∧ (v4 = 5 → CX7_sum g d [.ref 16, .int 0] s25 (fun (v28 : Int32) (s27 : PS) => Fr s25 s27 ∧ VX7_readStep g (d + 1) P 98 [some (.ref 16), some (.int p0), some (.int x1), some (.int v4), some (.int v20), some (.int v22), some (.int v26), none] [.int v28] s27))))))) ∧ (¬ v4 = 5 → (v4 = 6 → ∀ s29 : PS, s29 = si s3 16 5 ((mi s3 16 5) + 1) → CX7_sum g d [.ref 16, .int 0] s29 (fun (v32 : Int32) (s31 : PS) => Fr s29 s31 ∧ CX7_sum g d [.ref 16, .int 0] s31 (fun (v34 : Int32) (s33 : PS) => Fr s31 s33 ∧ (¬ v4 = 5 → (¬ v4 = 5 → VX7_readStep g (d + 1) P 98 [some (.ref 16), some (.int p0), some (.int x1), some (.int v4), some (.int v32), some (.int v34), some (.int 1), none] [.int 1] s33) ∧ (v4 = 5 → CX7_sum g d [.ref 16, .int 0] s33 (fun (v36 : Int32) (s35 : PS) => Fr s33 s35 ∧ VX7_readStep g (d + 1) P 98 [some (.ref 16), some (.int p0), some (.int x1), some (.int v4), some (.int v32), some (.int v34), some (.int 1), none] [.int v36] s35))) ∧ (v4 = 5 → CX7_sum g d [.ref 16, .int 0] s33 (fun (v38 : Int32) (s37 : PS) => Fr s33 s37 ∧ (¬ v4 = 5 → VX7_readStep g (d + 1) P 98 [some (.ref 16), some (.int p0), some (.int x1), some (.int v4), some (.int v32), some (.int v34), some (.int v38), none] [.int 1] s37) ∧ (v4 = 5 → CX7_sum g d [.ref 16, .int 0] s37 (fun (v40 : Int32) (s39 : PS) => Fr s37 s39 ∧ VX7_readStep g (d + 1) P 98 [some (.ref 16), some (.int p0), some (.int x1), some (.int v4), some (.int v32), some (.int v34), some (.int v38), none] [.int v40] s39))))))) ∧ (¬ v4 = 6 → CX7_fail g d [.ref 16, .int (mi s3 16 5), .int 1] s3 (fun (s41 : PS) => Fr s3 s41 ∧ P s41))))) ∧ (¬ (mi s3 16 6) = 0 → P s3))) : CX7_readStep g (d + 1) [.ref 16, .int p0] σ P := by
  refine x_entry (L := [some (.ref 16), some (.int p0), none, none, none, none, none, none]) pn_7 (Nat.le_of_ble_eq_true rfl) ⟨6, rfl⟩ ?_
  show VX7_readStep g (d + 1) P 0 [some (.ref 16), some (.int p0), none, none, none, none, none, none] [] σ
  refine x_aload_n (i := 0) (dxX7_readStep_0 0 rfl) rfl rfl ?_
  refine gf_7_48 (kd_16 hL) rfl (dxX7_readStep_0 1 rfl) ?_
  refine x_topi (fun x1 e2 => ?_)
  replace h := h x1 e2
  refine x_istore_n (i := 2) (dxX7_readStep_0 2 rfl) rfl (Nat.le_of_ble_eq_true rfl) rfl rfl ?_
  refine x_aload_n (i := 0) (dxX7_readStep_0 3 rfl) rfl rfl ?_
  refine cl_7_54 (kd_16 hL) (Nat.le_of_ble_eq_true rfl) (dxX7_readStep_0 4 rfl) h (fun v4 s3 h => ?_) (Nat.le_refl _) (Nat.le_refl _)
  obtain ⟨hFs3, h⟩ := h
  have hKs3 : kd s3 = kd σ := hFs3.1.trans (rfl : kd σ = kd σ)
  have hLs3 : Lay s3 := hL.fr hFs3
  have hTs3 : mr s3 16 4 = some 11 := by rw [hFs3.2]; exact hT
  refine x_istore_n (i := 3) (dxX7_readStep_0 5 rfl) rfl (Nat.le_of_ble_eq_true rfl) rfl rfl ?_
  refine x_aload_n (i := 0) (dxX7_readStep_0 6 rfl) rfl rfl ?_
  refine gf_7_35 (kd_16 hLs3) rfl (dxX7_readStep_0 7 rfl) ?_
  refine x_if_eq (tgt := 18) (dxX7_readStep_0 8 rfl) (by decide) (fun hc => ?_) (fun hc => ?_)
  · replace h := h.1 hc
    refine x_iload_n (i := 3) (dxX7_readStep_0 10 rfl) rfl rfl ?_
    refine x_iconst (v := 4) (dxX7_readStep_0 11 rfl) rfl ?_
    refine x_icmp_eq (tgt := 44) (dxX7_readStep_0 12 rfl) (by decide) (fun hc => ?_) (fun hc => ?_)
    · replace h := h.1 hc
      refine x_aload_n (i := 0) (dxX7_readStep_0 25 rfl) rfl rfl ?_
      refine x_dup (dxX7_readStep_0 26 rfl) rfl ?_
      refine gf_7_48 (kd_16 hLs3) rfl (dxX7_readStep_0 27 rfl) ?_
      refine x_iconst (v := 1) (dxX7_readStep_0 28 rfl) rfl ?_
      refine x_iadd (dxX7_readStep_0 29 rfl) ?_
      refine pf_7_48 (kd_16 hLs3) (dxX7_readStep_0 30 rfl) ?_
      refine x_sto (fun s5 e6 => ?_)
      replace h := h s5 e6
      have hKs5 : kd s5 = kd σ := by rw [e6]; exact hKs3
      have hLs5 : Lay s5 := by rw [e6]; exact hLs3.si
      have hTs5 : mr s5 16 4 = some 11 := by rw [e6]; exact hTs3
      refine x_aload_n (i := 0) (dxX7_readStep_0 31 rfl) rfl rfl ?_
      refine x_iconst (v := 0) (dxX7_readStep_1 0 rfl) rfl ?_
      refine cl_7_84 (kd_16 hLs5) (Nat.le_of_ble_eq_true rfl) (dxX7_readStep_1 1 rfl) h (fun v8 s7 h => ?_) (Nat.le_refl _) (Nat.le_refl _)
      obtain ⟨hFs7, h⟩ := h
      have hKs7 : kd s7 = kd σ := hFs7.1.trans hKs5
      have hLs7 : Lay s7 := hLs5.fr hFs7
      have hTs7 : mr s7 16 4 = some 11 := by rw [hFs7.2]; exact hTs5
      refine x_istore (dxX7_readStep_1 2 rfl) (Nat.le_of_ble_eq_true rfl) rfl rfl ?_
      refine x_aload_n (i := 0) (dxX7_readStep_1 3 rfl) rfl rfl ?_
      refine x_iconst (v := 0) (dxX7_readStep_1 4 rfl) rfl ?_
      refine cl_7_84 (kd_16 hLs7) (Nat.le_of_ble_eq_true rfl) (dxX7_readStep_1 5 rfl) h (fun v10 s9 h => ?_) (Nat.le_refl _) (Nat.le_refl _)
      obtain ⟨hFs9, h⟩ := h
      have hKs9 : kd s9 = kd σ := hFs9.1.trans hKs7
      have hLs9 : Lay s9 := hLs7.fr hFs9
      have hTs9 : mr s9 16 4 = some 11 := by rw [hFs9.2]; exact hTs7
      refine x_istore (dxX7_readStep_1 6 rfl) (Nat.le_of_ble_eq_true rfl) rfl rfl ?_
      refine x_iload_n (i := 3) (dxX7_readStep_1 7 rfl) rfl rfl ?_
      refine x_iconst (v := 5) (dxX7_readStep_1 8 rfl) rfl ?_
      refine x_icmp_ne (tgt := 81) (dxX7_readStep_1 9 rfl) (by decide) (fun hc => ?_) (fun hc => ?_)
      · replace h := h.1 hc
        refine x_iconst (v := 1) (dxX7_readStep_1 14 rfl) rfl ?_
        refine x_istore (dxX7_readStep_1 15 rfl) (Nat.le_of_ble_eq_true rfl) rfl rfl ?_
        refine x_iload_n (i := 3) (dxX7_readStep_1 16 rfl) rfl rfl ?_
        refine x_iconst (v := 5) (dxX7_readStep_1 17 rfl) rfl ?_
        refine x_icmp_ne (tgt := 97) (dxX7_readStep_1 18 rfl) (by decide) (fun hc => ?_) (fun hc => ?_)
        · replace h := h.1 hc
          refine x_iconst (v := 1) (dxX7_readStep_1 23 rfl) rfl ?_
          exact h
        · replace h := h.2 hc
          refine x_aload_n (i := 0) (dxX7_readStep_1 19 rfl) rfl rfl ?_
          refine x_iconst (v := 0) (dxX7_readStep_1 20 rfl) rfl ?_
          refine cl_7_84 (kd_16 hLs9) (Nat.le_of_ble_eq_true rfl) (dxX7_readStep_1 21 rfl) h (fun v12 s11 h => ?_) (Nat.le_refl _) (Nat.le_refl _)
          obtain ⟨hFs11, h⟩ := h
          have hKs11 : kd s11 = kd σ := hFs11.1.trans hKs9
          have hLs11 : Lay s11 := hLs9.fr hFs11
          have hTs11 : mr s11 16 4 = some 11 := by rw [hFs11.2]; exact hTs9
          refine x_goto (tgt := 98) (dxX7_readStep_1 22 rfl) (by decide) ?_
          exact h
      · replace h := h.2 hc
        refine x_aload_n (i := 0) (dxX7_readStep_1 10 rfl) rfl rfl ?_
        refine x_iconst (v := 0) (dxX7_readStep_1 11 rfl) rfl ?_
        refine cl_7_84 (kd_16 hLs9) (Nat.le_of_ble_eq_true rfl) (dxX7_readStep_1 12 rfl) h (fun v14 s13 h => ?_) (Nat.le_refl _) (Nat.le_refl _)
        obtain ⟨hFs13, h⟩ := h
        have hKs13 : kd s13 = kd σ := hFs13.1.trans hKs9
        have hLs13 : Lay s13 := hLs9.fr hFs13
        have hTs13 : mr s13 16 4 = some 11 := by rw [hFs13.2]; exact hTs9
        refine x_goto (tgt := 82) (dxX7_readStep_1 13 rfl) (by decide) ?_
        refine x_istore (dxX7_readStep_1 15 rfl) (Nat.le_of_ble_eq_true rfl) rfl rfl ?_
        refine x_iload_n (i := 3) (dxX7_readStep_1 16 rfl) rfl rfl ?_
        refine x_iconst (v := 5) (dxX7_readStep_1 17 rfl) rfl ?_
        refine x_icmp_ne (tgt := 97) (dxX7_readStep_1 18 rfl) (by decide) (fun hc => ?_) (fun hc => ?_)
        · replace h := h.1 hc
          refine x_iconst (v := 1) (dxX7_readStep_1 23 rfl) rfl ?_
          exact h
        · replace h := h.2 hc
          refine x_aload_n (i := 0) (dxX7_readStep_1 19 rfl) rfl rfl ?_
          refine x_iconst (v := 0) (dxX7_readStep_1 20 rfl) rfl ?_
          refine cl_7_84 (kd_16 hLs13) (Nat.le_of_ble_eq_true rfl) (dxX7_readStep_1 21 rfl) h (fun v16 s15 h => ?_) (Nat.le_refl _) (Nat.le_refl _)
          obtain ⟨hFs15, h⟩ := h
          have hKs15 : kd s15 = kd σ := hFs15.1.trans hKs13
          have hLs15 : Lay s15 := hLs13.fr hFs15
          have hTs15 : mr s15 16 4 = some 11 := by rw [hFs15.2]; exact hTs13
          refine x_goto (tgt := 98) (dxX7_readStep_1 22 rfl) (by decide) ?_
          exact h
    · replace h := h.2 hc
      refine x_iload_n (i := 3) (dxX7_readStep_0 13 rfl) rfl rfl ?_
      refine x_iconst (v := 5) (dxX7_readStep_0 14 rfl) rfl ?_
      refine x_icmp_eq (tgt := 44) (dxX7_readStep_0 15 rfl) (by decide) (fun hc => ?_) (fun hc => ?_)
      · replace h := h.1 hc
        refine x_aload_n (i := 0) (dxX7_readStep_0 25 rfl) rfl rfl ?_
        refine x_dup (dxX7_readStep_0 26 rfl) rfl ?_
        refine gf_7_48 (kd_16 hLs3) rfl (dxX7_readStep_0 27 rfl) ?_
        refine x_iconst (v := 1) (dxX7_readStep_0 28 rfl) rfl ?_
        refine x_iadd (dxX7_readStep_0 29 rfl) ?_
        refine pf_7_48 (kd_16 hLs3) (dxX7_readStep_0 30 rfl) ?_
        refine x_sto (fun s17 e18 => ?_)
        replace h := h s17 e18
        have hKs17 : kd s17 = kd σ := by rw [e18]; exact hKs3
        have hLs17 : Lay s17 := by rw [e18]; exact hLs3.si
        have hTs17 : mr s17 16 4 = some 11 := by rw [e18]; exact hTs3
        refine x_aload_n (i := 0) (dxX7_readStep_0 31 rfl) rfl rfl ?_
        refine x_iconst (v := 0) (dxX7_readStep_1 0 rfl) rfl ?_
        refine cl_7_84 (kd_16 hLs17) (Nat.le_of_ble_eq_true rfl) (dxX7_readStep_1 1 rfl) h (fun v20 s19 h => ?_) (Nat.le_refl _) (Nat.le_refl _)
        obtain ⟨hFs19, h⟩ := h
        have hKs19 : kd s19 = kd σ := hFs19.1.trans hKs17
        have hLs19 : Lay s19 := hLs17.fr hFs19
        have hTs19 : mr s19 16 4 = some 11 := by rw [hFs19.2]; exact hTs17
        refine x_istore (dxX7_readStep_1 2 rfl) (Nat.le_of_ble_eq_true rfl) rfl rfl ?_
        refine x_aload_n (i := 0) (dxX7_readStep_1 3 rfl) rfl rfl ?_
        refine x_iconst (v := 0) (dxX7_readStep_1 4 rfl) rfl ?_
        refine cl_7_84 (kd_16 hLs19) (Nat.le_of_ble_eq_true rfl) (dxX7_readStep_1 5 rfl) h (fun v22 s21 h => ?_) (Nat.le_refl _) (Nat.le_refl _)
        obtain ⟨hFs21, h⟩ := h
        have hKs21 : kd s21 = kd σ := hFs21.1.trans hKs19
        have hLs21 : Lay s21 := hLs19.fr hFs21
        have hTs21 : mr s21 16 4 = some 11 := by rw [hFs21.2]; exact hTs19
        refine x_istore (dxX7_readStep_1 6 rfl) (Nat.le_of_ble_eq_true rfl) rfl rfl ?_
        refine x_iload_n (i := 3) (dxX7_readStep_1 7 rfl) rfl rfl ?_
        refine x_iconst (v := 5) (dxX7_readStep_1 8 rfl) rfl ?_
        refine x_icmp_ne (tgt := 81) (dxX7_readStep_1 9 rfl) (by decide) (fun hc => ?_) (fun hc => ?_)
        · replace h := h.1 hc
          refine x_iconst (v := 1) (dxX7_readStep_1 14 rfl) rfl ?_
          refine x_istore (dxX7_readStep_1 15 rfl) (Nat.le_of_ble_eq_true rfl) rfl rfl ?_
          refine x_iload_n (i := 3) (dxX7_readStep_1 16 rfl) rfl rfl ?_
          refine x_iconst (v := 5) (dxX7_readStep_1 17 rfl) rfl ?_
          refine x_icmp_ne (tgt := 97) (dxX7_readStep_1 18 rfl) (by decide) (fun hc => ?_) (fun hc => ?_)
          · replace h := h.1 hc
            refine x_iconst (v := 1) (dxX7_readStep_1 23 rfl) rfl ?_
            exact h
          · replace h := h.2 hc
            refine x_aload_n (i := 0) (dxX7_readStep_1 19 rfl) rfl rfl ?_
            refine x_iconst (v := 0) (dxX7_readStep_1 20 rfl) rfl ?_
            refine cl_7_84 (kd_16 hLs21) (Nat.le_of_ble_eq_true rfl) (dxX7_readStep_1 21 rfl) h (fun v24 s23 h => ?_) (Nat.le_refl _) (Nat.le_refl _)
            obtain ⟨hFs23, h⟩ := h
            have hKs23 : kd s23 = kd σ := hFs23.1.trans hKs21
            have hLs23 : Lay s23 := hLs21.fr hFs23
            have hTs23 : mr s23 16 4 = some 11 := by rw [hFs23.2]; exact hTs21
            refine x_goto (tgt := 98) (dxX7_readStep_1 22 rfl) (by decide) ?_
            exact h
        · replace h := h.2 hc
          refine x_aload_n (i := 0) (dxX7_readStep_1 10 rfl) rfl rfl ?_
          refine x_iconst (v := 0) (dxX7_readStep_1 11 rfl) rfl ?_
          refine cl_7_84 (kd_16 hLs21) (Nat.le_of_ble_eq_true rfl) (dxX7_readStep_1 12 rfl) h (fun v26 s25 h => ?_) (Nat.le_refl _) (Nat.le_refl _)
          obtain ⟨hFs25, h⟩ := h
          have hKs25 : kd s25 = kd σ := hFs25.1.trans hKs21
          have hLs25 : Lay s25 := hLs21.fr hFs25
          have hTs25 : mr s25 16 4 = some 11 := by rw [hFs25.2]; exact hTs21
          refine x_goto (tgt := 82) (dxX7_readStep_1 13 rfl) (by decide) ?_
          refine x_istore (dxX7_readStep_1 15 rfl) (Nat.le_of_ble_eq_true rfl) rfl rfl ?_
          refine x_iload_n (i := 3) (dxX7_readStep_1 16 rfl) rfl rfl ?_
          refine x_iconst (v := 5) (dxX7_readStep_1 17 rfl) rfl ?_
          refine x_icmp_ne (tgt := 97) (dxX7_readStep_1 18 rfl) (by decide) (fun hc => ?_) (fun hc => ?_)
          · replace h := h.1 hc
            refine x_iconst (v := 1) (dxX7_readStep_1 23 rfl) rfl ?_
            exact h
          · replace h := h.2 hc
            refine x_aload_n (i := 0) (dxX7_readStep_1 19 rfl) rfl rfl ?_
            refine x_iconst (v := 0) (dxX7_readStep_1 20 rfl) rfl ?_
            refine cl_7_84 (kd_16 hLs25) (Nat.le_of_ble_eq_true rfl) (dxX7_readStep_1 21 rfl) h (fun v28 s27 h => ?_) (Nat.le_refl _) (Nat.le_refl _)
            obtain ⟨hFs27, h⟩ := h
            have hKs27 : kd s27 = kd σ := hFs27.1.trans hKs25
            have hLs27 : Lay s27 := hLs25.fr hFs27
            have hTs27 : mr s27 16 4 = some 11 := by rw [hFs27.2]; exact hTs25
            refine x_goto (tgt := 98) (dxX7_readStep_1 22 rfl) (by decide) ?_
            exact h
      · replace h := h.2 hc
        refine x_iload_n (i := 3) (dxX7_readStep_0 16 rfl) rfl rfl ?_
        refine x_bipush (v := 6) (dxX7_readStep_0 17 rfl) rfl ?_
        refine x_icmp_eq (tgt := 44) (dxX7_readStep_0 18 rfl) (by decide) (fun hc => ?_) (fun hc => ?_)
        · replace h := h.1 hc
          refine x_aload_n (i := 0) (dxX7_readStep_0 25 rfl) rfl rfl ?_
          refine x_dup (dxX7_readStep_0 26 rfl) rfl ?_
          refine gf_7_48 (kd_16 hLs3) rfl (dxX7_readStep_0 27 rfl) ?_
          refine x_iconst (v := 1) (dxX7_readStep_0 28 rfl) rfl ?_
          refine x_iadd (dxX7_readStep_0 29 rfl) ?_
          refine pf_7_48 (kd_16 hLs3) (dxX7_readStep_0 30 rfl) ?_
          refine x_sto (fun s29 e30 => ?_)
          replace h := h s29 e30
          have hKs29 : kd s29 = kd σ := by rw [e30]; exact hKs3
          have hLs29 : Lay s29 := by rw [e30]; exact hLs3.si
          have hTs29 : mr s29 16 4 = some 11 := by rw [e30]; exact hTs3
          refine x_aload_n (i := 0) (dxX7_readStep_0 31 rfl) rfl rfl ?_
          refine x_iconst (v := 0) (dxX7_readStep_1 0 rfl) rfl ?_
          refine cl_7_84 (kd_16 hLs29) (Nat.le_of_ble_eq_true rfl) (dxX7_readStep_1 1 rfl) h (fun v32 s31 h => ?_) (Nat.le_refl _) (Nat.le_refl _)
          obtain ⟨hFs31, h⟩ := h
          have hKs31 : kd s31 = kd σ := hFs31.1.trans hKs29
          have hLs31 : Lay s31 := hLs29.fr hFs31
          have hTs31 : mr s31 16 4 = some 11 := by rw [hFs31.2]; exact hTs29
          refine x_istore (dxX7_readStep_1 2 rfl) (Nat.le_of_ble_eq_true rfl) rfl rfl ?_
          refine x_aload_n (i := 0) (dxX7_readStep_1 3 rfl) rfl rfl ?_
          refine x_iconst (v := 0) (dxX7_readStep_1 4 rfl) rfl ?_
          refine cl_7_84 (kd_16 hLs31) (Nat.le_of_ble_eq_true rfl) (dxX7_readStep_1 5 rfl) h (fun v34 s33 h => ?_) (Nat.le_refl _) (Nat.le_refl _)
          obtain ⟨hFs33, h⟩ := h
          have hKs33 : kd s33 = kd σ := hFs33.1.trans hKs31
          have hLs33 : Lay s33 := hLs31.fr hFs33
          have hTs33 : mr s33 16 4 = some 11 := by rw [hFs33.2]; exact hTs31
          refine x_istore (dxX7_readStep_1 6 rfl) (Nat.le_of_ble_eq_true rfl) rfl rfl ?_
          refine x_iload_n (i := 3) (dxX7_readStep_1 7 rfl) rfl rfl ?_
          refine x_iconst (v := 5) (dxX7_readStep_1 8 rfl) rfl ?_
          refine x_icmp_ne (tgt := 81) (dxX7_readStep_1 9 rfl) (by decide) (fun hc => ?_) (fun hc => ?_)
          · replace h := h.1 hc
            refine x_iconst (v := 1) (dxX7_readStep_1 14 rfl) rfl ?_
            refine x_istore (dxX7_readStep_1 15 rfl) (Nat.le_of_ble_eq_true rfl) rfl rfl ?_
            refine x_iload_n (i := 3) (dxX7_readStep_1 16 rfl) rfl rfl ?_
            refine x_iconst (v := 5) (dxX7_readStep_1 17 rfl) rfl ?_
            refine x_icmp_ne (tgt := 97) (dxX7_readStep_1 18 rfl) (by decide) (fun hc => ?_) (fun hc => ?_)
            · replace h := h.1 hc
              refine x_iconst (v := 1) (dxX7_readStep_1 23 rfl) rfl ?_
              exact h
            · replace h := h.2 hc
              refine x_aload_n (i := 0) (dxX7_readStep_1 19 rfl) rfl rfl ?_
              refine x_iconst (v := 0) (dxX7_readStep_1 20 rfl) rfl ?_
              refine cl_7_84 (kd_16 hLs33) (Nat.le_of_ble_eq_true rfl) (dxX7_readStep_1 21 rfl) h (fun v36 s35 h => ?_) (Nat.le_refl _) (Nat.le_refl _)
              obtain ⟨hFs35, h⟩ := h
              have hKs35 : kd s35 = kd σ := hFs35.1.trans hKs33
              have hLs35 : Lay s35 := hLs33.fr hFs35
              have hTs35 : mr s35 16 4 = some 11 := by rw [hFs35.2]; exact hTs33
              refine x_goto (tgt := 98) (dxX7_readStep_1 22 rfl) (by decide) ?_
              exact h
          · replace h := h.2 hc
            refine x_aload_n (i := 0) (dxX7_readStep_1 10 rfl) rfl rfl ?_
            refine x_iconst (v := 0) (dxX7_readStep_1 11 rfl) rfl ?_
            refine cl_7_84 (kd_16 hLs33) (Nat.le_of_ble_eq_true rfl) (dxX7_readStep_1 12 rfl) h (fun v38 s37 h => ?_) (Nat.le_refl _) (Nat.le_refl _)
            obtain ⟨hFs37, h⟩ := h
            have hKs37 : kd s37 = kd σ := hFs37.1.trans hKs33
            have hLs37 : Lay s37 := hLs33.fr hFs37
            have hTs37 : mr s37 16 4 = some 11 := by rw [hFs37.2]; exact hTs33
            refine x_goto (tgt := 82) (dxX7_readStep_1 13 rfl) (by decide) ?_
            refine x_istore (dxX7_readStep_1 15 rfl) (Nat.le_of_ble_eq_true rfl) rfl rfl ?_
            refine x_iload_n (i := 3) (dxX7_readStep_1 16 rfl) rfl rfl ?_
            refine x_iconst (v := 5) (dxX7_readStep_1 17 rfl) rfl ?_
            refine x_icmp_ne (tgt := 97) (dxX7_readStep_1 18 rfl) (by decide) (fun hc => ?_) (fun hc => ?_)
            · replace h := h.1 hc
              refine x_iconst (v := 1) (dxX7_readStep_1 23 rfl) rfl ?_
              exact h
            · replace h := h.2 hc
              refine x_aload_n (i := 0) (dxX7_readStep_1 19 rfl) rfl rfl ?_
              refine x_iconst (v := 0) (dxX7_readStep_1 20 rfl) rfl ?_
              refine cl_7_84 (kd_16 hLs37) (Nat.le_of_ble_eq_true rfl) (dxX7_readStep_1 21 rfl) h (fun v40 s39 h => ?_) (Nat.le_refl _) (Nat.le_refl _)
              obtain ⟨hFs39, h⟩ := h
              have hKs39 : kd s39 = kd σ := hFs39.1.trans hKs37
              have hLs39 : Lay s39 := hLs37.fr hFs39
              have hTs39 : mr s39 16 4 = some 11 := by rw [hFs39.2]; exact hTs37
              refine x_goto (tgt := 98) (dxX7_readStep_1 22 rfl) (by decide) ?_
              exact h
        · replace h := h.2 hc
          refine x_aload_n (i := 0) (dxX7_readStep_0 19 rfl) rfl rfl ?_
          refine x_aload_n (i := 0) (dxX7_readStep_0 20 rfl) rfl rfl ?_
          refine gf_7_48 (kd_16 hLs3) rfl (dxX7_readStep_0 21 rfl) ?_
          refine x_iconst (v := 1) (dxX7_readStep_0 22 rfl) rfl ?_
          refine cl_7_77 (kd_16 hLs3) (Nat.le_of_ble_eq_true rfl) (dxX7_readStep_0 23 rfl) h (fun s41 h => ?_) (Nat.le_refl _) (Nat.le_refl _)
          obtain ⟨hFs41, h⟩ := h
          have hKs41 : kd s41 = kd σ := hFs41.1.trans hKs3
          have hLs41 : Lay s41 := hLs3.fr hFs41
          have hTs41 : mr s41 16 4 = some 11 := by rw [hFs41.2]; exact hTs3
          exact x_vret rfl (dxX7_readStep_0 24 rfl) ⟨rfl, h⟩
  · replace h := h.2 hc
    exact x_vret rfl (dxX7_readStep_0 9 rfl) ⟨rfl, h⟩
theorem vcX7_readStep_98 {g : GV} {d : Nat} {P : PS → Prop} {σ : PS} (hL : Lay σ) (hT : mr σ 16 4 = some 11) (l1 : Int32) (l2 : Int32) (l3 : Int32) (l4 : Int32) (l5 : Int32) (l6 : Int32) (t0 : Int32) (h : (¬ (mi σ 16 6) = 0 → P σ) ∧ ((mi σ 16 6) = 0 → (¬ l1 = 0 → CX7_isOnField g d [.int l4, .int l6] σ (fun (v44 : Int32) (s43 : PS) => Fr σ s43 ∧ (v44 = 0 → CX7_fail g d [.ref 16, .int l2, .int 4] s43 (fun (s45 : PS) => Fr s43 s45 ∧ P s45)) ∧ (¬ v44 = 0 → CX7_isOnField g d [.int l5, .int t0] s43 (fun (v48 : Int32) (s47 : PS) => Fr s43 s47 ∧ (¬ v48 = 0 → (l3 = 6 → vp_in l5 16 ∧ (¬ ((jshr (mi s47 17 (Int32.toNatClampNeg l5)) l4) &&& 1) = 0 → vp_in l5 16 ∧ vp_in l5 16 ∧ ∀ s52 : PS, s52 = si s47 17 (Int32.toNatClampNeg l5) ((mi s47 17 (Int32.toNatClampNeg l5)) &&& ((jshl 1 l4) ^^^ (-1))) → P s52) ∧ (((jshr (mi s47 17 (Int32.toNatClampNeg l5)) l4) &&& 1) = 0 → CX7_fail g d [.ref 16, .int l2, .int 6] s47 (fun (s54 : PS) => Fr s47 s54 ∧ P s54))) ∧ (¬ l3 = 6 → CX7_putCells g d [.ref 16, .int l2, .int l4, .int l5, .int l6, .int t0] s47 (fun (s56 : PS) => Fr s47 s56 ∧ P s56))) ∧ (v48 = 0 → CX7_fail g d [.ref 16, .int l2, .int 4] s47 (fun (s58 : PS) => Fr s47 s58 ∧ P s58)))))) ∧ (l1 = 0 → P σ))) : VX7_readStep g (d + 1) P 98 [some (.ref 16), some (.int l1), some (.int l2), some (.int l3), some (.int l4), some (.int l5), some (.int l6), none] [.int t0] σ := by
  refine x_istore (dxX7_readStep_1 24 rfl) (Nat.le_of_ble_eq_true rfl) rfl rfl ?_
  refine x_aload_n (i := 0) (dxX7_readStep_1 25 rfl) rfl rfl ?_
  refine gf_7_35 (kd_16 hL) rfl (dxX7_readStep_1 26 rfl) ?_
  refine x_if_ne (tgt := 111) (dxX7_readStep_1 27 rfl) (by decide) (fun hc => ?_) (fun hc => ?_)
  · replace h := h.1 hc
    exact x_vret rfl (dxX7_readStep_1 30 rfl) ⟨rfl, h⟩
  · replace h := h.2 hc
    refine x_iload_n (i := 1) (dxX7_readStep_1 28 rfl) rfl rfl ?_
    refine x_if_ne (tgt := 112) (dxX7_readStep_1 29 rfl) (by decide) (fun hc => ?_) (fun hc => ?_)
    · replace h := h.1 hc
      refine x_iload (dxX7_readStep_1 31 rfl) rfl ?_
      refine x_iload (dxX7_readStep_2 0 rfl) rfl ?_
      refine cl_7_105 (Nat.le_of_ble_eq_true rfl) (dxX7_readStep_2 1 rfl) h (fun v44 s43 h => ?_) (Nat.le_refl _) (Nat.le_refl _)
      obtain ⟨hFs43, h⟩ := h
      have hKs43 : kd s43 = kd σ := hFs43.1.trans (rfl : kd σ = kd σ)
      have hLs43 : Lay s43 := hL.fr hFs43
      have hTs43 : mr s43 16 4 = some 11 := by rw [hFs43.2]; exact hT
      refine x_if_eq (tgt := 132) (dxX7_readStep_2 2 rfl) (by decide) (fun hc => ?_) (fun hc => ?_)
      · replace h := h.1 hc
        refine x_aload_n (i := 0) (dxX7_readStep_2 7 rfl) rfl rfl ?_
        refine x_iload_n (i := 2) (dxX7_readStep_2 8 rfl) rfl rfl ?_
        refine x_iconst (v := 4) (dxX7_readStep_2 9 rfl) rfl ?_
        refine cl_7_77 (kd_16 hLs43) (Nat.le_of_ble_eq_true rfl) (dxX7_readStep_2 10 rfl) h (fun s45 h => ?_) (Nat.le_refl _) (Nat.le_refl _)
        obtain ⟨hFs45, h⟩ := h
        have hKs45 : kd s45 = kd σ := hFs45.1.trans hKs43
        have hLs45 : Lay s45 := hLs43.fr hFs45
        have hTs45 : mr s45 16 4 = some 11 := by rw [hFs45.2]; exact hTs43
        refine x_goto (tgt := 204) (dxX7_readStep_2 11 rfl) (by decide) ?_
        exact x_vret rfl (dxX7_readStep_3 17 rfl) ⟨rfl, h⟩
      · replace h := h.2 hc
        refine x_iload (dxX7_readStep_2 3 rfl) rfl ?_
        refine x_iload (dxX7_readStep_2 4 rfl) rfl ?_
        refine cl_7_105 (Nat.le_of_ble_eq_true rfl) (dxX7_readStep_2 5 rfl) h (fun v48 s47 h => ?_) (Nat.le_refl _) (Nat.le_refl _)
        obtain ⟨hFs47, h⟩ := h
        have hKs47 : kd s47 = kd σ := hFs47.1.trans hKs43
        have hLs47 : Lay s47 := hLs43.fr hFs47
        have hTs47 : mr s47 16 4 = some 11 := by rw [hFs47.2]; exact hTs43
        refine x_if_ne (tgt := 141) (dxX7_readStep_2 6 rfl) (by decide) (fun hc => ?_) (fun hc => ?_)
        · replace h := h.1 hc
          refine x_iload_n (i := 3) (dxX7_readStep_2 12 rfl) rfl rfl ?_
          refine x_bipush (v := 6) (dxX7_readStep_2 13 rfl) rfl ?_
          refine x_icmp_eq (tgt := 163) (dxX7_readStep_2 14 rfl) (by decide) (fun hc => ?_) (fun hc => ?_)
          · replace h := h.1 hc
            refine x_aload_n (i := 0) (dxX7_readStep_2 23 rfl) rfl rfl ?_
            refine gf_7_11 (kd_16 hLs47) (rv_16_0 hLs47) (dxX7_readStep_2 24 rfl) ?_
            refine x_iload (dxX7_readStep_2 25 rfl) rfl ?_
            obtain ⟨hi49, h⟩ := h
            refine x_iald (kd_17 hLs47) hi49 (dxX7_readStep_2 26 rfl) ?_
            refine x_iload (dxX7_readStep_2 27 rfl) rfl ?_
            refine x_ishr (dxX7_readStep_2 28 rfl) ?_
            refine x_iconst (v := 1) (dxX7_readStep_2 29 rfl) rfl ?_
            refine x_iand (dxX7_readStep_2 30 rfl) ?_
            refine x_if_ne (tgt := 188) (dxX7_readStep_2 31 rfl) (by decide) (fun hc => ?_) (fun hc => ?_)
            · replace h := h.1 hc
              refine x_aload_n (i := 0) (dxX7_readStep_3 5 rfl) rfl rfl ?_
              refine gf_7_11 (kd_16 hLs47) (rv_16_0 hLs47) (dxX7_readStep_3 6 rfl) ?_
              refine x_iload (dxX7_readStep_3 7 rfl) rfl ?_
              refine x_dup2 (dxX7_readStep_3 8 rfl) rfl rfl ?_
              obtain ⟨hi50, h⟩ := h
              refine x_iald (kd_17 hLs47) hi50 (dxX7_readStep_3 9 rfl) ?_
              refine x_iconst (v := 1) (dxX7_readStep_3 10 rfl) rfl ?_
              refine x_iload (dxX7_readStep_3 11 rfl) rfl ?_
              refine x_ishl (dxX7_readStep_3 12 rfl) ?_
              refine x_iconst (v := (-1)) (dxX7_readStep_3 13 rfl) rfl ?_
              refine x_ixor (dxX7_readStep_3 14 rfl) ?_
              refine x_iand (dxX7_readStep_3 15 rfl) ?_
              obtain ⟨hi51, h⟩ := h
              refine x_iast (kd_17 hLs47) hi51 (dxX7_readStep_3 16 rfl) ?_
              refine x_sto (fun s52 e53 => ?_)
              replace h := h s52 e53
              have hKs52 : kd s52 = kd σ := by rw [e53]; exact hKs47
              have hLs52 : Lay s52 := by rw [e53]; exact hLs47.si
              have hTs52 : mr s52 16 4 = some 11 := by rw [e53]; exact hTs47
              exact x_vret rfl (dxX7_readStep_3 17 rfl) ⟨rfl, h⟩
            · replace h := h.2 hc
              refine x_aload_n (i := 0) (dxX7_readStep_3 0 rfl) rfl rfl ?_
              refine x_iload_n (i := 2) (dxX7_readStep_3 1 rfl) rfl rfl ?_
              refine x_bipush (v := 6) (dxX7_readStep_3 2 rfl) rfl ?_
              refine cl_7_77 (kd_16 hLs47) (Nat.le_of_ble_eq_true rfl) (dxX7_readStep_3 3 rfl) h (fun s54 h => ?_) (Nat.le_refl _) (Nat.le_refl _)
              obtain ⟨hFs54, h⟩ := h
              have hKs54 : kd s54 = kd σ := hFs54.1.trans hKs47
              have hLs54 : Lay s54 := hLs47.fr hFs54
              have hTs54 : mr s54 16 4 = some 11 := by rw [hFs54.2]; exact hTs47
              refine x_goto (tgt := 204) (dxX7_readStep_3 4 rfl) (by decide) ?_
              exact x_vret rfl (dxX7_readStep_3 17 rfl) ⟨rfl, h⟩
          · replace h := h.2 hc
            refine x_aload_n (i := 0) (dxX7_readStep_2 15 rfl) rfl rfl ?_
            refine x_iload_n (i := 2) (dxX7_readStep_2 16 rfl) rfl rfl ?_
            refine x_iload (dxX7_readStep_2 17 rfl) rfl ?_
            refine x_iload (dxX7_readStep_2 18 rfl) rfl ?_
            refine x_iload (dxX7_readStep_2 19 rfl) rfl ?_
            refine x_iload (dxX7_readStep_2 20 rfl) rfl ?_
            refine cl_7_109 (kd_16 hLs47) (Nat.le_of_ble_eq_true rfl) (dxX7_readStep_2 21 rfl) h (fun s56 h => ?_) (Nat.le_refl _) (Nat.le_refl _)
            obtain ⟨hFs56, h⟩ := h
            have hKs56 : kd s56 = kd σ := hFs56.1.trans hKs47
            have hLs56 : Lay s56 := hLs47.fr hFs56
            have hTs56 : mr s56 16 4 = some 11 := by rw [hFs56.2]; exact hTs47
            refine x_goto (tgt := 204) (dxX7_readStep_2 22 rfl) (by decide) ?_
            exact x_vret rfl (dxX7_readStep_3 17 rfl) ⟨rfl, h⟩
        · replace h := h.2 hc
          refine x_aload_n (i := 0) (dxX7_readStep_2 7 rfl) rfl rfl ?_
          refine x_iload_n (i := 2) (dxX7_readStep_2 8 rfl) rfl rfl ?_
          refine x_iconst (v := 4) (dxX7_readStep_2 9 rfl) rfl ?_
          refine cl_7_77 (kd_16 hLs47) (Nat.le_of_ble_eq_true rfl) (dxX7_readStep_2 10 rfl) h (fun s58 h => ?_) (Nat.le_refl _) (Nat.le_refl _)
          obtain ⟨hFs58, h⟩ := h
          have hKs58 : kd s58 = kd σ := hFs58.1.trans hKs47
          have hLs58 : Lay s58 := hLs47.fr hFs58
          have hTs58 : mr s58 16 4 = some 11 := by rw [hFs58.2]; exact hTs47
          refine x_goto (tgt := 204) (dxX7_readStep_2 11 rfl) (by decide) ?_
          exact x_vret rfl (dxX7_readStep_3 17 rfl) ⟨rfl, h⟩
    · replace h := h.2 hc
      exact x_vret rfl (dxX7_readStep_1 30 rfl) ⟨rfl, h⟩
theorem vcX7_isOnField {g : GV} {d : Nat} {P : Int32 → PS → Prop} {σ : PS} (hL : Lay σ) (hT : mr σ 16 4 = some 11) (p0 : Int32) (p1 : Int32) (h : (p0 < 0 → P 0 σ) ∧ (¬ p0 < 0 → (16 ≤ p0 → P 0 σ) ∧ (¬ 16 ≤ p0 → (p1 < 1 → P 0 σ) ∧ (¬ p1 < 1 → ((16 - p0) < p1 → P 0 σ) ∧ (¬ (16 - p0) < p1 → P 1 σ))))) : CX7_isOnField g d [.int p0, .int p1] σ P := by
  refine x_entry (L := [some (.int p0), some (.int p1)]) pn_7 (Nat.le_of_ble_eq_true rfl) ⟨0, rfl⟩ ?_
  show VX7_isOnField g d P 0 [some (.int p0), some (.int p1)] [] σ
  refine x_iload_n (i := 0) (dxX7_isOnField_0 0 rfl) rfl rfl ?_
  refine x_if_lt (tgt := 27) (dxX7_isOnField_0 1 rfl) (by decide) (fun hc => ?_) (fun hc => ?_)
  · replace h := h.1 hc
    refine x_iconst (v := 0) (dxX7_isOnField_0 15 rfl) rfl ?_
    exact x_iret (ty := .boolean) rfl rfl (dxX7_isOnField_0 16 rfl) ⟨_, rfl, h⟩
  · replace h := h.2 hc
    refine x_iload_n (i := 0) (dxX7_isOnField_0 2 rfl) rfl rfl ?_
    refine x_bipush (v := 16) (dxX7_isOnField_0 3 rfl) rfl ?_
    refine x_icmp_ge (tgt := 27) (dxX7_isOnField_0 4 rfl) (by decide) (fun hc => ?_) (fun hc => ?_)
    · replace h := h.1 hc
      refine x_iconst (v := 0) (dxX7_isOnField_0 15 rfl) rfl ?_
      exact x_iret (ty := .boolean) rfl rfl (dxX7_isOnField_0 16 rfl) ⟨_, rfl, h⟩
    · replace h := h.2 hc
      refine x_iload_n (i := 1) (dxX7_isOnField_0 5 rfl) rfl rfl ?_
      refine x_iconst (v := 1) (dxX7_isOnField_0 6 rfl) rfl ?_
      refine x_icmp_lt (tgt := 27) (dxX7_isOnField_0 7 rfl) (by decide) (fun hc => ?_) (fun hc => ?_)
      · replace h := h.1 hc
        refine x_iconst (v := 0) (dxX7_isOnField_0 15 rfl) rfl ?_
        exact x_iret (ty := .boolean) rfl rfl (dxX7_isOnField_0 16 rfl) ⟨_, rfl, h⟩
      · replace h := h.2 hc
        refine x_iload_n (i := 1) (dxX7_isOnField_0 8 rfl) rfl rfl ?_
        refine x_bipush (v := 16) (dxX7_isOnField_0 9 rfl) rfl ?_
        refine x_iload_n (i := 0) (dxX7_isOnField_0 10 rfl) rfl rfl ?_
        refine x_isub (dxX7_isOnField_0 11 rfl) ?_
        refine x_icmp_gt (tgt := 27) (dxX7_isOnField_0 12 rfl) (by decide) (fun hc => ?_) (fun hc => ?_)
        · replace h := h.1 hc
          refine x_iconst (v := 0) (dxX7_isOnField_0 15 rfl) rfl ?_
          exact x_iret (ty := .boolean) rfl rfl (dxX7_isOnField_0 16 rfl) ⟨_, rfl, h⟩
        · replace h := h.2 hc
          refine x_iconst (v := 1) (dxX7_isOnField_0 13 rfl) rfl ?_
          refine x_goto (tgt := 28) (dxX7_isOnField_0 14 rfl) (by decide) ?_
          exact x_iret (ty := .boolean) rfl rfl (dxX7_isOnField_0 16 rfl) ⟨_, rfl, h⟩
theorem vcX7_putCells {g : GV} {d : Nat} {P : PS → Prop} {σ : PS} (hL : Lay σ) (hT : mr σ 16 4 = some 11) (p0 : Int32) (p1 : Int32) (p2 : Int32) (p3 : Int32) (p4 : Int32) (h : VX7_putCells g (d + 1) P 3 [some (.ref 16), some (.int p0), some (.int p1), some (.int p2), some (.int p3), some (.int p4), some (.int p2), none] [] σ) : CX7_putCells g (d + 1) [.ref 16, .int p0, .int p1, .int p2, .int p3, .int p4] σ P := by
  refine x_entry (L := [some (.ref 16), some (.int p0), some (.int p1), some (.int p2), some (.int p3), some (.int p4), none, none]) pn_7 (Nat.le_of_ble_eq_true rfl) ⟨2, rfl⟩ ?_
  show VX7_putCells g (d + 1) P 0 [some (.ref 16), some (.int p0), some (.int p1), some (.int p2), some (.int p3), some (.int p4), none, none] [] σ
  refine x_iload_n (i := 3) (dxX7_putCells_0 0 rfl) rfl rfl ?_
  refine x_istore (dxX7_putCells_0 1 rfl) (Nat.le_of_ble_eq_true rfl) rfl rfl ?_
  exact h
theorem vcX7_putCells_3 {g : GV} {d : Nat} {P : PS → Prop} {σ : PS} (hL : Lay σ) (hT : mr σ 16 4 = some 11) (l1 : Int32) (l2 : Int32) (l3 : Int32) (l4 : Int32) (l5 : Int32) (l6 : Int32) (h : ((l3 + l5) ≤ l6 → VX7_putCells g (d + 1) P 42 [some (.ref 16), some (.int l1), none, none, none, none, some (.int 0), some (.int 0)] [] σ) ∧ (¬ (l3 + l5) ≤ l6 → vp_in l6 16 ∧ vp_in l6 16 ∧ ∀ s3 : PS, s3 = si σ 17 (Int32.toNatClampNeg l6) ((mi σ 17 (Int32.toNatClampNeg l6)) ||| (jshl ((jshl 1 l4) - 1) l2)) → ∀ x5 : Int32, x5 = l6 + 1 → VX7_putCells g (d + 1) P 3 [some (.ref 16), some (.int l1), some (.int l2), some (.int l3), some (.int l4), some (.int l5), some (.int x5), none] [] s3)) : VX7_putCells g (d + 1) P 3 [some (.ref 16), some (.int l1), some (.int l2), some (.int l3), some (.int l4), some (.int l5), some (.int l6), none] [] σ := by
  refine x_iload (dxX7_putCells_0 2 rfl) rfl ?_
  refine x_iload_n (i := 3) (dxX7_putCells_0 3 rfl) rfl rfl ?_
  refine x_iload (dxX7_putCells_0 4 rfl) rfl ?_
  refine x_iadd (dxX7_putCells_0 5 rfl) ?_
  refine x_icmp_ge (tgt := 36) (dxX7_putCells_0 6 rfl) (by decide) (fun hc => ?_) (fun hc => ?_)
  · replace h := h.1 hc
    refine x_iconst (v := 0) (dxX7_putCells_0 23 rfl) rfl ?_
    refine x_istore (dxX7_putCells_0 24 rfl) (Nat.le_of_ble_eq_true rfl) rfl rfl ?_
    refine x_iconst (v := 0) (dxX7_putCells_0 25 rfl) rfl ?_
    refine x_istore (dxX7_putCells_0 26 rfl) (Nat.le_of_ble_eq_true rfl) rfl rfl ?_
    refine x_mask [true, true, false, false, false, false, true, true] (L1 := [some (.ref 16), some (.int l1), none, none, none, none, some (.int 0), some (.int 0)]) rfl ?_
    exact h
  · replace h := h.2 hc
    refine x_aload_n (i := 0) (dxX7_putCells_0 7 rfl) rfl rfl ?_
    refine gf_7_11 (kd_16 hL) (rv_16_0 hL) (dxX7_putCells_0 8 rfl) ?_
    refine x_iload (dxX7_putCells_0 9 rfl) rfl ?_
    refine x_dup2 (dxX7_putCells_0 10 rfl) rfl rfl ?_
    obtain ⟨hi1, h⟩ := h
    refine x_iald (kd_17 hL) hi1 (dxX7_putCells_0 11 rfl) ?_
    refine x_iconst (v := 1) (dxX7_putCells_0 12 rfl) rfl ?_
    refine x_iload (dxX7_putCells_0 13 rfl) rfl ?_
    refine x_ishl (dxX7_putCells_0 14 rfl) ?_
    refine x_iconst (v := 1) (dxX7_putCells_0 15 rfl) rfl ?_
    refine x_isub (dxX7_putCells_0 16 rfl) ?_
    refine x_iload_n (i := 2) (dxX7_putCells_0 17 rfl) rfl rfl ?_
    refine x_ishl (dxX7_putCells_0 18 rfl) ?_
    refine x_ior (dxX7_putCells_0 19 rfl) ?_
    obtain ⟨hi2, h⟩ := h
    refine x_iast (kd_17 hL) hi2 (dxX7_putCells_0 20 rfl) ?_
    refine x_sto (fun s3 e4 => ?_)
    replace h := h s3 e4
    have hKs3 : kd s3 = kd σ := by rw [e4]; exact (rfl : kd σ = kd σ)
    have hLs3 : Lay s3 := by rw [e4]; exact hL.si
    have hTs3 : mr s3 16 4 = some 11 := by rw [e4]; exact hT
    obtain ⟨x5, e6⟩ : ∃ y : Int32, y = l6 + 1 := ⟨_, rfl⟩
    replace h := h x5 e6
    refine x_iinc (v := x5) (dxX7_putCells_0 21 rfl) (i := 6) rfl (by rw [e6]; rfl) (Nat.le_of_ble_eq_true rfl) rfl rfl ?_
    refine x_goto (tgt := 3) (dxX7_putCells_0 22 rfl) (by decide) ?_
    exact h
theorem vcX7_putCells_42 {g : GV} {d : Nat} {P : PS → Prop} {σ : PS} (hL : Lay σ) (hT : mr σ 16 4 = some 11) (l1 : Int32) (l6 : Int32) (l7 : Int32) (h : (16 ≤ l7 → (l6 ≤ 10 → P σ) ∧ (¬ l6 ≤ 10 → CX7_fail g d [.ref 16, .int l1, .int 7] σ (fun (s7 : PS) => Fr σ s7 ∧ P s7))) ∧ (¬ 16 ≤ l7 → vp_in l7 16 ∧ CJ6_bitCount_0f7a4 g d [.int (mi σ 17 (Int32.toNatClampNeg l7))] σ (fun (v11 : Int32) (s10 : PS) => Fr σ s10 ∧ ∀ x12 : Int32, x12 = l6 + v11 → ∀ x14 : Int32, x14 = l7 + 1 → VX7_putCells g (d + 1) P 42 [some (.ref 16), some (.int l1), none, none, none, none, some (.int x12), some (.int x14)] [] s10))) : VX7_putCells g (d + 1) P 42 [some (.ref 16), some (.int l1), none, none, none, none, some (.int l6), some (.int l7)] [] σ := by
  refine x_iload (dxX7_putCells_0 27 rfl) rfl ?_
  refine x_bipush (v := 16) (dxX7_putCells_0 28 rfl) rfl ?_
  refine x_icmp_ge (tgt := 70) (dxX7_putCells_0 29 rfl) (by decide) (fun hc => ?_) (fun hc => ?_)
  · replace h := h.1 hc
    refine x_iload (dxX7_putCells_1 8 rfl) rfl ?_
    refine x_bipush (v := 10) (dxX7_putCells_1 9 rfl) rfl ?_
    refine x_icmp_le (tgt := 84) (dxX7_putCells_1 10 rfl) (by decide) (fun hc => ?_) (fun hc => ?_)
    · replace h := h.1 hc
      exact x_vret rfl (dxX7_putCells_1 15 rfl) ⟨rfl, h⟩
    · replace h := h.2 hc
      refine x_aload_n (i := 0) (dxX7_putCells_1 11 rfl) rfl rfl ?_
      refine x_iload_n (i := 1) (dxX7_putCells_1 12 rfl) rfl rfl ?_
      refine x_bipush (v := 7) (dxX7_putCells_1 13 rfl) rfl ?_
      refine cl_7_77 (kd_16 hL) (Nat.le_of_ble_eq_true rfl) (dxX7_putCells_1 14 rfl) h (fun s7 h => ?_) (Nat.le_refl _) (Nat.le_refl _)
      obtain ⟨hFs7, h⟩ := h
      have hKs7 : kd s7 = kd σ := hFs7.1.trans (rfl : kd σ = kd σ)
      have hLs7 : Lay s7 := hL.fr hFs7
      have hTs7 : mr s7 16 4 = some 11 := by rw [hFs7.2]; exact hT
      exact x_vret rfl (dxX7_putCells_1 15 rfl) ⟨rfl, h⟩
  · replace h := h.2 hc
    refine x_iload (dxX7_putCells_0 30 rfl) rfl ?_
    refine x_aload_n (i := 0) (dxX7_putCells_0 31 rfl) rfl rfl ?_
    refine gf_7_11 (kd_16 hL) (rv_16_0 hL) (dxX7_putCells_1 0 rfl) ?_
    refine x_iload (dxX7_putCells_1 1 rfl) rfl ?_
    obtain ⟨hi9, h⟩ := h
    refine x_iald (kd_17 hL) hi9 (dxX7_putCells_1 2 rfl) ?_
    refine cl_7_113 (Nat.le_of_ble_eq_true rfl) (dxX7_putCells_1 3 rfl) h (fun v11 s10 h => ?_) (Nat.le_refl _) (Nat.le_refl _)
    obtain ⟨hFs10, h⟩ := h
    have hKs10 : kd s10 = kd σ := hFs10.1.trans (rfl : kd σ = kd σ)
    have hLs10 : Lay s10 := hL.fr hFs10
    have hTs10 : mr s10 16 4 = some 11 := by rw [hFs10.2]; exact hT
    refine x_iadd (dxX7_putCells_1 4 rfl) ?_
    refine x_topi (fun x12 e13 => ?_)
    replace h := h x12 e13
    refine x_istore (dxX7_putCells_1 5 rfl) (Nat.le_of_ble_eq_true rfl) rfl rfl ?_
    obtain ⟨x14, e15⟩ : ∃ y : Int32, y = l7 + 1 := ⟨_, rfl⟩
    replace h := h x14 e15
    refine x_iinc (v := x14) (dxX7_putCells_1 6 rfl) (i := 7) rfl (by rw [e15]; rfl) (Nat.le_of_ble_eq_true rfl) rfl rfl ?_
    refine x_goto (tgt := 42) (dxX7_putCells_1 7 rfl) (by decide) ?_
    exact h
theorem vcX7_sum {g : GV} {d : Nat} {P : Int32 → PS → Prop} {σ : PS} (hL : Lay σ) (hT : mr σ 16 4 = some 11) (p0 : Int32) (h : CX7_part g d [.ref 16, .int p0] σ (fun (v2 : Int32) (s1 : PS) => Fr σ s1 ∧ VX7_sum g (d + 1) P 14 [some (.ref 16), some (.int p0), some (.int 0), some (.int 1), some (.int v2), some (.int 0), none] [] s1)) : CX7_sum g (d + 1) [.ref 16, .int p0] σ P := by
  refine x_entry (L := [some (.ref 16), some (.int p0), none, none, none, none, none]) pn_7 (Nat.le_of_ble_eq_true rfl) ⟨5, rfl⟩ ?_
  show VX7_sum g (d + 1) P 0 [some (.ref 16), some (.int p0), none, none, none, none, none] [] σ
  refine x_iconst (v := 0) (dxX7_sum_0 0 rfl) rfl ?_
  refine x_istore_n (i := 2) (dxX7_sum_0 1 rfl) rfl (Nat.le_of_ble_eq_true rfl) rfl rfl ?_
  refine x_iconst (v := 1) (dxX7_sum_0 2 rfl) rfl ?_
  refine x_istore_n (i := 3) (dxX7_sum_0 3 rfl) rfl (Nat.le_of_ble_eq_true rfl) rfl rfl ?_
  refine x_aload_n (i := 0) (dxX7_sum_0 4 rfl) rfl rfl ?_
  refine x_iload_n (i := 1) (dxX7_sum_0 5 rfl) rfl rfl ?_
  refine cl_7_118 (kd_16 hL) (Nat.le_of_ble_eq_true rfl) (dxX7_sum_0 6 rfl) h (fun v2 s1 h => ?_) (Nat.le_refl _) (Nat.le_refl _)
  obtain ⟨hFs1, h⟩ := h
  have hKs1 : kd s1 = kd σ := hFs1.1.trans (rfl : kd σ = kd σ)
  have hLs1 : Lay s1 := hL.fr hFs1
  have hTs1 : mr s1 16 4 = some 11 := by rw [hFs1.2]; exact hT
  refine x_istore (dxX7_sum_0 7 rfl) (Nat.le_of_ble_eq_true rfl) rfl rfl ?_
  refine x_iconst (v := 0) (dxX7_sum_0 8 rfl) rfl ?_
  refine x_istore (dxX7_sum_0 9 rfl) (Nat.le_of_ble_eq_true rfl) rfl rfl ?_
  exact h
theorem vcX7_sum_14 {g : GV} {d : Nat} {P : Int32 → PS → Prop} {σ : PS} (hL : Lay σ) (hT : mr σ 16 4 = some 11) (l1 : Int32) (l2 : Int32) (l3 : Int32) (l4 : Int32) (l5 : Int32) (h : ((mi σ 11 5) < l5 → P (l2 + (l3 * l4)) σ) ∧ (¬ (mi σ 11 5) < l5 → (¬ (mi σ 16 6) = 0 → P (l2 + (l3 * l4)) σ) ∧ ((mi σ 16 6) = 0 → CX7_kind g d [.ref 16] σ (fun (v4 : Int32) (s3 : PS) => Fr σ s3 ∧ (¬ v4 = 42 → (v4 = 43 → ∀ s5 : PS, s5 = si s3 16 5 ((mi s3 16 5) + 1) → ∀ x7 : Int32, x7 = l2 + (l3 * l4) → (¬ v4 = 43 → CX7_part g d [.ref 16, .int l1] s5 (fun (v10 : Int32) (s9 : PS) => Fr s5 s9 ∧ ∀ x11 : Int32, x11 = l5 + 1 → VX7_sum g (d + 1) P 14 [some (.ref 16), some (.int l1), some (.int x7), some (.int (-1)), some (.int v10), some (.int x11), none] [] s9)) ∧ (v4 = 43 → CX7_part g d [.ref 16, .int l1] s5 (fun (v14 : Int32) (s13 : PS) => Fr s5 s13 ∧ ∀ x15 : Int32, x15 = l5 + 1 → VX7_sum g (d + 1) P 14 [some (.ref 16), some (.int l1), some (.int x7), some (.int 1), some (.int v14), some (.int x15), none] [] s13))) ∧ (¬ v4 = 43 → (¬ v4 = 45 → P (l2 + (l3 * l4)) s3) ∧ (v4 = 45 → ∀ s17 : PS, s17 = si s3 16 5 ((mi s3 16 5) + 1) → ∀ x19 : Int32, x19 = l2 + (l3 * l4) → (¬ v4 = 43 → CX7_part g d [.ref 16, .int l1] s17 (fun (v22 : Int32) (s21 : PS) => Fr s17 s21 ∧ ∀ x23 : Int32, x23 = l5 + 1 → VX7_sum g (d + 1) P 14 [some (.ref 16), some (.int l1), some (.int x19), some (.int (-1)), some (.int v22), some (.int x23), none] [] s21)) ∧ (v4 = 43 → CX7_part g d [.ref 16, .int l1] s17 (fun (v26 : Int32) (s25 : PS) => Fr s17 s25 ∧ ∀ x27 : Int32, x27 = l5 + 1 → VX7_sum g (d + 1) P 14 [some (.ref 16), some (.int l1), some (.int x19), some (.int 1), some (.int v26), some (.int x27), none] [] s25))))) ∧ (v4 = 42 → ∀ s29 : PS, s29 = si s3 16 5 ((mi s3 16 5) + 1) → CX7_part g d [.ref 16, .int l1] s29 (fun (v32 : Int32) (s31 : PS) => Fr s29 s31 ∧ ∀ x33 : Int32, x33 = l4 * v32 → ∀ x35 : Int32, x35 = l5 + 1 → VX7_sum g (d + 1) P 14 [some (.ref 16), some (.int l1), some (.int l2), some (.int l3), some (.int x33), some (.int x35), none] [] s31)))))) : VX7_sum g (d + 1) P 14 [some (.ref 16), some (.int l1), some (.int l2), some (.int l3), some (.int l4), some (.int l5), none] [] σ := by
  refine x_iload (dxX7_sum_0 10 rfl) rfl ?_
  refine x_aload_n (i := 0) (dxX7_sum_0 11 rfl) rfl rfl ?_
  refine gf_7_22 (kd_16 hL) (rv_text hT) (dxX7_sum_0 12 rfl) ?_
  refine gf_7_51 (kd_11 hL) rfl (dxX7_sum_0 13 rfl) ?_
  refine x_icmp_gt (tgt := 126) (dxX7_sum_0 14 rfl) (by decide) (fun hc => ?_) (fun hc => ?_)
  · replace h := h.1 hc
    refine x_iload_n (i := 2) (dxX7_sum_2 4 rfl) rfl rfl ?_
    refine x_iload_n (i := 3) (dxX7_sum_2 5 rfl) rfl rfl ?_
    refine x_iload (dxX7_sum_2 6 rfl) rfl ?_
    refine x_imul (dxX7_sum_2 7 rfl) ?_
    refine x_iadd (dxX7_sum_2 8 rfl) ?_
    exact x_iret (ty := .int) rfl rfl (dxX7_sum_2 9 rfl) ⟨_, rfl, h⟩
  · replace h := h.2 hc
    refine x_aload_n (i := 0) (dxX7_sum_0 15 rfl) rfl rfl ?_
    refine gf_7_35 (kd_16 hL) rfl (dxX7_sum_0 16 rfl) ?_
    refine x_if_ne (tgt := 126) (dxX7_sum_0 17 rfl) (by decide) (fun hc => ?_) (fun hc => ?_)
    · replace h := h.1 hc
      refine x_iload_n (i := 2) (dxX7_sum_2 4 rfl) rfl rfl ?_
      refine x_iload_n (i := 3) (dxX7_sum_2 5 rfl) rfl rfl ?_
      refine x_iload (dxX7_sum_2 6 rfl) rfl ?_
      refine x_imul (dxX7_sum_2 7 rfl) ?_
      refine x_iadd (dxX7_sum_2 8 rfl) ?_
      exact x_iret (ty := .int) rfl rfl (dxX7_sum_2 9 rfl) ⟨_, rfl, h⟩
    · replace h := h.2 hc
      refine x_aload_n (i := 0) (dxX7_sum_0 18 rfl) rfl rfl ?_
      refine cl_7_54 (kd_16 hL) (Nat.le_of_ble_eq_true rfl) (dxX7_sum_0 19 rfl) h (fun v4 s3 h => ?_) (Nat.le_refl _) (Nat.le_refl _)
      obtain ⟨hFs3, h⟩ := h
      have hKs3 : kd s3 = kd σ := hFs3.1.trans (rfl : kd σ = kd σ)
      have hLs3 : Lay s3 := hL.fr hFs3
      have hTs3 : mr s3 16 4 = some 11 := by rw [hFs3.2]; exact hT
      refine x_istore (dxX7_sum_0 20 rfl) (Nat.le_of_ble_eq_true rfl) rfl rfl ?_
      refine x_iload (dxX7_sum_0 21 rfl) rfl ?_
      refine x_bipush (v := 42) (dxX7_sum_0 22 rfl) rfl ?_
      refine x_icmp_ne (tgt := 69) (dxX7_sum_0 23 rfl) (by decide) (fun hc => ?_) (fun hc => ?_)
      · replace h := h.1 hc
        refine x_iload (dxX7_sum_1 5 rfl) rfl ?_
        refine x_bipush (v := 43) (dxX7_sum_1 6 rfl) rfl ?_
        refine x_icmp_eq (tgt := 83) (dxX7_sum_1 7 rfl) (by decide) (fun hc => ?_) (fun hc => ?_)
        · replace h := h.1 hc
          refine x_aload_n (i := 0) (dxX7_sum_1 11 rfl) rfl rfl ?_
          refine x_dup (dxX7_sum_1 12 rfl) rfl ?_
          refine gf_7_48 (kd_16 hLs3) rfl (dxX7_sum_1 13 rfl) ?_
          refine x_iconst (v := 1) (dxX7_sum_1 14 rfl) rfl ?_
          refine x_iadd (dxX7_sum_1 15 rfl) ?_
          refine pf_7_48 (kd_16 hLs3) (dxX7_sum_1 16 rfl) ?_
          refine x_sto (fun s5 e6 => ?_)
          replace h := h s5 e6
          have hKs5 : kd s5 = kd σ := by rw [e6]; exact hKs3
          have hLs5 : Lay s5 := by rw [e6]; exact hLs3.si
          have hTs5 : mr s5 16 4 = some 11 := by rw [e6]; exact hTs3
          refine x_iload_n (i := 2) (dxX7_sum_1 17 rfl) rfl rfl ?_
          refine x_iload_n (i := 3) (dxX7_sum_1 18 rfl) rfl rfl ?_
          refine x_iload (dxX7_sum_1 19 rfl) rfl ?_
          refine x_imul (dxX7_sum_1 20 rfl) ?_
          refine x_iadd (dxX7_sum_1 21 rfl) ?_
          refine x_topi (fun x7 e8 => ?_)
          replace h := h x7 e8
          refine x_istore_n (i := 2) (dxX7_sum_1 22 rfl) rfl (Nat.le_of_ble_eq_true rfl) rfl rfl ?_
          refine x_iload (dxX7_sum_1 23 rfl) rfl ?_
          refine x_bipush (v := 43) (dxX7_sum_1 24 rfl) rfl ?_
          refine x_icmp_ne (tgt := 111) (dxX7_sum_1 25 rfl) (by decide) (fun hc => ?_) (fun hc => ?_)
          · replace h := h.1 hc
            refine x_iconst (v := (-1)) (dxX7_sum_1 28 rfl) rfl ?_
            refine x_istore_n (i := 3) (dxX7_sum_1 29 rfl) rfl (Nat.le_of_ble_eq_true rfl) rfl rfl ?_
            refine x_aload_n (i := 0) (dxX7_sum_1 30 rfl) rfl rfl ?_
            refine x_iload_n (i := 1) (dxX7_sum_1 31 rfl) rfl rfl ?_
            refine cl_7_118 (kd_16 hLs5) (Nat.le_of_ble_eq_true rfl) (dxX7_sum_2 0 rfl) h (fun v10 s9 h => ?_) (Nat.le_refl _) (Nat.le_refl _)
            obtain ⟨hFs9, h⟩ := h
            have hKs9 : kd s9 = kd σ := hFs9.1.trans hKs5
            have hLs9 : Lay s9 := hLs5.fr hFs9
            have hTs9 : mr s9 16 4 = some 11 := by rw [hFs9.2]; exact hTs5
            refine x_istore (dxX7_sum_2 1 rfl) (Nat.le_of_ble_eq_true rfl) rfl rfl ?_
            obtain ⟨x11, e12⟩ : ∃ y : Int32, y = l5 + 1 := ⟨_, rfl⟩
            replace h := h x11 e12
            refine x_iinc (v := x11) (dxX7_sum_2 2 rfl) (i := 5) rfl (by rw [e12]; rfl) (Nat.le_of_ble_eq_true rfl) rfl rfl ?_
            refine x_goto (tgt := 14) (dxX7_sum_2 3 rfl) (by decide) ?_
            refine x_mask [true, true, true, true, true, true, false] (L1 := [some (.ref 16), some (.int l1), some (.int x7), some (.int (-1)), some (.int v10), some (.int x11), none]) rfl ?_
            exact h
          · replace h := h.2 hc
            refine x_iconst (v := 1) (dxX7_sum_1 26 rfl) rfl ?_
            refine x_goto (tgt := 112) (dxX7_sum_1 27 rfl) (by decide) ?_
            refine x_istore_n (i := 3) (dxX7_sum_1 29 rfl) rfl (Nat.le_of_ble_eq_true rfl) rfl rfl ?_
            refine x_aload_n (i := 0) (dxX7_sum_1 30 rfl) rfl rfl ?_
            refine x_iload_n (i := 1) (dxX7_sum_1 31 rfl) rfl rfl ?_
            refine cl_7_118 (kd_16 hLs5) (Nat.le_of_ble_eq_true rfl) (dxX7_sum_2 0 rfl) h (fun v14 s13 h => ?_) (Nat.le_refl _) (Nat.le_refl _)
            obtain ⟨hFs13, h⟩ := h
            have hKs13 : kd s13 = kd σ := hFs13.1.trans hKs5
            have hLs13 : Lay s13 := hLs5.fr hFs13
            have hTs13 : mr s13 16 4 = some 11 := by rw [hFs13.2]; exact hTs5
            refine x_istore (dxX7_sum_2 1 rfl) (Nat.le_of_ble_eq_true rfl) rfl rfl ?_
            obtain ⟨x15, e16⟩ : ∃ y : Int32, y = l5 + 1 := ⟨_, rfl⟩
            replace h := h x15 e16
            refine x_iinc (v := x15) (dxX7_sum_2 2 rfl) (i := 5) rfl (by rw [e16]; rfl) (Nat.le_of_ble_eq_true rfl) rfl rfl ?_
            refine x_goto (tgt := 14) (dxX7_sum_2 3 rfl) (by decide) ?_
            refine x_mask [true, true, true, true, true, true, false] (L1 := [some (.ref 16), some (.int l1), some (.int x7), some (.int 1), some (.int v14), some (.int x15), none]) rfl ?_
            exact h
        · replace h := h.2 hc
          refine x_iload (dxX7_sum_1 8 rfl) rfl ?_
          refine x_bipush (v := 45) (dxX7_sum_1 9 rfl) rfl ?_
          refine x_icmp_ne (tgt := 126) (dxX7_sum_1 10 rfl) (by decide) (fun hc => ?_) (fun hc => ?_)
          · replace h := h.1 hc
            refine x_iload_n (i := 2) (dxX7_sum_2 4 rfl) rfl rfl ?_
            refine x_iload_n (i := 3) (dxX7_sum_2 5 rfl) rfl rfl ?_
            refine x_iload (dxX7_sum_2 6 rfl) rfl ?_
            refine x_imul (dxX7_sum_2 7 rfl) ?_
            refine x_iadd (dxX7_sum_2 8 rfl) ?_
            exact x_iret (ty := .int) rfl rfl (dxX7_sum_2 9 rfl) ⟨_, rfl, h⟩
          · replace h := h.2 hc
            refine x_aload_n (i := 0) (dxX7_sum_1 11 rfl) rfl rfl ?_
            refine x_dup (dxX7_sum_1 12 rfl) rfl ?_
            refine gf_7_48 (kd_16 hLs3) rfl (dxX7_sum_1 13 rfl) ?_
            refine x_iconst (v := 1) (dxX7_sum_1 14 rfl) rfl ?_
            refine x_iadd (dxX7_sum_1 15 rfl) ?_
            refine pf_7_48 (kd_16 hLs3) (dxX7_sum_1 16 rfl) ?_
            refine x_sto (fun s17 e18 => ?_)
            replace h := h s17 e18
            have hKs17 : kd s17 = kd σ := by rw [e18]; exact hKs3
            have hLs17 : Lay s17 := by rw [e18]; exact hLs3.si
            have hTs17 : mr s17 16 4 = some 11 := by rw [e18]; exact hTs3
            refine x_iload_n (i := 2) (dxX7_sum_1 17 rfl) rfl rfl ?_
            refine x_iload_n (i := 3) (dxX7_sum_1 18 rfl) rfl rfl ?_
            refine x_iload (dxX7_sum_1 19 rfl) rfl ?_
            refine x_imul (dxX7_sum_1 20 rfl) ?_
            refine x_iadd (dxX7_sum_1 21 rfl) ?_
            refine x_topi (fun x19 e20 => ?_)
            replace h := h x19 e20
            refine x_istore_n (i := 2) (dxX7_sum_1 22 rfl) rfl (Nat.le_of_ble_eq_true rfl) rfl rfl ?_
            refine x_iload (dxX7_sum_1 23 rfl) rfl ?_
            refine x_bipush (v := 43) (dxX7_sum_1 24 rfl) rfl ?_
            refine x_icmp_ne (tgt := 111) (dxX7_sum_1 25 rfl) (by decide) (fun hc => ?_) (fun hc => ?_)
            · replace h := h.1 hc
              refine x_iconst (v := (-1)) (dxX7_sum_1 28 rfl) rfl ?_
              refine x_istore_n (i := 3) (dxX7_sum_1 29 rfl) rfl (Nat.le_of_ble_eq_true rfl) rfl rfl ?_
              refine x_aload_n (i := 0) (dxX7_sum_1 30 rfl) rfl rfl ?_
              refine x_iload_n (i := 1) (dxX7_sum_1 31 rfl) rfl rfl ?_
              refine cl_7_118 (kd_16 hLs17) (Nat.le_of_ble_eq_true rfl) (dxX7_sum_2 0 rfl) h (fun v22 s21 h => ?_) (Nat.le_refl _) (Nat.le_refl _)
              obtain ⟨hFs21, h⟩ := h
              have hKs21 : kd s21 = kd σ := hFs21.1.trans hKs17
              have hLs21 : Lay s21 := hLs17.fr hFs21
              have hTs21 : mr s21 16 4 = some 11 := by rw [hFs21.2]; exact hTs17
              refine x_istore (dxX7_sum_2 1 rfl) (Nat.le_of_ble_eq_true rfl) rfl rfl ?_
              obtain ⟨x23, e24⟩ : ∃ y : Int32, y = l5 + 1 := ⟨_, rfl⟩
              replace h := h x23 e24
              refine x_iinc (v := x23) (dxX7_sum_2 2 rfl) (i := 5) rfl (by rw [e24]; rfl) (Nat.le_of_ble_eq_true rfl) rfl rfl ?_
              refine x_goto (tgt := 14) (dxX7_sum_2 3 rfl) (by decide) ?_
              refine x_mask [true, true, true, true, true, true, false] (L1 := [some (.ref 16), some (.int l1), some (.int x19), some (.int (-1)), some (.int v22), some (.int x23), none]) rfl ?_
              exact h
            · replace h := h.2 hc
              refine x_iconst (v := 1) (dxX7_sum_1 26 rfl) rfl ?_
              refine x_goto (tgt := 112) (dxX7_sum_1 27 rfl) (by decide) ?_
              refine x_istore_n (i := 3) (dxX7_sum_1 29 rfl) rfl (Nat.le_of_ble_eq_true rfl) rfl rfl ?_
              refine x_aload_n (i := 0) (dxX7_sum_1 30 rfl) rfl rfl ?_
              refine x_iload_n (i := 1) (dxX7_sum_1 31 rfl) rfl rfl ?_
              refine cl_7_118 (kd_16 hLs17) (Nat.le_of_ble_eq_true rfl) (dxX7_sum_2 0 rfl) h (fun v26 s25 h => ?_) (Nat.le_refl _) (Nat.le_refl _)
              obtain ⟨hFs25, h⟩ := h
              have hKs25 : kd s25 = kd σ := hFs25.1.trans hKs17
              have hLs25 : Lay s25 := hLs17.fr hFs25
              have hTs25 : mr s25 16 4 = some 11 := by rw [hFs25.2]; exact hTs17
              refine x_istore (dxX7_sum_2 1 rfl) (Nat.le_of_ble_eq_true rfl) rfl rfl ?_
              obtain ⟨x27, e28⟩ : ∃ y : Int32, y = l5 + 1 := ⟨_, rfl⟩
              replace h := h x27 e28
              refine x_iinc (v := x27) (dxX7_sum_2 2 rfl) (i := 5) rfl (by rw [e28]; rfl) (Nat.le_of_ble_eq_true rfl) rfl rfl ?_
              refine x_goto (tgt := 14) (dxX7_sum_2 3 rfl) (by decide) ?_
              refine x_mask [true, true, true, true, true, true, false] (L1 := [some (.ref 16), some (.int l1), some (.int x19), some (.int 1), some (.int v26), some (.int x27), none]) rfl ?_
              exact h
      · replace h := h.2 hc
        refine x_aload_n (i := 0) (dxX7_sum_0 24 rfl) rfl rfl ?_
        refine x_dup (dxX7_sum_0 25 rfl) rfl ?_
        refine gf_7_48 (kd_16 hLs3) rfl (dxX7_sum_0 26 rfl) ?_
        refine x_iconst (v := 1) (dxX7_sum_0 27 rfl) rfl ?_
        refine x_iadd (dxX7_sum_0 28 rfl) ?_
        refine pf_7_48 (kd_16 hLs3) (dxX7_sum_0 29 rfl) ?_
        refine x_sto (fun s29 e30 => ?_)
        replace h := h s29 e30
        have hKs29 : kd s29 = kd σ := by rw [e30]; exact hKs3
        have hLs29 : Lay s29 := by rw [e30]; exact hLs3.si
        have hTs29 : mr s29 16 4 = some 11 := by rw [e30]; exact hTs3
        refine x_iload (dxX7_sum_0 30 rfl) rfl ?_
        refine x_aload_n (i := 0) (dxX7_sum_0 31 rfl) rfl rfl ?_
        refine x_iload_n (i := 1) (dxX7_sum_1 0 rfl) rfl rfl ?_
        refine cl_7_118 (kd_16 hLs29) (Nat.le_of_ble_eq_true rfl) (dxX7_sum_1 1 rfl) h (fun v32 s31 h => ?_) (Nat.le_refl _) (Nat.le_refl _)
        obtain ⟨hFs31, h⟩ := h
        have hKs31 : kd s31 = kd σ := hFs31.1.trans hKs29
        have hLs31 : Lay s31 := hLs29.fr hFs31
        have hTs31 : mr s31 16 4 = some 11 := by rw [hFs31.2]; exact hTs29
        refine x_imul (dxX7_sum_1 2 rfl) ?_
        refine x_topi (fun x33 e34 => ?_)
        replace h := h x33 e34
        refine x_istore (dxX7_sum_1 3 rfl) (Nat.le_of_ble_eq_true rfl) rfl rfl ?_
        refine x_goto (tgt := 120) (dxX7_sum_1 4 rfl) (by decide) ?_
        obtain ⟨x35, e36⟩ : ∃ y : Int32, y = l5 + 1 := ⟨_, rfl⟩
        replace h := h x35 e36
        refine x_iinc (v := x35) (dxX7_sum_2 2 rfl) (i := 5) rfl (by rw [e36]; rfl) (Nat.le_of_ble_eq_true rfl) rfl rfl ?_
        refine x_goto (tgt := 14) (dxX7_sum_2 3 rfl) (by decide) ?_
        refine x_mask [true, true, true, true, true, true, false] (L1 := [some (.ref 16), some (.int l1), some (.int l2), some (.int l3), some (.int x33), some (.int x35), none]) rfl ?_
        exact h
theorem vcX7_part {g : GV} {d : Nat} {P : Int32 → PS → Prop} {σ : PS} (hL : Lay σ) (hT : mr σ 16 4 = some 11) (p0 : Int32) (h : ((mi σ 16 6) = 0 → ∀ x1 : Int32, x1 = mi σ 16 5 → CX7_kind g d [.ref 16] σ (fun (v4 : Int32) (s3 : PS) => Fr σ s3 ∧ (v4 = 2 → VX7_part g (d + 1) P 43 [some (.ref 16), some (.int p0), some (.int x1), some (.int v4), none, none] [] s3) ∧ (¬ v4 = 2 → (v4 = 3 → VX7_part g (d + 1) P 43 [some (.ref 16), some (.int p0), some (.int x1), some (.int v4), none, none] [] s3) ∧ (¬ v4 = 3 → (v4 = 40 → VX7_part g (d + 1) P 43 [some (.ref 16), some (.int p0), some (.int x1), some (.int v4), none, none] [] s3) ∧ (¬ v4 = 40 → CX7_fail g d [.ref 16, .int x1, .int 1] s3 (fun (s5 : PS) => Fr s3 s5 ∧ P 0 s5)))))) ∧ (¬ (mi σ 16 6) = 0 → P 0 σ)) : CX7_part g (d + 1) [.ref 16, .int p0] σ P := by
  refine x_entry (L := [some (.ref 16), some (.int p0), none, none, none, none]) pn_7 (Nat.le_of_ble_eq_true rfl) ⟨4, rfl⟩ ?_
  show VX7_part g (d + 1) P 0 [some (.ref 16), some (.int p0), none, none, none, none] [] σ
  refine x_aload_n (i := 0) (dxX7_part_0 0 rfl) rfl rfl ?_
  refine gf_7_35 (kd_16 hL) rfl (dxX7_part_0 1 rfl) ?_
  refine x_if_eq (tgt := 9) (dxX7_part_0 2 rfl) (by decide) (fun hc => ?_) (fun hc => ?_)
  · replace h := h.1 hc
    refine x_aload_n (i := 0) (dxX7_part_0 5 rfl) rfl rfl ?_
    refine gf_7_48 (kd_16 hL) rfl (dxX7_part_0 6 rfl) ?_
    refine x_topi (fun x1 e2 => ?_)
    replace h := h x1 e2
    refine x_istore_n (i := 2) (dxX7_part_0 7 rfl) rfl (Nat.le_of_ble_eq_true rfl) rfl rfl ?_
    refine x_aload_n (i := 0) (dxX7_part_0 8 rfl) rfl rfl ?_
    refine cl_7_54 (kd_16 hL) (Nat.le_of_ble_eq_true rfl) (dxX7_part_0 9 rfl) h (fun v4 s3 h => ?_) (Nat.le_refl _) (Nat.le_refl _)
    obtain ⟨hFs3, h⟩ := h
    have hKs3 : kd s3 = kd σ := hFs3.1.trans (rfl : kd σ = kd σ)
    have hLs3 : Lay s3 := hL.fr hFs3
    have hTs3 : mr s3 16 4 = some 11 := by rw [hFs3.2]; exact hT
    refine x_istore_n (i := 3) (dxX7_part_0 10 rfl) rfl (Nat.le_of_ble_eq_true rfl) rfl rfl ?_
    refine x_iload_n (i := 3) (dxX7_part_0 11 rfl) rfl rfl ?_
    refine x_iconst (v := 2) (dxX7_part_0 12 rfl) rfl ?_
    refine x_icmp_eq (tgt := 43) (dxX7_part_0 13 rfl) (by decide) (fun hc => ?_) (fun hc => ?_)
    · replace h := h.1 hc
      exact h
    · replace h := h.2 hc
      refine x_iload_n (i := 3) (dxX7_part_0 14 rfl) rfl rfl ?_
      refine x_iconst (v := 3) (dxX7_part_0 15 rfl) rfl ?_
      refine x_icmp_eq (tgt := 43) (dxX7_part_0 16 rfl) (by decide) (fun hc => ?_) (fun hc => ?_)
      · replace h := h.1 hc
        exact h
      · replace h := h.2 hc
        refine x_iload_n (i := 3) (dxX7_part_0 17 rfl) rfl rfl ?_
        refine x_bipush (v := 40) (dxX7_part_0 18 rfl) rfl ?_
        refine x_icmp_eq (tgt := 43) (dxX7_part_0 19 rfl) (by decide) (fun hc => ?_) (fun hc => ?_)
        · replace h := h.1 hc
          exact h
        · replace h := h.2 hc
          refine x_aload_n (i := 0) (dxX7_part_0 20 rfl) rfl rfl ?_
          refine x_iload_n (i := 2) (dxX7_part_0 21 rfl) rfl rfl ?_
          refine x_iconst (v := 1) (dxX7_part_0 22 rfl) rfl ?_
          refine cl_7_77 (kd_16 hLs3) (Nat.le_of_ble_eq_true rfl) (dxX7_part_0 23 rfl) h (fun s5 h => ?_) (Nat.le_refl _) (Nat.le_refl _)
          obtain ⟨hFs5, h⟩ := h
          have hKs5 : kd s5 = kd σ := hFs5.1.trans hKs3
          have hLs5 : Lay s5 := hLs3.fr hFs5
          have hTs5 : mr s5 16 4 = some 11 := by rw [hFs5.2]; exact hTs3
          refine x_iconst (v := 0) (dxX7_part_0 24 rfl) rfl ?_
          exact x_iret (ty := .int) rfl rfl (dxX7_part_0 25 rfl) ⟨_, rfl, h⟩
  · replace h := h.2 hc
    refine x_iconst (v := 0) (dxX7_part_0 3 rfl) rfl ?_
    exact x_iret (ty := .int) rfl rfl (dxX7_part_0 4 rfl) ⟨_, rfl, h⟩
theorem vcX7_part_43 {g : GV} {d : Nat} {P : Int32 → PS → Prop} {σ : PS} (hL : Lay σ) (hT : mr σ 16 4 = some 11) (l1 : Int32) (l2 : Int32) (l3 : Int32) (h : (¬ l3 = 3 → (l1 < 5 → ∀ s7 : PS, s7 = si σ 16 5 ((mi σ 16 5) + 1) → (¬ l3 = 2 → (¬ l3 = 3 → CX7_sum g d [.ref 16, .int (l1 + 1)] s7 (fun (v10 : Int32) (s9 : PS) => Fr s7 s9 ∧ CX7_expect g d [.ref 16, .int 41] s9 (fun (s11 : PS) => Fr s9 s11 ∧ P v10 s11))) ∧ (l3 = 3 → P (mi s7 19 (Int32.toNatClampNeg 0)) s7)) ∧ (l3 = 2 → vp_in l2 1001 ∧ P (Int64.toInt32 (ml s7 15 (Int32.toNatClampNeg l2))) s7)) ∧ (¬ l1 < 5 → CX7_fail g d [.ref 16, .int l2, .int 5] σ (fun (s14 : PS) => Fr σ s14 ∧ P 0 s14))) ∧ (l3 = 3 → CX7_slotOf g d [.ref 16, .int l2] σ (fun (v17 : Int32) (s16 : PS) => Fr σ s16 ∧ (¬ v17 = (-1) → (l1 < 5 → ∀ s18 : PS, s18 = si s16 16 5 ((mi s16 16 5) + 1) → (¬ l3 = 2 → (¬ l3 = 3 → CX7_sum g d [.ref 16, .int (l1 + 1)] s18 (fun (v21 : Int32) (s20 : PS) => Fr s18 s20 ∧ CX7_expect g d [.ref 16, .int 41] s20 (fun (s22 : PS) => Fr s20 s22 ∧ P v21 s22))) ∧ (l3 = 3 → vp_in v17 8 ∧ P (mi s18 19 (Int32.toNatClampNeg v17)) s18)) ∧ (l3 = 2 → vp_in l2 1001 ∧ P (Int64.toInt32 (ml s18 15 (Int32.toNatClampNeg l2))) s18)) ∧ (¬ l1 < 5 → CX7_fail g d [.ref 16, .int l2, .int 5] s16 (fun (s26 : PS) => Fr s16 s26 ∧ P 0 s26))) ∧ (v17 = (-1) → CX7_fail g d [.ref 16, .int l2, .int 2] s16 (fun (s28 : PS) => Fr s16 s28 ∧ P 0 s28))))) : VX7_part g (d + 1) P 43 [some (.ref 16), some (.int l1), some (.int l2), some (.int l3), none, none] [] σ := by
  refine x_iload_n (i := 3) (dxX7_part_0 26 rfl) rfl rfl ?_
  refine x_iconst (v := 3) (dxX7_part_0 27 rfl) rfl ?_
  refine x_icmp_ne (tgt := 56) (dxX7_part_0 28 rfl) (by decide) (fun hc => ?_) (fun hc => ?_)
  · replace h := h.1 hc
    refine x_iconst (v := 0) (dxX7_part_1 1 rfl) rfl ?_
    refine x_istore (dxX7_part_1 2 rfl) (Nat.le_of_ble_eq_true rfl) rfl rfl ?_
    refine x_iload (dxX7_part_1 3 rfl) rfl ?_
    refine x_iconst (v := (-1)) (dxX7_part_1 4 rfl) rfl ?_
    refine x_icmp_ne (tgt := 73) (dxX7_part_1 5 rfl) (by decide) (fun hc => ?_) (fun hc => ?_)
    · clear hc
      refine x_iload_n (i := 1) (dxX7_part_1 12 rfl) rfl rfl ?_
      refine x_iconst (v := 5) (dxX7_part_1 13 rfl) rfl ?_
      refine x_icmp_lt (tgt := 86) (dxX7_part_1 14 rfl) (by decide) (fun hc => ?_) (fun hc => ?_)
      · replace h := h.1 hc
        refine x_aload_n (i := 0) (dxX7_part_1 21 rfl) rfl rfl ?_
        refine x_dup (dxX7_part_1 22 rfl) rfl ?_
        refine gf_7_48 (kd_16 hL) rfl (dxX7_part_1 23 rfl) ?_
        refine x_iconst (v := 1) (dxX7_part_1 24 rfl) rfl ?_
        refine x_iadd (dxX7_part_1 25 rfl) ?_
        refine pf_7_48 (kd_16 hL) (dxX7_part_1 26 rfl) ?_
        refine x_sto (fun s7 e8 => ?_)
        replace h := h s7 e8
        have hKs7 : kd s7 = kd σ := by rw [e8]; exact (rfl : kd σ = kd σ)
        have hLs7 : Lay s7 := by rw [e8]; exact hL.si
        have hTs7 : mr s7 16 4 = some 11 := by rw [e8]; exact hT
        refine x_iload_n (i := 3) (dxX7_part_1 27 rfl) rfl rfl ?_
        refine x_iconst (v := 2) (dxX7_part_1 28 rfl) rfl ?_
        refine x_icmp_ne (tgt := 112) (dxX7_part_1 29 rfl) (by decide) (fun hc => ?_) (fun hc => ?_)
        · replace h := h.1 hc
          refine x_iload_n (i := 3) (dxX7_part_2 5 rfl) rfl rfl ?_
          refine x_iconst (v := 3) (dxX7_part_2 6 rfl) rfl ?_
          refine x_icmp_ne (tgt := 125) (dxX7_part_2 7 rfl) (by decide) (fun hc => ?_) (fun hc => ?_)
          · replace h := h.1 hc
            refine x_aload_n (i := 0) (dxX7_part_2 13 rfl) rfl rfl ?_
            refine x_iload_n (i := 1) (dxX7_part_2 14 rfl) rfl rfl ?_
            refine x_iconst (v := 1) (dxX7_part_2 15 rfl) rfl ?_
            refine x_iadd (dxX7_part_2 16 rfl) ?_
            refine cl_7_84 (kd_16 hLs7) (Nat.le_of_ble_eq_true rfl) (dxX7_part_2 17 rfl) h (fun v10 s9 h => ?_) (Nat.le_refl _) (Nat.le_refl _)
            obtain ⟨hFs9, h⟩ := h
            have hKs9 : kd s9 = kd σ := hFs9.1.trans hKs7
            have hLs9 : Lay s9 := hLs7.fr hFs9
            have hTs9 : mr s9 16 4 = some 11 := by rw [hFs9.2]; exact hTs7
            refine x_istore (dxX7_part_2 18 rfl) (Nat.le_of_ble_eq_true rfl) rfl rfl ?_
            refine x_aload_n (i := 0) (dxX7_part_2 19 rfl) rfl rfl ?_
            refine x_bipush (v := 41) (dxX7_part_2 20 rfl) rfl ?_
            refine cl_7_68 (kd_16 hLs9) (Nat.le_of_ble_eq_true rfl) (dxX7_part_2 21 rfl) h (fun s11 h => ?_) (Nat.le_refl _) (Nat.le_refl _)
            obtain ⟨hFs11, h⟩ := h
            have hKs11 : kd s11 = kd σ := hFs11.1.trans hKs9
            have hLs11 : Lay s11 := hLs9.fr hFs11
            have hTs11 : mr s11 16 4 = some 11 := by rw [hFs11.2]; exact hTs9
            refine x_iload (dxX7_part_2 22 rfl) rfl ?_
            exact x_iret (ty := .int) rfl rfl (dxX7_part_2 23 rfl) ⟨_, rfl, h⟩
          · replace h := h.2 hc
            refine x_aload_n (i := 0) (dxX7_part_2 8 rfl) rfl rfl ?_
            refine gf_7_19 (kd_16 hLs7) (rv_16_2 hLs7) (dxX7_part_2 9 rfl) ?_
            refine x_iload (dxX7_part_2 10 rfl) rfl ?_
            refine x_iald (kd_19 hLs7) (vpl 8 0 rfl) (dxX7_part_2 11 rfl) ?_
            exact x_iret (ty := .int) rfl rfl (dxX7_part_2 12 rfl) ⟨_, rfl, h⟩
        · replace h := h.2 hc
          refine x_aload_n (i := 0) (dxX7_part_1 30 rfl) rfl rfl ?_
          refine gf_7_22 (kd_16 hLs7) (rv_text hTs7) (dxX7_part_1 31 rfl) ?_
          refine gf_7_96 (kd_11 hLs7) (rv_11_4 hLs7) (dxX7_part_2 0 rfl) ?_
          refine x_iload_n (i := 2) (dxX7_part_2 1 rfl) rfl rfl ?_
          obtain ⟨hi13, h⟩ := h
          refine x_lald (kd_15 hLs7) hi13 (dxX7_part_2 2 rfl) ?_
          refine x_l2i (dxX7_part_2 3 rfl) ?_
          exact x_iret (ty := .int) rfl rfl (dxX7_part_2 4 rfl) ⟨_, rfl, h⟩
      · replace h := h.2 hc
        refine x_aload_n (i := 0) (dxX7_part_1 15 rfl) rfl rfl ?_
        refine x_iload_n (i := 2) (dxX7_part_1 16 rfl) rfl rfl ?_
        refine x_iconst (v := 5) (dxX7_part_1 17 rfl) rfl ?_
        refine cl_7_77 (kd_16 hL) (Nat.le_of_ble_eq_true rfl) (dxX7_part_1 18 rfl) h (fun s14 h => ?_) (Nat.le_refl _) (Nat.le_refl _)
        obtain ⟨hFs14, h⟩ := h
        have hKs14 : kd s14 = kd σ := hFs14.1.trans (rfl : kd σ = kd σ)
        have hLs14 : Lay s14 := hL.fr hFs14
        have hTs14 : mr s14 16 4 = some 11 := by rw [hFs14.2]; exact hT
        refine x_iconst (v := 0) (dxX7_part_1 19 rfl) rfl ?_
        exact x_iret (ty := .int) rfl rfl (dxX7_part_1 20 rfl) ⟨_, rfl, h⟩
    · exact absurd hc (by decide)
  · replace h := h.2 hc
    refine x_aload_n (i := 0) (dxX7_part_0 29 rfl) rfl rfl ?_
    refine x_iload_n (i := 2) (dxX7_part_0 30 rfl) rfl rfl ?_
    refine cl_7_93 (kd_16 hL) (Nat.le_of_ble_eq_true rfl) (dxX7_part_0 31 rfl) h (fun v17 s16 h => ?_) (Nat.le_refl _) (Nat.le_refl _)
    obtain ⟨hFs16, h⟩ := h
    have hKs16 : kd s16 = kd σ := hFs16.1.trans (rfl : kd σ = kd σ)
    have hLs16 : Lay s16 := hL.fr hFs16
    have hTs16 : mr s16 16 4 = some 11 := by rw [hFs16.2]; exact hT
    refine x_goto (tgt := 57) (dxX7_part_1 0 rfl) (by decide) ?_
    refine x_istore (dxX7_part_1 2 rfl) (Nat.le_of_ble_eq_true rfl) rfl rfl ?_
    refine x_iload (dxX7_part_1 3 rfl) rfl ?_
    refine x_iconst (v := (-1)) (dxX7_part_1 4 rfl) rfl ?_
    refine x_icmp_ne (tgt := 73) (dxX7_part_1 5 rfl) (by decide) (fun hc => ?_) (fun hc => ?_)
    · replace h := h.1 hc
      refine x_iload_n (i := 1) (dxX7_part_1 12 rfl) rfl rfl ?_
      refine x_iconst (v := 5) (dxX7_part_1 13 rfl) rfl ?_
      refine x_icmp_lt (tgt := 86) (dxX7_part_1 14 rfl) (by decide) (fun hc => ?_) (fun hc => ?_)
      · replace h := h.1 hc
        refine x_aload_n (i := 0) (dxX7_part_1 21 rfl) rfl rfl ?_
        refine x_dup (dxX7_part_1 22 rfl) rfl ?_
        refine gf_7_48 (kd_16 hLs16) rfl (dxX7_part_1 23 rfl) ?_
        refine x_iconst (v := 1) (dxX7_part_1 24 rfl) rfl ?_
        refine x_iadd (dxX7_part_1 25 rfl) ?_
        refine pf_7_48 (kd_16 hLs16) (dxX7_part_1 26 rfl) ?_
        refine x_sto (fun s18 e19 => ?_)
        replace h := h s18 e19
        have hKs18 : kd s18 = kd σ := by rw [e19]; exact hKs16
        have hLs18 : Lay s18 := by rw [e19]; exact hLs16.si
        have hTs18 : mr s18 16 4 = some 11 := by rw [e19]; exact hTs16
        refine x_iload_n (i := 3) (dxX7_part_1 27 rfl) rfl rfl ?_
        refine x_iconst (v := 2) (dxX7_part_1 28 rfl) rfl ?_
        refine x_icmp_ne (tgt := 112) (dxX7_part_1 29 rfl) (by decide) (fun hc => ?_) (fun hc => ?_)
        · replace h := h.1 hc
          refine x_iload_n (i := 3) (dxX7_part_2 5 rfl) rfl rfl ?_
          refine x_iconst (v := 3) (dxX7_part_2 6 rfl) rfl ?_
          refine x_icmp_ne (tgt := 125) (dxX7_part_2 7 rfl) (by decide) (fun hc => ?_) (fun hc => ?_)
          · replace h := h.1 hc
            refine x_aload_n (i := 0) (dxX7_part_2 13 rfl) rfl rfl ?_
            refine x_iload_n (i := 1) (dxX7_part_2 14 rfl) rfl rfl ?_
            refine x_iconst (v := 1) (dxX7_part_2 15 rfl) rfl ?_
            refine x_iadd (dxX7_part_2 16 rfl) ?_
            refine cl_7_84 (kd_16 hLs18) (Nat.le_of_ble_eq_true rfl) (dxX7_part_2 17 rfl) h (fun v21 s20 h => ?_) (Nat.le_refl _) (Nat.le_refl _)
            obtain ⟨hFs20, h⟩ := h
            have hKs20 : kd s20 = kd σ := hFs20.1.trans hKs18
            have hLs20 : Lay s20 := hLs18.fr hFs20
            have hTs20 : mr s20 16 4 = some 11 := by rw [hFs20.2]; exact hTs18
            refine x_istore (dxX7_part_2 18 rfl) (Nat.le_of_ble_eq_true rfl) rfl rfl ?_
            refine x_aload_n (i := 0) (dxX7_part_2 19 rfl) rfl rfl ?_
            refine x_bipush (v := 41) (dxX7_part_2 20 rfl) rfl ?_
            refine cl_7_68 (kd_16 hLs20) (Nat.le_of_ble_eq_true rfl) (dxX7_part_2 21 rfl) h (fun s22 h => ?_) (Nat.le_refl _) (Nat.le_refl _)
            obtain ⟨hFs22, h⟩ := h
            have hKs22 : kd s22 = kd σ := hFs22.1.trans hKs20
            have hLs22 : Lay s22 := hLs20.fr hFs22
            have hTs22 : mr s22 16 4 = some 11 := by rw [hFs22.2]; exact hTs20
            refine x_iload (dxX7_part_2 22 rfl) rfl ?_
            exact x_iret (ty := .int) rfl rfl (dxX7_part_2 23 rfl) ⟨_, rfl, h⟩
          · replace h := h.2 hc
            refine x_aload_n (i := 0) (dxX7_part_2 8 rfl) rfl rfl ?_
            refine gf_7_19 (kd_16 hLs18) (rv_16_2 hLs18) (dxX7_part_2 9 rfl) ?_
            refine x_iload (dxX7_part_2 10 rfl) rfl ?_
            obtain ⟨hi24, h⟩ := h
            refine x_iald (kd_19 hLs18) hi24 (dxX7_part_2 11 rfl) ?_
            exact x_iret (ty := .int) rfl rfl (dxX7_part_2 12 rfl) ⟨_, rfl, h⟩
        · replace h := h.2 hc
          refine x_aload_n (i := 0) (dxX7_part_1 30 rfl) rfl rfl ?_
          refine gf_7_22 (kd_16 hLs18) (rv_text hTs18) (dxX7_part_1 31 rfl) ?_
          refine gf_7_96 (kd_11 hLs18) (rv_11_4 hLs18) (dxX7_part_2 0 rfl) ?_
          refine x_iload_n (i := 2) (dxX7_part_2 1 rfl) rfl rfl ?_
          obtain ⟨hi25, h⟩ := h
          refine x_lald (kd_15 hLs18) hi25 (dxX7_part_2 2 rfl) ?_
          refine x_l2i (dxX7_part_2 3 rfl) ?_
          exact x_iret (ty := .int) rfl rfl (dxX7_part_2 4 rfl) ⟨_, rfl, h⟩
      · replace h := h.2 hc
        refine x_aload_n (i := 0) (dxX7_part_1 15 rfl) rfl rfl ?_
        refine x_iload_n (i := 2) (dxX7_part_1 16 rfl) rfl rfl ?_
        refine x_iconst (v := 5) (dxX7_part_1 17 rfl) rfl ?_
        refine cl_7_77 (kd_16 hLs16) (Nat.le_of_ble_eq_true rfl) (dxX7_part_1 18 rfl) h (fun s26 h => ?_) (Nat.le_refl _) (Nat.le_refl _)
        obtain ⟨hFs26, h⟩ := h
        have hKs26 : kd s26 = kd σ := hFs26.1.trans hKs16
        have hLs26 : Lay s26 := hLs16.fr hFs26
        have hTs26 : mr s26 16 4 = some 11 := by rw [hFs26.2]; exact hTs16
        refine x_iconst (v := 0) (dxX7_part_1 19 rfl) rfl ?_
        exact x_iret (ty := .int) rfl rfl (dxX7_part_1 20 rfl) ⟨_, rfl, h⟩
    · replace h := h.2 hc
      refine x_aload_n (i := 0) (dxX7_part_1 6 rfl) rfl rfl ?_
      refine x_iload_n (i := 2) (dxX7_part_1 7 rfl) rfl rfl ?_
      refine x_iconst (v := 2) (dxX7_part_1 8 rfl) rfl ?_
      refine cl_7_77 (kd_16 hLs16) (Nat.le_of_ble_eq_true rfl) (dxX7_part_1 9 rfl) h (fun s28 h => ?_) (Nat.le_refl _) (Nat.le_refl _)
      obtain ⟨hFs28, h⟩ := h
      have hKs28 : kd s28 = kd σ := hFs28.1.trans hKs16
      have hLs28 : Lay s28 := hLs16.fr hFs28
      have hTs28 : mr s28 16 4 = some 11 := by rw [hFs28.2]; exact hTs16
      refine x_iconst (v := 0) (dxX7_part_1 10 rfl) rfl ?_
      exact x_iret (ty := .int) rfl rfl (dxX7_part_1 11 rfl) ⟨_, rfl, h⟩
