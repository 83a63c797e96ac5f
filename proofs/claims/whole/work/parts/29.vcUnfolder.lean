theorem vcX9_work {g : GV} {d : Nat} {P : PS → Prop} {σ : PS} (hL : Lay σ)  (h : (¬ (mi σ 149 1) = 0 → P σ) ∧ ((mi σ 149 1) = 0 → ((mi σ 129 0) ≤ 8 → ∀ s1 : PS, s1 = si σ 149 1 1 → ∀ s3 : PS, s3 = si s1 149 2 0 → ∀ s5 : PS, s5 = si s3 149 3 0 → ∀ s7 : PS, s7 = si s5 149 4 0 → CJ7_fill_d0a16 g d [.ref 166, .long 0] s7 (fun (s9 : PS) => Fr s7 s9 ∧ VX9_work g (d + 1) P 50 [some (.ref 149), some (.int 0)] [] s9)) ∧ (¬ (mi σ 129 0) ≤ 8 → P σ))) : CX9_work g (d + 1) [.ref 149] σ P := by
  refine x_entry (L := [some (.ref 149), none]) pn_9 (Nat.le_of_ble_eq_true rfl) ⟨1, rfl⟩ ?_
  show VX9_work g (d + 1) P 0 [some (.ref 149), none] [] σ
  refine x_aload_n (i := 0) (dxX9_work_0 0 rfl) rfl rfl ?_
  refine gf_9_47 (kd_149 hL) rfl (dxX9_work_0 1 rfl) ?_
  refine x_if_ne (tgt := 19) (dxX9_work_0 2 rfl) (by decide) (fun hc => ?_) (fun hc => ?_)
  · replace h := h.1 hc
    exact x_vret rfl (dxX9_work_0 8 rfl) ⟨rfl, h⟩
  · replace h := h.2 hc
    refine x_aload_n (i := 0) (dxX9_work_0 3 rfl) rfl rfl ?_
    refine gf_9_43 (kd_149 hL) (rv_149_0 hL) (dxX9_work_0 4 rfl) ?_
    refine gf_9_51 (kd_129 hL) rfl (dxX9_work_0 5 rfl) ?_
    refine x_bipush (v := 8) (dxX9_work_0 6 rfl) rfl ?_
    refine x_icmp_le (tgt := 20) (dxX9_work_0 7 rfl) (by decide) (fun hc => ?_) (fun hc => ?_)
    · replace h := h.1 hc
      refine x_aload_n (i := 0) (dxX9_work_0 9 rfl) rfl rfl ?_
      refine x_iconst (v := 1) (dxX9_work_0 10 rfl) rfl ?_
      refine pf_9_47 (Or.inr rfl) (kd_149 hL) (dxX9_work_0 11 rfl) ?_
      refine x_sto (fun s1 e2 => ?_)
      replace h := h s1 e2
      have hKs1 : kd s1 = kd σ := by rw [e2]; exact (rfl : kd σ = kd σ)
      have hLs1 : Lay s1 := by rw [e2]; exact hL.si
      refine x_aload_n (i := 0) (dxX9_work_0 12 rfl) rfl rfl ?_
      refine x_iconst (v := 0) (dxX9_work_0 13 rfl) rfl ?_
      refine pf_9_57 (kd_149 hLs1) (dxX9_work_0 14 rfl) ?_
      refine x_sto (fun s3 e4 => ?_)
      replace h := h s3 e4
      have hKs3 : kd s3 = kd σ := by rw [e4]; exact hKs1
      have hLs3 : Lay s3 := by rw [e4]; exact hLs1.si
      refine x_aload_n (i := 0) (dxX9_work_0 15 rfl) rfl rfl ?_
      refine x_iconst (v := 0) (dxX9_work_0 16 rfl) rfl ?_
      refine pf_9_60 (kd_149 hLs3) (dxX9_work_0 17 rfl) ?_
      refine x_sto (fun s5 e6 => ?_)
      replace h := h s5 e6
      have hKs5 : kd s5 = kd σ := by rw [e6]; exact hKs3
      have hLs5 : Lay s5 := by rw [e6]; exact hLs3.si
      refine x_aload_n (i := 0) (dxX9_work_0 18 rfl) rfl rfl ?_
      refine x_iconst (v := 0) (dxX9_work_0 19 rfl) rfl ?_
      refine pf_9_63 (kd_149 hLs5) (dxX9_work_0 20 rfl) ?_
      refine x_sto (fun s7 e8 => ?_)
      replace h := h s7 e8
      have hKs7 : kd s7 = kd σ := by rw [e8]; exact hKs5
      have hLs7 : Lay s7 := by rw [e8]; exact hLs5.si
      refine x_aload_n (i := 0) (dxX9_work_0 21 rfl) rfl rfl ?_
      refine gf_9_39 (kd_149 hLs7) (rv_149_15 hLs7) (dxX9_work_0 22 rfl) ?_
      refine x_lconst (v := 0) (dxX9_work_0 23 rfl) rfl ?_
      refine cl_9_66 (Nat.le_of_ble_eq_true rfl) (dxX9_work_0 24 rfl) h (fun s9 h => ?_) (Nat.le_refl _) (Nat.le_refl _)
      obtain ⟨hFs9, h⟩ := h
      have hKs9 : kd s9 = kd σ := hFs9.1.trans hKs7
      have hLs9 : Lay s9 := hLs7.fr hFs9
      refine x_iconst (v := 0) (dxX9_work_0 25 rfl) rfl ?_
      refine x_istore_n (i := 1) (dxX9_work_0 26 rfl) rfl (Nat.le_of_ble_eq_true rfl) rfl rfl ?_
      exact h
    · replace h := h.2 hc
      exact x_vret rfl (dxX9_work_0 8 rfl) ⟨rfl, h⟩
theorem vcX9_work_50 {g : GV} {d : Nat} {P : PS → Prop} {σ : PS} (hL : Lay σ) (l1 : Int32) (h : ((mi σ 129 0) ≤ l1 → CX9_listPairs g d [.ref 149] σ (fun (s11 : PS) => Fr σ s11 ∧ CX9_search g d [.ref 149, .int 0, .int 0] s11 (fun (s13 : PS) => Fr s11 s13 ∧ P s13))) ∧ (¬ (mi σ 129 0) ≤ l1 → ∃ a15 : Nat, mr σ 153 (Int32.toNatClampNeg 0) = some a15 ∧ ∃ n17, kd σ a15 = some (.inr (0, n17)) ∧ vp_in l1 n17 ∧ ∀ s20 : PS, s20 = si σ a15 (Int32.toNatClampNeg l1) l1 → ∀ x22 : Int32, x22 = l1 + 1 → VX9_work g (d + 1) P 50 [some (.ref 149), some (.int x22)] [] s20)) : VX9_work g (d + 1) P 50 [some (.ref 149), some (.int l1)] [] σ := by
  refine x_iload_n (i := 1) (dxX9_work_0 27 rfl) rfl rfl ?_
  refine x_aload_n (i := 0) (dxX9_work_0 28 rfl) rfl rfl ?_
  refine gf_9_43 (kd_149 hL) (rv_149_0 hL) (dxX9_work_0 29 rfl) ?_
  refine gf_9_51 (kd_129 hL) rfl (dxX9_work_0 30 rfl) ?_
  refine x_icmp_ge (tgt := 76) (dxX9_work_0 31 rfl) (by decide) (fun hc => ?_) (fun hc => ?_)
  · replace h := h.1 hc
    refine x_aload_n (i := 0) (dxX9_work_1 9 rfl) rfl rfl ?_
    refine cl_9_72 (kd_149 hL) (Nat.le_of_ble_eq_true rfl) (dxX9_work_1 10 rfl) h (fun s11 h => ?_) (Nat.le_refl _) (Nat.le_refl _)
    obtain ⟨hFs11, h⟩ := h
    have hKs11 : kd s11 = kd σ := hFs11.1.trans (rfl : kd σ = kd σ)
    have hLs11 : Lay s11 := hL.fr hFs11
    refine x_aload_n (i := 0) (dxX9_work_1 11 rfl) rfl rfl ?_
    refine x_iconst (v := 0) (dxX9_work_1 12 rfl) rfl ?_
    refine x_iconst (v := 0) (dxX9_work_1 13 rfl) rfl ?_
    refine cl_9_75 (kd_149 hLs11) (Nat.le_of_ble_eq_true rfl) (dxX9_work_1 14 rfl) h (fun s13 h => ?_) (Nat.le_refl _) (Nat.le_refl _)
    obtain ⟨hFs13, h⟩ := h
    have hKs13 : kd s13 = kd σ := hFs13.1.trans hKs11
    have hLs13 : Lay s13 := hLs11.fr hFs13
    exact x_vret rfl (dxX9_work_1 15 rfl) ⟨rfl, h⟩
  · replace h := h.2 hc
    refine x_aload_n (i := 0) (dxX9_work_1 0 rfl) rfl rfl ?_
    refine gf_9_24 (kd_149 hL) (rv_149_9 hL) (dxX9_work_1 1 rfl) ?_
    refine x_iconst (v := 0) (dxX9_work_1 2 rfl) rfl ?_
    obtain ⟨a15, ha16, h⟩ := h
    refine x_aald (Or.inl rfl) (kd_153 hL) (vpl 8 0 rfl) ha16 (dxX9_work_1 3 rfl) ?_
    refine x_iload_n (i := 1) (dxX9_work_1 4 rfl) rfl rfl ?_
    refine x_iload_n (i := 1) (dxX9_work_1 5 rfl) rfl rfl ?_
    obtain ⟨n17, hk18, h⟩ := h
    obtain ⟨hi19, h⟩ := h
    refine x_iast ((congrFun (rfl : kd σ = kd σ) _).trans ((congrFun (rfl : kd σ = kd σ) _).symm.trans hk18)) hi19 (dxX9_work_1 6 rfl) ?_
    refine x_sto (fun s20 e21 => ?_)
    replace h := h s20 e21
    have hKs20 : kd s20 = kd σ := by rw [e21]; exact (rfl : kd σ = kd σ)
    have hLs20 : Lay s20 := by rw [e21]; exact hL.si
    obtain ⟨x22, e23⟩ : ∃ y : Int32, y = l1 + 1 := ⟨_, rfl⟩
    replace h := h x22 e23
    refine x_iinc (v := x22) (dxX9_work_1 7 rfl) (i := 1) rfl (by rw [e23]; rfl) (Nat.le_of_ble_eq_true rfl) rfl rfl ?_
    refine x_goto (tgt := 50) (dxX9_work_1 8 rfl) (by decide) ?_
    exact h
theorem vcX9_listPairs {g : GV} {d : Nat} {P : PS → Prop} {σ : PS} (hL : Lay σ)  (h : ∀ s1 : PS, s1 = si σ 149 7 0 → VX9_listPairs g d P 7 [some (.ref 149), some (.int 0), none] [] s1) : CX9_listPairs g d [.ref 149] σ P := by
  refine x_entry (L := [some (.ref 149), none, none]) pn_9 (Nat.le_of_ble_eq_true rfl) ⟨2, rfl⟩ ?_
  show VX9_listPairs g d P 0 [some (.ref 149), none, none] [] σ
  refine x_aload_n (i := 0) (dxX9_listPairs_0 0 rfl) rfl rfl ?_
  refine x_iconst (v := 0) (dxX9_listPairs_0 1 rfl) rfl ?_
  refine pf_9_79 (kd_149 hL) (dxX9_listPairs_0 2 rfl) ?_
  refine x_sto (fun s1 e2 => ?_)
  replace h := h s1 e2
  have hKs1 : kd s1 = kd σ := by rw [e2]; exact (rfl : kd σ = kd σ)
  have hLs1 : Lay s1 := by rw [e2]; exact hL.si
  refine x_iconst (v := 0) (dxX9_listPairs_0 3 rfl) rfl ?_
  refine x_istore_n (i := 1) (dxX9_listPairs_0 4 rfl) rfl (Nat.le_of_ble_eq_true rfl) rfl rfl ?_
  exact h
theorem vcX9_listPairs_7 {g : GV} {d : Nat} {P : PS → Prop} {σ : PS} (hL : Lay σ) (l1 : Int32) (h : (((mi σ 129 0) * 4) ≤ l1 → P σ) ∧ (¬ ((mi σ 129 0) * 4) ≤ l1 → vp_in l1 32 ∧ ∀ s4 : PS, s4 = si σ 152 (Int32.toNatClampNeg l1) (vp_nar .boolean 0) → vp_in l1 40 ∧ vp_in l1 40 ∧ ∀ x8 : Int32, x8 = ((mi s4 130 (Int32.toNatClampNeg l1)) * 4) + (mi s4 131 (Int32.toNatClampNeg l1)) → ((x8 / 4) ≤ (l1 / 4) → ∀ x10 : Int32, x10 = l1 + 1 → VX9_listPairs g d P 7 [some (.ref 149), some (.int x10), none] [] s4) ∧ (¬ (x8 / 4) ≤ (l1 / 4) → (16 ≤ (mi s4 149 7) → ∀ x12 : Int32, x12 = l1 + 1 → VX9_listPairs g d P 7 [some (.ref 149), some (.int x12), none] [] s4) ∧ (¬ 16 ≤ (mi s4 149 7) → vp_in (mi s4 149 7) 16 ∧ ∀ s15 : PS, s15 = si s4 150 (Int32.toNatClampNeg (mi s4 149 7)) l1 → vp_in (mi s15 149 7) 16 ∧ ∀ s18 : PS, s18 = si s15 151 (Int32.toNatClampNeg (mi s15 149 7)) x8 → ∀ s20 : PS, s20 = si s18 149 7 ((mi s18 149 7) + 1) → ∀ x22 : Int32, x22 = l1 + 1 → VX9_listPairs g d P 7 [some (.ref 149), some (.int x22), none] [] s20)))) : VX9_listPairs g d P 7 [some (.ref 149), some (.int l1), none] [] σ := by
  refine x_iload_n (i := 1) (dxX9_listPairs_0 5 rfl) rfl rfl ?_
  refine x_aload_n (i := 0) (dxX9_listPairs_0 6 rfl) rfl rfl ?_
  refine gf_9_43 (kd_149 hL) (rv_149_0 hL) (dxX9_listPairs_0 7 rfl) ?_
  refine gf_9_51 (kd_129 hL) rfl (dxX9_listPairs_0 8 rfl) ?_
  refine x_iconst (v := 4) (dxX9_listPairs_0 9 rfl) rfl ?_
  refine x_imul (dxX9_listPairs_0 10 rfl) ?_
  refine x_icmp_ge (tgt := 103) (dxX9_listPairs_0 11 rfl) (by decide) (fun hc => ?_) (fun hc => ?_)
  · replace h := h.1 hc
    exact x_vret rfl (dxX9_listPairs_1 30 rfl) ⟨rfl, h⟩
  · replace h := h.2 hc
    refine x_aload_n (i := 0) (dxX9_listPairs_0 12 rfl) rfl rfl ?_
    refine gf_9_18 (kd_149 hL) (rv_149_8 hL) (dxX9_listPairs_0 13 rfl) ?_
    refine x_iload_n (i := 1) (dxX9_listPairs_0 14 rfl) rfl rfl ?_
    refine x_iconst (v := 0) (dxX9_listPairs_0 15 rfl) rfl ?_
    obtain ⟨hi3, h⟩ := h
    refine x_zast (kd_152 hL) hi3 (dxX9_listPairs_0 16 rfl) ?_
    refine x_sto (fun s4 e5 => ?_)
    replace h := h s4 e5
    have hKs4 : kd s4 = kd σ := by rw [e5]; exact (rfl : kd σ = kd σ)
    have hLs4 : Lay s4 := by rw [e5]; exact hL.si
    refine x_aload_n (i := 0) (dxX9_listPairs_0 17 rfl) rfl rfl ?_
    refine gf_9_43 (kd_149 hLs4) (rv_149_0 hLs4) (dxX9_listPairs_0 18 rfl) ?_
    refine gf_9_82 (kd_129 hLs4) (rv_129_1 hLs4) (dxX9_listPairs_0 19 rfl) ?_
    refine x_iload_n (i := 1) (dxX9_listPairs_0 20 rfl) rfl rfl ?_
    obtain ⟨hi6, h⟩ := h
    refine x_iald (kd_130 hLs4) hi6 (dxX9_listPairs_0 21 rfl) ?_
    refine x_iconst (v := 4) (dxX9_listPairs_0 22 rfl) rfl ?_
    refine x_imul (dxX9_listPairs_0 23 rfl) ?_
    refine x_aload_n (i := 0) (dxX9_listPairs_0 24 rfl) rfl rfl ?_
    refine gf_9_43 (kd_149 hLs4) (rv_149_0 hLs4) (dxX9_listPairs_0 25 rfl) ?_
    refine gf_9_85 (kd_129 hLs4) (rv_129_2 hLs4) (dxX9_listPairs_0 26 rfl) ?_
    refine x_iload_n (i := 1) (dxX9_listPairs_0 27 rfl) rfl rfl ?_
    obtain ⟨hi7, h⟩ := h
    refine x_iald (kd_131 hLs4) hi7 (dxX9_listPairs_0 28 rfl) ?_
    refine x_iadd (dxX9_listPairs_0 29 rfl) ?_
    refine x_topi (fun x8 e9 => ?_)
    replace h := h x8 e9
    refine x_istore_n (i := 2) (dxX9_listPairs_0 30 rfl) rfl (Nat.le_of_ble_eq_true rfl) rfl rfl ?_
    refine x_iload_n (i := 1) (dxX9_listPairs_0 31 rfl) rfl rfl ?_
    refine x_iconst (v := 4) (dxX9_listPairs_1 0 rfl) rfl ?_
    refine x_idiv (dxX9_listPairs_1 1 rfl) (by decide) ?_
    refine x_iload_n (i := 2) (dxX9_listPairs_1 2 rfl) rfl rfl ?_
    refine x_iconst (v := 4) (dxX9_listPairs_1 3 rfl) rfl ?_
    refine x_idiv (dxX9_listPairs_1 4 rfl) (by decide) ?_
    refine x_icmp_ge (tgt := 97) (dxX9_listPairs_1 5 rfl) (by decide) (fun hc => ?_) (fun hc => ?_)
    · replace h := h.1 hc
      obtain ⟨x10, e11⟩ : ∃ y : Int32, y = l1 + 1 := ⟨_, rfl⟩
      replace h := h x10 e11
      refine x_iinc (v := x10) (dxX9_listPairs_1 28 rfl) (i := 1) rfl (by rw [e11]; rfl) (Nat.le_of_ble_eq_true rfl) rfl rfl ?_
      refine x_goto (tgt := 7) (dxX9_listPairs_1 29 rfl) (by decide) ?_
      refine x_mask [true, true, false] (L1 := [some (.ref 149), some (.int x10), none]) rfl ?_
      exact h
    · replace h := h.2 hc
      refine x_aload_n (i := 0) (dxX9_listPairs_1 6 rfl) rfl rfl ?_
      refine gf_9_79 (kd_149 hLs4) rfl (dxX9_listPairs_1 7 rfl) ?_
      refine x_bipush (v := 16) (dxX9_listPairs_1 8 rfl) rfl ?_
      refine x_icmp_ge (tgt := 97) (dxX9_listPairs_1 9 rfl) (by decide) (fun hc => ?_) (fun hc => ?_)
      · replace h := h.1 hc
        obtain ⟨x12, e13⟩ : ∃ y : Int32, y = l1 + 1 := ⟨_, rfl⟩
        replace h := h x12 e13
        refine x_iinc (v := x12) (dxX9_listPairs_1 28 rfl) (i := 1) rfl (by rw [e13]; rfl) (Nat.le_of_ble_eq_true rfl) rfl rfl ?_
        refine x_goto (tgt := 7) (dxX9_listPairs_1 29 rfl) (by decide) ?_
        refine x_mask [true, true, false] (L1 := [some (.ref 149), some (.int x12), none]) rfl ?_
        exact h
      · replace h := h.2 hc
        refine x_aload_n (i := 0) (dxX9_listPairs_1 10 rfl) rfl rfl ?_
        refine gf_9_11 (kd_149 hLs4) (rv_149_5 hLs4) (dxX9_listPairs_1 11 rfl) ?_
        refine x_aload_n (i := 0) (dxX9_listPairs_1 12 rfl) rfl rfl ?_
        refine gf_9_79 (kd_149 hLs4) rfl (dxX9_listPairs_1 13 rfl) ?_
        refine x_iload_n (i := 1) (dxX9_listPairs_1 14 rfl) rfl rfl ?_
        obtain ⟨hi14, h⟩ := h
        refine x_iast (kd_150 hLs4) hi14 (dxX9_listPairs_1 15 rfl) ?_
        refine x_sto (fun s15 e16 => ?_)
        replace h := h s15 e16
        have hKs15 : kd s15 = kd σ := by rw [e16]; exact hKs4
        have hLs15 : Lay s15 := by rw [e16]; exact hLs4.si
        refine x_aload_n (i := 0) (dxX9_listPairs_1 16 rfl) rfl rfl ?_
        refine gf_9_15 (kd_149 hLs15) (rv_149_6 hLs15) (dxX9_listPairs_1 17 rfl) ?_
        refine x_aload_n (i := 0) (dxX9_listPairs_1 18 rfl) rfl rfl ?_
        refine gf_9_79 (kd_149 hLs15) rfl (dxX9_listPairs_1 19 rfl) ?_
        refine x_iload_n (i := 2) (dxX9_listPairs_1 20 rfl) rfl rfl ?_
        obtain ⟨hi17, h⟩ := h
        refine x_iast (kd_151 hLs15) hi17 (dxX9_listPairs_1 21 rfl) ?_
        refine x_sto (fun s18 e19 => ?_)
        replace h := h s18 e19
        have hKs18 : kd s18 = kd σ := by rw [e19]; exact hKs15
        have hLs18 : Lay s18 := by rw [e19]; exact hLs15.si
        refine x_aload_n (i := 0) (dxX9_listPairs_1 22 rfl) rfl rfl ?_
        refine x_dup (dxX9_listPairs_1 23 rfl) rfl ?_
        refine gf_9_79 (kd_149 hLs18) rfl (dxX9_listPairs_1 24 rfl) ?_
        refine x_iconst (v := 1) (dxX9_listPairs_1 25 rfl) rfl ?_
        refine x_iadd (dxX9_listPairs_1 26 rfl) ?_
        refine pf_9_79 (kd_149 hLs18) (dxX9_listPairs_1 27 rfl) ?_
        refine x_sto (fun s20 e21 => ?_)
        replace h := h s20 e21
        have hKs20 : kd s20 = kd σ := by rw [e21]; exact hKs18
        have hLs20 : Lay s20 := by rw [e21]; exact hLs18.si
        obtain ⟨x22, e23⟩ : ∃ y : Int32, y = l1 + 1 := ⟨_, rfl⟩
        replace h := h x22 e23
        refine x_iinc (v := x22) (dxX9_listPairs_1 28 rfl) (i := 1) rfl (by rw [e23]; rfl) (Nat.le_of_ble_eq_true rfl) rfl rfl ?_
        refine x_goto (tgt := 7) (dxX9_listPairs_1 29 rfl) (by decide) ?_
        refine x_mask [true, true, false] (L1 := [some (.ref 149), some (.int x22), none]) rfl ?_
        exact h
theorem vcX9_search {g : GV} {d : Nat} {P : PS → Prop} {σ : PS} (hL : Lay σ) (p0 : Int32) (p1 : Int32) (h : (¬ p1 = ((mi σ 129 0) - 1) → ((((mi σ 129 0) - 1) - p1) ≤ ((mi σ 149 7) - p0) → vp_in p0 16 ∧ ∀ x2 : Int32, x2 = mi σ 150 (Int32.toNatClampNeg p0) → vp_in p0 16 ∧ ∀ x5 : Int32, x5 = mi σ 151 (Int32.toNatClampNeg p0) → vp_in p1 8 ∧ ∃ a8 : Nat, mr σ 153 (Int32.toNatClampNeg p1) = some a8 ∧ ∃ n10, kd σ a8 = some (.inr (0, n10)) ∧ vp_in (x2 / 4) n10 ∧ vp_in p1 8 ∧ ∃ a14 : Nat, mr σ 153 (Int32.toNatClampNeg p1) = some a14 ∧ ∃ n16, kd σ a14 = some (.inr (0, n16)) ∧ vp_in (x5 / 4) n16 ∧ ((mi σ a8 (Int32.toNatClampNeg (x2 / 4))) = (mi σ a14 (Int32.toNatClampNeg (x5 / 4))) → CX9_search g d [.ref 149, .int (p0 + 1), .int p1] σ (fun (s19 : PS) => Fr σ s19 ∧ P s19)) ∧ (¬ (mi σ a8 (Int32.toNatClampNeg (x2 / 4))) = (mi σ a14 (Int32.toNatClampNeg (x5 / 4))) → vp_in p1 8 ∧ ∃ a22 : Nat, mr σ 153 (Int32.toNatClampNeg p1) = some a22 ∧ ∃ n24, kd σ a22 = some (.inr (0, n24)) ∧ vp_in (x2 / 4) n24 ∧ vp_in p1 8 ∧ ∃ a28 : Nat, mr σ 153 (Int32.toNatClampNeg p1) = some a28 ∧ ∃ n30, kd σ a28 = some (.inr (0, n30)) ∧ vp_in (x5 / 4) n30 ∧ CX9_joinGroups g d [.ref 149, .int p1, .int (mi σ a22 (Int32.toNatClampNeg (x2 / 4))), .int (mi σ a28 (Int32.toNatClampNeg (x5 / 4)))] σ (fun (s33 : PS) => Fr σ s33 ∧ vp_in x2 32 ∧ ∀ s36 : PS, s36 = si s33 152 (Int32.toNatClampNeg x2) (vp_nar .boolean 1) → vp_in x5 32 ∧ ∀ s39 : PS, s39 = si s36 152 (Int32.toNatClampNeg x5) (vp_nar .boolean 1) → CX9_search g d [.ref 149, .int (p0 + 1), .int (p1 + 1)] s39 (fun (s41 : PS) => Fr s39 s41 ∧ vp_in x2 32 ∧ ∀ s44 : PS, s44 = si s41 152 (Int32.toNatClampNeg x2) (vp_nar .boolean 0) → vp_in x5 32 ∧ ∀ s47 : PS, s47 = si s44 152 (Int32.toNatClampNeg x5) (vp_nar .boolean 0) → CX9_search g d [.ref 149, .int (p0 + 1), .int p1] s47 (fun (s49 : PS) => Fr s47 s49 ∧ P s49))))) ∧ (¬ (((mi σ 129 0) - 1) - p1) ≤ ((mi σ 149 7) - p0) → P σ)) ∧ (p1 = ((mi σ 129 0) - 1) → ∀ s51 : PS, s51 = si σ 149 2 ((mi σ 149 2) + 1) → CX9_layFlat g d [.ref 149] s51 (fun (s53 : PS) => Fr s51 s53 ∧ CX9_keepIfGood g d [.ref 149] s53 (fun (s55 : PS) => Fr s53 s55 ∧ P s55)))) : CX9_search g (d + 1) [.ref 149, .int p0, .int p1] σ P := by
  refine x_entry (L := [some (.ref 149), some (.int p0), some (.int p1), none, none]) pn_9 (Nat.le_of_ble_eq_true rfl) ⟨2, rfl⟩ ?_
  show VX9_search g (d + 1) P 0 [some (.ref 149), some (.int p0), some (.int p1), none, none] [] σ
  refine x_iload_n (i := 2) (dxX9_search_0 0 rfl) rfl rfl ?_
  refine x_aload_n (i := 0) (dxX9_search_0 1 rfl) rfl rfl ?_
  refine gf_9_43 (kd_149 hL) (rv_149_0 hL) (dxX9_search_0 2 rfl) ?_
  refine gf_9_51 (kd_129 hL) rfl (dxX9_search_0 3 rfl) ?_
  refine x_iconst (v := 1) (dxX9_search_0 4 rfl) rfl ?_
  refine x_isub (dxX9_search_0 5 rfl) ?_
  refine x_icmp_ne (tgt := 32) (dxX9_search_0 6 rfl) (by decide) (fun hc => ?_) (fun hc => ?_)
  · replace h := h.1 hc
    refine x_aload_n (i := 0) (dxX9_search_0 18 rfl) rfl rfl ?_
    refine gf_9_79 (kd_149 hL) rfl (dxX9_search_0 19 rfl) ?_
    refine x_iload_n (i := 1) (dxX9_search_0 20 rfl) rfl rfl ?_
    refine x_isub (dxX9_search_0 21 rfl) ?_
    refine x_aload_n (i := 0) (dxX9_search_0 22 rfl) rfl rfl ?_
    refine gf_9_43 (kd_149 hL) (rv_149_0 hL) (dxX9_search_0 23 rfl) ?_
    refine gf_9_51 (kd_129 hL) rfl (dxX9_search_0 24 rfl) ?_
    refine x_iconst (v := 1) (dxX9_search_0 25 rfl) rfl ?_
    refine x_isub (dxX9_search_0 26 rfl) ?_
    refine x_iload_n (i := 2) (dxX9_search_0 27 rfl) rfl rfl ?_
    refine x_isub (dxX9_search_0 28 rfl) ?_
    refine x_icmp_ge (tgt := 53) (dxX9_search_0 29 rfl) (by decide) (fun hc => ?_) (fun hc => ?_)
    · replace h := h.1 hc
      refine x_aload_n (i := 0) (dxX9_search_0 31 rfl) rfl rfl ?_
      refine gf_9_11 (kd_149 hL) (rv_149_5 hL) (dxX9_search_1 0 rfl) ?_
      refine x_iload_n (i := 1) (dxX9_search_1 1 rfl) rfl rfl ?_
      obtain ⟨hi1, h⟩ := h
      refine x_iald (kd_150 hL) hi1 (dxX9_search_1 2 rfl) ?_
      refine x_topi (fun x2 e3 => ?_)
      replace h := h x2 e3
      refine x_istore_n (i := 3) (dxX9_search_1 3 rfl) rfl (Nat.le_of_ble_eq_true rfl) rfl rfl ?_
      refine x_aload_n (i := 0) (dxX9_search_1 4 rfl) rfl rfl ?_
      refine gf_9_15 (kd_149 hL) (rv_149_6 hL) (dxX9_search_1 5 rfl) ?_
      refine x_iload_n (i := 1) (dxX9_search_1 6 rfl) rfl rfl ?_
      obtain ⟨hi4, h⟩ := h
      refine x_iald (kd_151 hL) hi4 (dxX9_search_1 7 rfl) ?_
      refine x_topi (fun x5 e6 => ?_)
      replace h := h x5 e6
      refine x_istore (dxX9_search_1 8 rfl) (Nat.le_of_ble_eq_true rfl) rfl rfl ?_
      refine x_aload_n (i := 0) (dxX9_search_1 9 rfl) rfl rfl ?_
      refine gf_9_24 (kd_149 hL) (rv_149_9 hL) (dxX9_search_1 10 rfl) ?_
      refine x_iload_n (i := 2) (dxX9_search_1 11 rfl) rfl rfl ?_
      obtain ⟨hi7, h⟩ := h
      obtain ⟨a8, ha9, h⟩ := h
      refine x_aald (Or.inl rfl) (kd_153 hL) hi7 ha9 (dxX9_search_1 12 rfl) ?_
      refine x_iload_n (i := 3) (dxX9_search_1 13 rfl) rfl rfl ?_
      refine x_iconst (v := 4) (dxX9_search_1 14 rfl) rfl ?_
      refine x_idiv (dxX9_search_1 15 rfl) (by decide) ?_
      obtain ⟨n10, hk11, h⟩ := h
      obtain ⟨hi12, h⟩ := h
      refine x_iald ((congrFun (rfl : kd σ = kd σ) _).trans ((congrFun (rfl : kd σ = kd σ) _).symm.trans hk11)) hi12 (dxX9_search_1 16 rfl) ?_
      refine x_aload_n (i := 0) (dxX9_search_1 17 rfl) rfl rfl ?_
      refine gf_9_24 (kd_149 hL) (rv_149_9 hL) (dxX9_search_1 18 rfl) ?_
      refine x_iload_n (i := 2) (dxX9_search_1 19 rfl) rfl rfl ?_
      obtain ⟨hi13, h⟩ := h
      obtain ⟨a14, ha15, h⟩ := h
      refine x_aald (Or.inl rfl) (kd_153 hL) hi13 ha15 (dxX9_search_1 20 rfl) ?_
      refine x_iload (dxX9_search_1 21 rfl) rfl ?_
      refine x_iconst (v := 4) (dxX9_search_1 22 rfl) rfl ?_
      refine x_idiv (dxX9_search_1 23 rfl) (by decide) ?_
      obtain ⟨n16, hk17, h⟩ := h
      obtain ⟨hi18, h⟩ := h
      refine x_iald ((congrFun (rfl : kd σ = kd σ) _).trans ((congrFun (rfl : kd σ = kd σ) _).symm.trans hk17)) hi18 (dxX9_search_1 24 rfl) ?_
      refine x_icmp_eq (tgt := 158) (dxX9_search_1 25 rfl) (by decide) (fun hc => ?_) (fun hc => ?_)
      · replace h := h.1 hc
        refine x_aload_n (i := 0) (dxX9_search_3 9 rfl) rfl rfl ?_
        refine x_iload_n (i := 1) (dxX9_search_3 10 rfl) rfl rfl ?_
        refine x_iconst (v := 1) (dxX9_search_3 11 rfl) rfl ?_
        refine x_iadd (dxX9_search_3 12 rfl) ?_
        refine x_iload_n (i := 2) (dxX9_search_3 13 rfl) rfl rfl ?_
        refine cl_9_75 (kd_149 hL) (Nat.le_of_ble_eq_true rfl) (dxX9_search_3 14 rfl) h (fun s19 h => ?_) (Nat.le_refl _) (Nat.le_refl _)
        obtain ⟨hFs19, h⟩ := h
        have hKs19 : kd s19 = kd σ := hFs19.1.trans (rfl : kd σ = kd σ)
        have hLs19 : Lay s19 := hL.fr hFs19
        exact x_vret rfl (dxX9_search_3 15 rfl) ⟨rfl, h⟩
      · replace h := h.2 hc
        refine x_aload_n (i := 0) (dxX9_search_1 26 rfl) rfl rfl ?_
        refine x_iload_n (i := 2) (dxX9_search_1 27 rfl) rfl rfl ?_
        refine x_aload_n (i := 0) (dxX9_search_1 28 rfl) rfl rfl ?_
        refine gf_9_24 (kd_149 hL) (rv_149_9 hL) (dxX9_search_1 29 rfl) ?_
        refine x_iload_n (i := 2) (dxX9_search_1 30 rfl) rfl rfl ?_
        obtain ⟨hi21, h⟩ := h
        obtain ⟨a22, ha23, h⟩ := h
        refine x_aald (Or.inl rfl) (kd_153 hL) hi21 ha23 (dxX9_search_1 31 rfl) ?_
        refine x_iload_n (i := 3) (dxX9_search_2 0 rfl) rfl rfl ?_
        refine x_iconst (v := 4) (dxX9_search_2 1 rfl) rfl ?_
        refine x_idiv (dxX9_search_2 2 rfl) (by decide) ?_
        obtain ⟨n24, hk25, h⟩ := h
        obtain ⟨hi26, h⟩ := h
        refine x_iald ((congrFun (rfl : kd σ = kd σ) _).trans ((congrFun (rfl : kd σ = kd σ) _).symm.trans hk25)) hi26 (dxX9_search_2 3 rfl) ?_
        refine x_aload_n (i := 0) (dxX9_search_2 4 rfl) rfl rfl ?_
        refine gf_9_24 (kd_149 hL) (rv_149_9 hL) (dxX9_search_2 5 rfl) ?_
        refine x_iload_n (i := 2) (dxX9_search_2 6 rfl) rfl rfl ?_
        obtain ⟨hi27, h⟩ := h
        obtain ⟨a28, ha29, h⟩ := h
        refine x_aald (Or.inl rfl) (kd_153 hL) hi27 ha29 (dxX9_search_2 7 rfl) ?_
        refine x_iload (dxX9_search_2 8 rfl) rfl ?_
        refine x_iconst (v := 4) (dxX9_search_2 9 rfl) rfl ?_
        refine x_idiv (dxX9_search_2 10 rfl) (by decide) ?_
        obtain ⟨n30, hk31, h⟩ := h
        obtain ⟨hi32, h⟩ := h
        refine x_iald ((congrFun (rfl : kd σ = kd σ) _).trans ((congrFun (rfl : kd σ = kd σ) _).symm.trans hk31)) hi32 (dxX9_search_2 11 rfl) ?_
        refine cl_9_94 (kd_149 hL) (Nat.le_of_ble_eq_true rfl) (dxX9_search_2 12 rfl) h (fun s33 h => ?_) (Nat.le_refl _) (Nat.le_refl _)
        obtain ⟨hFs33, h⟩ := h
        have hKs33 : kd s33 = kd σ := hFs33.1.trans (rfl : kd σ = kd σ)
        have hLs33 : Lay s33 := hL.fr hFs33
        refine x_aload_n (i := 0) (dxX9_search_2 13 rfl) rfl rfl ?_
        refine gf_9_18 (kd_149 hLs33) (rv_149_8 hLs33) (dxX9_search_2 14 rfl) ?_
        refine x_iload_n (i := 3) (dxX9_search_2 15 rfl) rfl rfl ?_
        refine x_iconst (v := 1) (dxX9_search_2 16 rfl) rfl ?_
        obtain ⟨hi35, h⟩ := h
        refine x_zast (kd_152 hLs33) hi35 (dxX9_search_2 17 rfl) ?_
        refine x_sto (fun s36 e37 => ?_)
        replace h := h s36 e37
        have hKs36 : kd s36 = kd σ := by rw [e37]; exact hKs33
        have hLs36 : Lay s36 := by rw [e37]; exact hLs33.si
        refine x_aload_n (i := 0) (dxX9_search_2 18 rfl) rfl rfl ?_
        refine gf_9_18 (kd_149 hLs36) (rv_149_8 hLs36) (dxX9_search_2 19 rfl) ?_
        refine x_iload (dxX9_search_2 20 rfl) rfl ?_
        refine x_iconst (v := 1) (dxX9_search_2 21 rfl) rfl ?_
        obtain ⟨hi38, h⟩ := h
        refine x_zast (kd_152 hLs36) hi38 (dxX9_search_2 22 rfl) ?_
        refine x_sto (fun s39 e40 => ?_)
        replace h := h s39 e40
        have hKs39 : kd s39 = kd σ := by rw [e40]; exact hKs36
        have hLs39 : Lay s39 := by rw [e40]; exact hLs36.si
        refine x_aload_n (i := 0) (dxX9_search_2 23 rfl) rfl rfl ?_
        refine x_iload_n (i := 1) (dxX9_search_2 24 rfl) rfl rfl ?_
        refine x_iconst (v := 1) (dxX9_search_2 25 rfl) rfl ?_
        refine x_iadd (dxX9_search_2 26 rfl) ?_
        refine x_iload_n (i := 2) (dxX9_search_2 27 rfl) rfl rfl ?_
        refine x_iconst (v := 1) (dxX9_search_2 28 rfl) rfl ?_
        refine x_iadd (dxX9_search_2 29 rfl) ?_
        refine cl_9_75 (kd_149 hLs39) (Nat.le_of_ble_eq_true rfl) (dxX9_search_2 30 rfl) h (fun s41 h => ?_) (Nat.le_refl _) (Nat.le_refl _)
        obtain ⟨hFs41, h⟩ := h
        have hKs41 : kd s41 = kd σ := hFs41.1.trans hKs39
        have hLs41 : Lay s41 := hLs39.fr hFs41
        refine x_aload_n (i := 0) (dxX9_search_2 31 rfl) rfl rfl ?_
        refine gf_9_18 (kd_149 hLs41) (rv_149_8 hLs41) (dxX9_search_3 0 rfl) ?_
        refine x_iload_n (i := 3) (dxX9_search_3 1 rfl) rfl rfl ?_
        refine x_iconst (v := 0) (dxX9_search_3 2 rfl) rfl ?_
        obtain ⟨hi43, h⟩ := h
        refine x_zast (kd_152 hLs41) hi43 (dxX9_search_3 3 rfl) ?_
        refine x_sto (fun s44 e45 => ?_)
        replace h := h s44 e45
        have hKs44 : kd s44 = kd σ := by rw [e45]; exact hKs41
        have hLs44 : Lay s44 := by rw [e45]; exact hLs41.si
        refine x_aload_n (i := 0) (dxX9_search_3 4 rfl) rfl rfl ?_
        refine gf_9_18 (kd_149 hLs44) (rv_149_8 hLs44) (dxX9_search_3 5 rfl) ?_
        refine x_iload (dxX9_search_3 6 rfl) rfl ?_
        refine x_iconst (v := 0) (dxX9_search_3 7 rfl) rfl ?_
        obtain ⟨hi46, h⟩ := h
        refine x_zast (kd_152 hLs44) hi46 (dxX9_search_3 8 rfl) ?_
        refine x_sto (fun s47 e48 => ?_)
        replace h := h s47 e48
        have hKs47 : kd s47 = kd σ := by rw [e48]; exact hKs44
        have hLs47 : Lay s47 := by rw [e48]; exact hLs44.si
        refine x_aload_n (i := 0) (dxX9_search_3 9 rfl) rfl rfl ?_
        refine x_iload_n (i := 1) (dxX9_search_3 10 rfl) rfl rfl ?_
        refine x_iconst (v := 1) (dxX9_search_3 11 rfl) rfl ?_
        refine x_iadd (dxX9_search_3 12 rfl) ?_
        refine x_iload_n (i := 2) (dxX9_search_3 13 rfl) rfl rfl ?_
        refine cl_9_75 (kd_149 hLs47) (Nat.le_of_ble_eq_true rfl) (dxX9_search_3 14 rfl) h (fun s49 h => ?_) (Nat.le_refl _) (Nat.le_refl _)
        obtain ⟨hFs49, h⟩ := h
        have hKs49 : kd s49 = kd σ := hFs49.1.trans hKs47
        have hLs49 : Lay s49 := hLs47.fr hFs49
        exact x_vret rfl (dxX9_search_3 15 rfl) ⟨rfl, h⟩
    · replace h := h.2 hc
      exact x_vret rfl (dxX9_search_0 30 rfl) ⟨rfl, h⟩
  · replace h := h.2 hc
    refine x_aload_n (i := 0) (dxX9_search_0 7 rfl) rfl rfl ?_
    refine x_dup (dxX9_search_0 8 rfl) rfl ?_
    refine gf_9_57 (kd_149 hL) rfl (dxX9_search_0 9 rfl) ?_
    refine x_iconst (v := 1) (dxX9_search_0 10 rfl) rfl ?_
    refine x_iadd (dxX9_search_0 11 rfl) ?_
    refine pf_9_57 (kd_149 hL) (dxX9_search_0 12 rfl) ?_
    refine x_sto (fun s51 e52 => ?_)
    replace h := h s51 e52
    have hKs51 : kd s51 = kd σ := by rw [e52]; exact (rfl : kd σ = kd σ)
    have hLs51 : Lay s51 := by rw [e52]; exact hL.si
    refine x_aload_n (i := 0) (dxX9_search_0 13 rfl) rfl rfl ?_
    refine cl_9_88 (kd_149 hLs51) (Nat.le_of_ble_eq_true rfl) (dxX9_search_0 14 rfl) h (fun s53 h => ?_) (Nat.le_refl _) (Nat.le_refl _)
    obtain ⟨hFs53, h⟩ := h
    have hKs53 : kd s53 = kd σ := hFs53.1.trans hKs51
    have hLs53 : Lay s53 := hLs51.fr hFs53
    refine x_aload_n (i := 0) (dxX9_search_0 15 rfl) rfl rfl ?_
    refine cl_9_91 (kd_149 hLs53) (Nat.le_of_ble_eq_true rfl) (dxX9_search_0 16 rfl) h (fun s55 h => ?_) (Nat.le_refl _) (Nat.le_refl _)
    obtain ⟨hFs55, h⟩ := h
    have hKs55 : kd s55 = kd σ := hFs55.1.trans hKs53
    have hLs55 : Lay s55 := hLs53.fr hFs55
    exact x_vret rfl (dxX9_search_0 17 rfl) ⟨rfl, h⟩
theorem vcX9_joinGroups {g : GV} {d : Nat} {P : PS → Prop} {σ : PS} (hL : Lay σ) (p0 : Int32) (p1 : Int32) (p2 : Int32) (h : ∀ x1 : Int32, x1 = jmin p1 p2 → VX9_joinGroups g d P 10 [some (.ref 149), some (.int p0), some (.int p1), some (.int p2), some (.int x1), some (.int 0), none] [] σ) : CX9_joinGroups g d [.ref 149, .int p0, .int p1, .int p2] σ P := by
  refine x_entry (L := [some (.ref 149), some (.int p0), some (.int p1), some (.int p2), none, none, none]) pn_9 (Nat.le_of_ble_eq_true rfl) ⟨3, rfl⟩ ?_
  show VX9_joinGroups g d P 0 [some (.ref 149), some (.int p0), some (.int p1), some (.int p2), none, none, none] [] σ
  refine x_iload_n (i := 2) (dxX9_joinGroups_0 0 rfl) rfl rfl ?_
  refine x_iload_n (i := 3) (dxX9_joinGroups_0 1 rfl) rfl rfl ?_
  refine cl_9_98 (Nat.le_of_ble_eq_true rfl) (dxX9_joinGroups_0 2 rfl) ?_
  refine x_topi (fun x1 e2 => ?_)
  replace h := h x1 e2
  refine x_istore (dxX9_joinGroups_0 3 rfl) (Nat.le_of_ble_eq_true rfl) rfl rfl ?_
  refine x_iconst (v := 0) (dxX9_joinGroups_0 4 rfl) rfl ?_
  refine x_istore (dxX9_joinGroups_0 5 rfl) (Nat.le_of_ble_eq_true rfl) rfl rfl ?_
  exact h
theorem vcX9_joinGroups_10 {g : GV} {d : Nat} {P : PS → Prop} {σ : PS} (hL : Lay σ) (l1 : Int32) (l2 : Int32) (l3 : Int32) (l4 : Int32) (l5 : Int32) (h : ((mi σ 129 0) ≤ l5 → P σ) ∧ (¬ (mi σ 129 0) ≤ l5 → vp_in l1 8 ∧ ∃ a4 : Nat, mr σ 153 (Int32.toNatClampNeg l1) = some a4 ∧ ∃ n6, kd σ a4 = some (.inr (0, n6)) ∧ vp_in l5 n6 ∧ ∀ x9 : Int32, x9 = mi σ a4 (Int32.toNatClampNeg l5) → vp_in (l1 + 1) 8 ∧ ∃ a12 : Nat, mr σ 153 (Int32.toNatClampNeg (l1 + 1)) = some a12 ∧ (x9 = l2 → ∃ n14, kd σ a12 = some (.inr (0, n14)) ∧ vp_in l5 n14 ∧ ∀ s17 : PS, s17 = si σ a12 (Int32.toNatClampNeg l5) l4 → ∀ x19 : Int32, x19 = l5 + 1 → VX9_joinGroups g d P 10 [some (.ref 149), some (.int l1), some (.int l2), some (.int l3), some (.int l4), some (.int x19), none] [] s17) ∧ (¬ x9 = l2 → (¬ x9 = l3 → ∃ n21, kd σ a12 = some (.inr (0, n21)) ∧ vp_in l5 n21 ∧ ∀ s24 : PS, s24 = si σ a12 (Int32.toNatClampNeg l5) x9 → ∀ x26 : Int32, x26 = l5 + 1 → VX9_joinGroups g d P 10 [some (.ref 149), some (.int l1), some (.int l2), some (.int l3), some (.int l4), some (.int x26), none] [] s24) ∧ (x9 = l3 → ∃ n28, kd σ a12 = some (.inr (0, n28)) ∧ vp_in l5 n28 ∧ ∀ s31 : PS, s31 = si σ a12 (Int32.toNatClampNeg l5) l4 → ∀ x33 : Int32, x33 = l5 + 1 → VX9_joinGroups g d P 10 [some (.ref 149), some (.int l1), some (.int l2), some (.int l3), some (.int l4), some (.int x33), none] [] s31)))) : VX9_joinGroups g d P 10 [some (.ref 149), some (.int l1), some (.int l2), some (.int l3), some (.int l4), some (.int l5), none] [] σ := by
  refine x_iload (dxX9_joinGroups_0 6 rfl) rfl ?_
  refine x_aload_n (i := 0) (dxX9_joinGroups_0 7 rfl) rfl rfl ?_
  refine gf_9_43 (kd_149 hL) (rv_149_0 hL) (dxX9_joinGroups_0 8 rfl) ?_
  refine gf_9_51 (kd_129 hL) rfl (dxX9_joinGroups_0 9 rfl) ?_
  refine x_icmp_ge (tgt := 69) (dxX9_joinGroups_0 10 rfl) (by decide) (fun hc => ?_) (fun hc => ?_)
  · replace h := h.1 hc
    exact x_vret rfl (dxX9_joinGroups_1 5 rfl) ⟨rfl, h⟩
  · replace h := h.2 hc
    refine x_aload_n (i := 0) (dxX9_joinGroups_0 11 rfl) rfl rfl ?_
    refine gf_9_24 (kd_149 hL) (rv_149_9 hL) (dxX9_joinGroups_0 12 rfl) ?_
    refine x_iload_n (i := 1) (dxX9_joinGroups_0 13 rfl) rfl rfl ?_
    obtain ⟨hi3, h⟩ := h
    obtain ⟨a4, ha5, h⟩ := h
    refine x_aald (Or.inl rfl) (kd_153 hL) hi3 ha5 (dxX9_joinGroups_0 14 rfl) ?_
    refine x_iload (dxX9_joinGroups_0 15 rfl) rfl ?_
    obtain ⟨n6, hk7, h⟩ := h
    obtain ⟨hi8, h⟩ := h
    refine x_iald ((congrFun (rfl : kd σ = kd σ) _).trans ((congrFun (rfl : kd σ = kd σ) _).symm.trans hk7)) hi8 (dxX9_joinGroups_0 16 rfl) ?_
    refine x_topi (fun x9 e10 => ?_)
    replace h := h x9 e10
    refine x_istore (dxX9_joinGroups_0 17 rfl) (Nat.le_of_ble_eq_true rfl) rfl rfl ?_
    refine x_aload_n (i := 0) (dxX9_joinGroups_0 18 rfl) rfl rfl ?_
    refine gf_9_24 (kd_149 hL) (rv_149_9 hL) (dxX9_joinGroups_0 19 rfl) ?_
    refine x_iload_n (i := 1) (dxX9_joinGroups_0 20 rfl) rfl rfl ?_
    refine x_iconst (v := 1) (dxX9_joinGroups_0 21 rfl) rfl ?_
    refine x_iadd (dxX9_joinGroups_0 22 rfl) ?_
    obtain ⟨hi11, h⟩ := h
    obtain ⟨a12, ha13, h⟩ := h
    refine x_aald (Or.inl rfl) (kd_153 hL) hi11 ha13 (dxX9_joinGroups_0 23 rfl) ?_
    refine x_iload (dxX9_joinGroups_0 24 rfl) rfl ?_
    refine x_iload (dxX9_joinGroups_0 25 rfl) rfl ?_
    refine x_iload_n (i := 2) (dxX9_joinGroups_0 26 rfl) rfl rfl ?_
    refine x_icmp_eq (tgt := 55) (dxX9_joinGroups_0 27 rfl) (by decide) (fun hc => ?_) (fun hc => ?_)
    · replace h := h.1 hc
      refine x_iload (dxX9_joinGroups_0 31 rfl) rfl ?_
      refine x_goto (tgt := 62) (dxX9_joinGroups_1 0 rfl) (by decide) ?_
      obtain ⟨n14, hk15, h⟩ := h
      obtain ⟨hi16, h⟩ := h
      refine x_iast ((congrFun (rfl : kd σ = kd σ) _).trans ((congrFun (rfl : kd σ = kd σ) _).symm.trans hk15)) hi16 (dxX9_joinGroups_1 2 rfl) ?_
      refine x_sto (fun s17 e18 => ?_)
      replace h := h s17 e18
      have hKs17 : kd s17 = kd σ := by rw [e18]; exact (rfl : kd σ = kd σ)
      have hLs17 : Lay s17 := by rw [e18]; exact hL.si
      obtain ⟨x19, e20⟩ : ∃ y : Int32, y = l5 + 1 := ⟨_, rfl⟩
      replace h := h x19 e20
      refine x_iinc (v := x19) (dxX9_joinGroups_1 3 rfl) (i := 5) rfl (by rw [e20]; rfl) (Nat.le_of_ble_eq_true rfl) rfl rfl ?_
      refine x_goto (tgt := 10) (dxX9_joinGroups_1 4 rfl) (by decide) ?_
      refine x_mask [true, true, true, true, true, true, false] (L1 := [some (.ref 149), some (.int l1), some (.int l2), some (.int l3), some (.int l4), some (.int x19), none]) rfl ?_
      exact h
    · replace h := h.2 hc
      refine x_iload (dxX9_joinGroups_0 28 rfl) rfl ?_
      refine x_iload_n (i := 3) (dxX9_joinGroups_0 29 rfl) rfl rfl ?_
      refine x_icmp_ne (tgt := 60) (dxX9_joinGroups_0 30 rfl) (by decide) (fun hc => ?_) (fun hc => ?_)
      · replace h := h.1 hc
        refine x_iload (dxX9_joinGroups_1 1 rfl) rfl ?_
        obtain ⟨n21, hk22, h⟩ := h
        obtain ⟨hi23, h⟩ := h
        refine x_iast ((congrFun (rfl : kd σ = kd σ) _).trans ((congrFun (rfl : kd σ = kd σ) _).symm.trans hk22)) hi23 (dxX9_joinGroups_1 2 rfl) ?_
        refine x_sto (fun s24 e25 => ?_)
        replace h := h s24 e25
        have hKs24 : kd s24 = kd σ := by rw [e25]; exact (rfl : kd σ = kd σ)
        have hLs24 : Lay s24 := by rw [e25]; exact hL.si
        obtain ⟨x26, e27⟩ : ∃ y : Int32, y = l5 + 1 := ⟨_, rfl⟩
        replace h := h x26 e27
        refine x_iinc (v := x26) (dxX9_joinGroups_1 3 rfl) (i := 5) rfl (by rw [e27]; rfl) (Nat.le_of_ble_eq_true rfl) rfl rfl ?_
        refine x_goto (tgt := 10) (dxX9_joinGroups_1 4 rfl) (by decide) ?_
        refine x_mask [true, true, true, true, true, true, false] (L1 := [some (.ref 149), some (.int l1), some (.int l2), some (.int l3), some (.int l4), some (.int x26), none]) rfl ?_
        exact h
      · replace h := h.2 hc
        refine x_iload (dxX9_joinGroups_0 31 rfl) rfl ?_
        refine x_goto (tgt := 62) (dxX9_joinGroups_1 0 rfl) (by decide) ?_
        obtain ⟨n28, hk29, h⟩ := h
        obtain ⟨hi30, h⟩ := h
        refine x_iast ((congrFun (rfl : kd σ = kd σ) _).trans ((congrFun (rfl : kd σ = kd σ) _).symm.trans hk29)) hi30 (dxX9_joinGroups_1 2 rfl) ?_
        refine x_sto (fun s31 e32 => ?_)
        replace h := h s31 e32
        have hKs31 : kd s31 = kd σ := by rw [e32]; exact (rfl : kd σ = kd σ)
        have hLs31 : Lay s31 := by rw [e32]; exact hL.si
        obtain ⟨x33, e34⟩ : ∃ y : Int32, y = l5 + 1 := ⟨_, rfl⟩
        replace h := h x33 e34
        refine x_iinc (v := x33) (dxX9_joinGroups_1 3 rfl) (i := 5) rfl (by rw [e34]; rfl) (Nat.le_of_ble_eq_true rfl) rfl rfl ?_
        refine x_goto (tgt := 10) (dxX9_joinGroups_1 4 rfl) (by decide) ?_
        refine x_mask [true, true, true, true, true, true, false] (L1 := [some (.ref 149), some (.int l1), some (.int l2), some (.int l3), some (.int l4), some (.int x33), none]) rfl ?_
        exact h
theorem vcX9_layFlat {g : GV} {d : Nat} {P : PS → Prop} {σ : PS} (hL : Lay σ)  (h : CJ7_fill_53178 g d [.ref 164, .int (-1)] σ (fun (s1 : PS) => Fr σ s1 ∧ ∀ s3 : PS, s3 = si s1 149 14 0 → CX9_put g d [.ref 149, .int 0, .int 0, .int 0, .int 0] s3 (fun (s5 : PS) => Fr s3 s5 ∧ VX9_layFlat g (d + 1) P 23 [some (.ref 149), some (.int 0), none, none, none, none, none] [] s5))) : CX9_layFlat g (d + 1) [.ref 149] σ P := by
  refine x_entry (L := [some (.ref 149), none, none, none, none, none, none]) pn_9 (Nat.le_of_ble_eq_true rfl) ⟨6, rfl⟩ ?_
  show VX9_layFlat g (d + 1) P 0 [some (.ref 149), none, none, none, none, none, none] [] σ
  refine x_aload_n (i := 0) (dxX9_layFlat_0 0 rfl) rfl rfl ?_
  refine gf_9_33 (kd_149 hL) (rv_149_12 hL) (dxX9_layFlat_0 1 rfl) ?_
  refine x_iconst (v := (-1)) (dxX9_layFlat_0 2 rfl) rfl ?_
  refine cl_9_104 (Nat.le_of_ble_eq_true rfl) (dxX9_layFlat_0 3 rfl) h (fun s1 h => ?_) (Nat.le_refl _) (Nat.le_refl _)
  obtain ⟨hFs1, h⟩ := h
  have hKs1 : kd s1 = kd σ := hFs1.1.trans (rfl : kd σ = kd σ)
  have hLs1 : Lay s1 := hL.fr hFs1
  refine x_aload_n (i := 0) (dxX9_layFlat_0 4 rfl) rfl rfl ?_
  refine x_iconst (v := 0) (dxX9_layFlat_0 5 rfl) rfl ?_
  refine pf_9_107 (kd_149 hLs1) (dxX9_layFlat_0 6 rfl) ?_
  refine x_sto (fun s3 e4 => ?_)
  replace h := h s3 e4
  have hKs3 : kd s3 = kd σ := by rw [e4]; exact hKs1
  have hLs3 : Lay s3 := by rw [e4]; exact hLs1.si
  refine x_aload_n (i := 0) (dxX9_layFlat_0 7 rfl) rfl rfl ?_
  refine x_iconst (v := 0) (dxX9_layFlat_0 8 rfl) rfl ?_
  refine x_iconst (v := 0) (dxX9_layFlat_0 9 rfl) rfl ?_
  refine x_iconst (v := 0) (dxX9_layFlat_0 10 rfl) rfl ?_
  refine x_iconst (v := 0) (dxX9_layFlat_0 11 rfl) rfl ?_
  refine cl_9_110 (kd_149 hLs3) (Nat.le_of_ble_eq_true rfl) (dxX9_layFlat_0 12 rfl) h (fun s5 h => ?_) (Nat.le_refl _) (Nat.le_refl _)
  obtain ⟨hFs5, h⟩ := h
  have hKs5 : kd s5 = kd σ := hFs5.1.trans hKs3
  have hLs5 : Lay s5 := hLs3.fr hFs5
  refine x_iconst (v := 0) (dxX9_layFlat_0 13 rfl) rfl ?_
  refine x_istore_n (i := 1) (dxX9_layFlat_0 14 rfl) rfl (Nat.le_of_ble_eq_true rfl) rfl rfl ?_
  exact h
theorem vcX9_layFlat_23 {g : GV} {d : Nat} {P : PS → Prop} {σ : PS} (hL : Lay σ) (l1 : Int32) (h : ((mi σ 149 14) ≤ l1 → P σ) ∧ (¬ (mi σ 149 14) ≤ l1 → vp_in l1 8 ∧ ∀ x8 : Int32, x8 = mi σ 165 (Int32.toNatClampNeg l1) → VX9_layFlat g (d + 1) P 40 [some (.ref 149), some (.int l1), some (.int x8), some (.int 0), none, none, none] [] σ)) : VX9_layFlat g (d + 1) P 23 [some (.ref 149), some (.int l1), none, none, none, none, none] [] σ := by
  refine x_iload_n (i := 1) (dxX9_layFlat_0 15 rfl) rfl rfl ?_
  refine x_aload_n (i := 0) (dxX9_layFlat_0 16 rfl) rfl rfl ?_
  refine gf_9_107 (kd_149 hL) rfl (dxX9_layFlat_0 17 rfl) ?_
  refine x_icmp_ge (tgt := 157) (dxX9_layFlat_0 18 rfl) (by decide) (fun hc => ?_) (fun hc => ?_)
  · replace h := h.1 hc
    exact x_vret rfl (dxX9_layFlat_2 31 rfl) ⟨rfl, h⟩
  · replace h := h.2 hc
    refine x_aload_n (i := 0) (dxX9_layFlat_0 19 rfl) rfl rfl ?_
    refine gf_9_36 (kd_149 hL) (rv_149_13 hL) (dxX9_layFlat_0 20 rfl) ?_
    refine x_iload_n (i := 1) (dxX9_layFlat_0 21 rfl) rfl rfl ?_
    obtain ⟨hi7, h⟩ := h
    refine x_iald (kd_165 hL) hi7 (dxX9_layFlat_0 22 rfl) ?_
    refine x_topi (fun x8 e9 => ?_)
    replace h := h x8 e9
    refine x_istore_n (i := 2) (dxX9_layFlat_0 23 rfl) rfl (Nat.le_of_ble_eq_true rfl) rfl rfl ?_
    refine x_iconst (v := 0) (dxX9_layFlat_0 24 rfl) rfl ?_
    refine x_istore_n (i := 3) (dxX9_layFlat_0 25 rfl) rfl (Nat.le_of_ble_eq_true rfl) rfl rfl ?_
    exact h
theorem vcX9_layFlat_40 {g : GV} {d : Nat} {P : PS → Prop} {σ : PS} (hL : Lay σ) (l1 : Int32) (l2 : Int32) (l3 : Int32) (h : (4 ≤ l3 → ∀ x10 : Int32, x10 = l1 + 1 → VX9_layFlat g (d + 1) P 23 [some (.ref 149), some (.int x10), none, none, none, none, none] [] σ) ∧ (¬ 4 ≤ l3 → vp_in l2 8 ∧ ∀ x13 : Int32, x13 = (l2 * 4) + (jrem (l3 + (mi σ 164 (Int32.toNatClampNeg l2))) 4) → vp_in x13 40 ∧ ∀ x16 : Int32, x16 = mi σ 130 (Int32.toNatClampNeg x13) → vp_in x13 32 ∧ ((mi σ 152 (Int32.toNatClampNeg x13)) = 0 → ∀ x19 : Int32, x19 = l3 + 1 → VX9_layFlat g (d + 1) P 40 [some (.ref 149), some (.int l1), some (.int l2), some (.int x19), none, none, none] [] σ) ∧ (¬ (mi σ 152 (Int32.toNatClampNeg x13)) = 0 → vp_in x16 8 ∧ (¬ (mi σ 164 (Int32.toNatClampNeg x16)) = (-1) → ∀ x22 : Int32, x22 = l3 + 1 → VX9_layFlat g (d + 1) P 40 [some (.ref 149), some (.int l1), some (.int l2), some (.int x22), none, none, none] [] σ) ∧ ((mi σ 164 (Int32.toNatClampNeg x16)) = (-1) → vp_in x13 40 ∧ ∀ x25 : Int32, x25 = jrem (((mi σ 131 (Int32.toNatClampNeg x13)) + 6) - l3) 4 → vp_in l2 8 ∧ vp_in l3 4 ∧ vp_in l2 8 ∧ vp_in l3 4 ∧ CX9_put g d [.ref 149, .int x16, .int ((mi σ 162 (Int32.toNatClampNeg l2)) + (stepX (Int32.toNatClampNeg l3))), .int ((mi σ 163 (Int32.toNatClampNeg l2)) + (stepY (Int32.toNatClampNeg l3))), .int x25] σ (fun (s31 : PS) => Fr σ s31 ∧ ∀ x33 : Int32, x33 = l3 + 1 → VX9_layFlat g (d + 1) P 40 [some (.ref 149), some (.int l1), some (.int l2), some (.int x33), none, none, none] [] s31))))) : VX9_layFlat g (d + 1) P 40 [some (.ref 149), some (.int l1), some (.int l2), some (.int l3), none, none, none] [] σ := by
  refine x_iload_n (i := 3) (dxX9_layFlat_0 26 rfl) rfl rfl ?_
  refine x_iconst (v := 4) (dxX9_layFlat_0 27 rfl) rfl ?_
  refine x_icmp_ge (tgt := 151) (dxX9_layFlat_0 28 rfl) (by decide) (fun hc => ?_) (fun hc => ?_)
  · replace h := h.1 hc
    obtain ⟨x10, e11⟩ : ∃ y : Int32, y = l1 + 1 := ⟨_, rfl⟩
    replace h := h x10 e11
    refine x_iinc (v := x10) (dxX9_layFlat_2 29 rfl) (i := 1) rfl (by rw [e11]; rfl) (Nat.le_of_ble_eq_true rfl) rfl rfl ?_
    refine x_goto (tgt := 23) (dxX9_layFlat_2 30 rfl) (by decide) ?_
    refine x_mask [true, true, false, false, false, false, false] (L1 := [some (.ref 149), some (.int x10), none, none, none, none, none]) rfl ?_
    exact h
  · replace h := h.2 hc
    refine x_iload_n (i := 2) (dxX9_layFlat_0 29 rfl) rfl rfl ?_
    refine x_iconst (v := 4) (dxX9_layFlat_0 30 rfl) rfl ?_
    refine x_imul (dxX9_layFlat_0 31 rfl) ?_
    refine x_iload_n (i := 3) (dxX9_layFlat_1 0 rfl) rfl rfl ?_
    refine x_aload_n (i := 0) (dxX9_layFlat_1 1 rfl) rfl rfl ?_
    refine gf_9_33 (kd_149 hL) (rv_149_12 hL) (dxX9_layFlat_1 2 rfl) ?_
    refine x_iload_n (i := 2) (dxX9_layFlat_1 3 rfl) rfl rfl ?_
    obtain ⟨hi12, h⟩ := h
    refine x_iald (kd_164 hL) hi12 (dxX9_layFlat_1 4 rfl) ?_
    refine x_iadd (dxX9_layFlat_1 5 rfl) ?_
    refine x_iconst (v := 4) (dxX9_layFlat_1 6 rfl) rfl ?_
    refine x_irem (dxX9_layFlat_1 7 rfl) (by decide) ?_
    refine x_iadd (dxX9_layFlat_1 8 rfl) ?_
    refine x_topi (fun x13 e14 => ?_)
    replace h := h x13 e14
    refine x_istore (dxX9_layFlat_1 9 rfl) (Nat.le_of_ble_eq_true rfl) rfl rfl ?_
    refine x_aload_n (i := 0) (dxX9_layFlat_1 10 rfl) rfl rfl ?_
    refine gf_9_43 (kd_149 hL) (rv_149_0 hL) (dxX9_layFlat_1 11 rfl) ?_
    refine gf_9_82 (kd_129 hL) (rv_129_1 hL) (dxX9_layFlat_1 12 rfl) ?_
    refine x_iload (dxX9_layFlat_1 13 rfl) rfl ?_
    obtain ⟨hi15, h⟩ := h
    refine x_iald (kd_130 hL) hi15 (dxX9_layFlat_1 14 rfl) ?_
    refine x_topi (fun x16 e17 => ?_)
    replace h := h x16 e17
    refine x_istore (dxX9_layFlat_1 15 rfl) (Nat.le_of_ble_eq_true rfl) rfl rfl ?_
    refine x_aload_n (i := 0) (dxX9_layFlat_1 16 rfl) rfl rfl ?_
    refine gf_9_18 (kd_149 hL) (rv_149_8 hL) (dxX9_layFlat_1 17 rfl) ?_
    refine x_iload (dxX9_layFlat_1 18 rfl) rfl ?_
    obtain ⟨hi18, h⟩ := h
    refine x_zald (kd_152 hL) hi18 (dxX9_layFlat_1 19 rfl) ?_
    refine x_if_eq (tgt := 145) (dxX9_layFlat_1 20 rfl) (by decide) (fun hc => ?_) (fun hc => ?_)
    · replace h := h.1 hc
      obtain ⟨x19, e20⟩ : ∃ y : Int32, y = l3 + 1 := ⟨_, rfl⟩
      replace h := h x19 e20
      refine x_iinc (v := x19) (dxX9_layFlat_2 27 rfl) (i := 3) rfl (by rw [e20]; rfl) (Nat.le_of_ble_eq_true rfl) rfl rfl ?_
      refine x_goto (tgt := 40) (dxX9_layFlat_2 28 rfl) (by decide) ?_
      refine x_mask [true, true, true, true, false, false, false] (L1 := [some (.ref 149), some (.int l1), some (.int l2), some (.int x19), none, none, none]) rfl ?_
      exact h
    · replace h := h.2 hc
      refine x_aload_n (i := 0) (dxX9_layFlat_1 21 rfl) rfl rfl ?_
      refine gf_9_33 (kd_149 hL) (rv_149_12 hL) (dxX9_layFlat_1 22 rfl) ?_
      refine x_iload (dxX9_layFlat_1 23 rfl) rfl ?_
      obtain ⟨hi21, h⟩ := h
      refine x_iald (kd_164 hL) hi21 (dxX9_layFlat_1 24 rfl) ?_
      refine x_iconst (v := (-1)) (dxX9_layFlat_1 25 rfl) rfl ?_
      refine x_icmp_ne (tgt := 145) (dxX9_layFlat_1 26 rfl) (by decide) (fun hc => ?_) (fun hc => ?_)
      · replace h := h.1 hc
        obtain ⟨x22, e23⟩ : ∃ y : Int32, y = l3 + 1 := ⟨_, rfl⟩
        replace h := h x22 e23
        refine x_iinc (v := x22) (dxX9_layFlat_2 27 rfl) (i := 3) rfl (by rw [e23]; rfl) (Nat.le_of_ble_eq_true rfl) rfl rfl ?_
        refine x_goto (tgt := 40) (dxX9_layFlat_2 28 rfl) (by decide) ?_
        refine x_mask [true, true, true, true, false, false, false] (L1 := [some (.ref 149), some (.int l1), some (.int l2), some (.int x22), none, none, none]) rfl ?_
        exact h
      · replace h := h.2 hc
        refine x_aload_n (i := 0) (dxX9_layFlat_1 27 rfl) rfl rfl ?_
        refine gf_9_43 (kd_149 hL) (rv_149_0 hL) (dxX9_layFlat_1 28 rfl) ?_
        refine gf_9_85 (kd_129 hL) (rv_129_2 hL) (dxX9_layFlat_1 29 rfl) ?_
        refine x_iload (dxX9_layFlat_1 30 rfl) rfl ?_
        obtain ⟨hi24, h⟩ := h
        refine x_iald (kd_131 hL) hi24 (dxX9_layFlat_1 31 rfl) ?_
        refine x_bipush (v := 6) (dxX9_layFlat_2 0 rfl) rfl ?_
        refine x_iadd (dxX9_layFlat_2 1 rfl) ?_
        refine x_iload_n (i := 3) (dxX9_layFlat_2 2 rfl) rfl rfl ?_
        refine x_isub (dxX9_layFlat_2 3 rfl) ?_
        refine x_iconst (v := 4) (dxX9_layFlat_2 4 rfl) rfl ?_
        refine x_irem (dxX9_layFlat_2 5 rfl) (by decide) ?_
        refine x_topi (fun x25 e26 => ?_)
        replace h := h x25 e26
        refine x_istore (dxX9_layFlat_2 6 rfl) (Nat.le_of_ble_eq_true rfl) rfl rfl ?_
        refine x_aload_n (i := 0) (dxX9_layFlat_2 7 rfl) rfl rfl ?_
        refine x_iload (dxX9_layFlat_2 8 rfl) rfl ?_
        refine x_aload_n (i := 0) (dxX9_layFlat_2 9 rfl) rfl rfl ?_
        refine gf_9_27 (kd_149 hL) (rv_149_10 hL) (dxX9_layFlat_2 10 rfl) ?_
        refine x_iload_n (i := 2) (dxX9_layFlat_2 11 rfl) rfl rfl ?_
        obtain ⟨hi27, h⟩ := h
        refine x_iald (kd_162 hL) hi27 (dxX9_layFlat_2 12 rfl) ?_
        refine x_getsN (Or.inl ⟨rfl, rfl⟩) (by decide +kernel) (dxX9_layFlat_2 13 rfl) ?_
        refine x_iload_n (i := 3) (dxX9_layFlat_2 14 rfl) rfl rfl ?_
        obtain ⟨hi28, h⟩ := h
        refine x_ti hi28 (dxX9_layFlat_2 15 rfl) ?_
        refine x_iadd (dxX9_layFlat_2 16 rfl) ?_
        refine x_aload_n (i := 0) (dxX9_layFlat_2 17 rfl) rfl rfl ?_
        refine gf_9_30 (kd_149 hL) (rv_149_11 hL) (dxX9_layFlat_2 18 rfl) ?_
        refine x_iload_n (i := 2) (dxX9_layFlat_2 19 rfl) rfl rfl ?_
        obtain ⟨hi29, h⟩ := h
        refine x_iald (kd_163 hL) hi29 (dxX9_layFlat_2 20 rfl) ?_
        refine x_getsN (Or.inr ⟨rfl, rfl⟩) (by decide +kernel) (dxX9_layFlat_2 21 rfl) ?_
        refine x_iload_n (i := 3) (dxX9_layFlat_2 22 rfl) rfl rfl ?_
        obtain ⟨hi30, h⟩ := h
        refine x_ti2 hi30 (dxX9_layFlat_2 23 rfl) ?_
        refine x_iadd (dxX9_layFlat_2 24 rfl) ?_
        refine x_iload (dxX9_layFlat_2 25 rfl) rfl ?_
        refine cl_9_110 (kd_149 hL) (Nat.le_of_ble_eq_true rfl) (dxX9_layFlat_2 26 rfl) h (fun s31 h => ?_) (Nat.le_refl _) (Nat.le_refl _)
        obtain ⟨hFs31, h⟩ := h
        have hKs31 : kd s31 = kd σ := hFs31.1.trans (rfl : kd σ = kd σ)
        have hLs31 : Lay s31 := hL.fr hFs31
        obtain ⟨x33, e34⟩ : ∃ y : Int32, y = l3 + 1 := ⟨_, rfl⟩
        replace h := h x33 e34
        refine x_iinc (v := x33) (dxX9_layFlat_2 27 rfl) (i := 3) rfl (by rw [e34]; rfl) (Nat.le_of_ble_eq_true rfl) rfl rfl ?_
        refine x_goto (tgt := 40) (dxX9_layFlat_2 28 rfl) (by decide) ?_
        refine x_mask [true, true, true, true, false, false, false] (L1 := [some (.ref 149), some (.int l1), some (.int l2), some (.int x33), none, none, none]) rfl ?_
        exact h
theorem vcX9_put {g : GV} {d : Nat} {P : PS → Prop} {σ : PS} (hL : Lay σ) (p0 : Int32) (p1 : Int32) (p2 : Int32) (p3 : Int32) (h : vp_in p0 8 ∧ ∀ s2 : PS, s2 = si σ 162 (Int32.toNatClampNeg p0) p1 → vp_in p0 8 ∧ ∀ s5 : PS, s5 = si s2 163 (Int32.toNatClampNeg p0) p2 → vp_in p0 8 ∧ ∀ s8 : PS, s8 = si s5 164 (Int32.toNatClampNeg p0) p3 → vp_in (mi s8 149 14) 8 ∧ ∀ s11 : PS, s11 = si s8 165 (Int32.toNatClampNeg (mi s8 149 14)) p0 → ∀ s13 : PS, s13 = si s11 149 14 ((mi s11 149 14) + 1) → P s13) : CX9_put g d [.ref 149, .int p0, .int p1, .int p2, .int p3] σ P := by
  refine x_entry (L := [some (.ref 149), some (.int p0), some (.int p1), some (.int p2), some (.int p3)]) pn_9 (Nat.le_of_ble_eq_true rfl) ⟨0, rfl⟩ ?_
  show VX9_put g d P 0 [some (.ref 149), some (.int p0), some (.int p1), some (.int p2), some (.int p3)] [] σ
  refine x_aload_n (i := 0) (dxX9_put_0 0 rfl) rfl rfl ?_
  refine gf_9_27 (kd_149 hL) (rv_149_10 hL) (dxX9_put_0 1 rfl) ?_
  refine x_iload_n (i := 1) (dxX9_put_0 2 rfl) rfl rfl ?_
  refine x_iload_n (i := 2) (dxX9_put_0 3 rfl) rfl rfl ?_
  obtain ⟨hi1, h⟩ := h
  refine x_iast (kd_162 hL) hi1 (dxX9_put_0 4 rfl) ?_
  refine x_sto (fun s2 e3 => ?_)
  replace h := h s2 e3
  have hKs2 : kd s2 = kd σ := by rw [e3]; exact (rfl : kd σ = kd σ)
  have hLs2 : Lay s2 := by rw [e3]; exact hL.si
  refine x_aload_n (i := 0) (dxX9_put_0 5 rfl) rfl rfl ?_
  refine gf_9_30 (kd_149 hLs2) (rv_149_11 hLs2) (dxX9_put_0 6 rfl) ?_
  refine x_iload_n (i := 1) (dxX9_put_0 7 rfl) rfl rfl ?_
  refine x_iload_n (i := 3) (dxX9_put_0 8 rfl) rfl rfl ?_
  obtain ⟨hi4, h⟩ := h
  refine x_iast (kd_163 hLs2) hi4 (dxX9_put_0 9 rfl) ?_
  refine x_sto (fun s5 e6 => ?_)
  replace h := h s5 e6
  have hKs5 : kd s5 = kd σ := by rw [e6]; exact hKs2
  have hLs5 : Lay s5 := by rw [e6]; exact hLs2.si
  refine x_aload_n (i := 0) (dxX9_put_0 10 rfl) rfl rfl ?_
  refine gf_9_33 (kd_149 hLs5) (rv_149_12 hLs5) (dxX9_put_0 11 rfl) ?_
  refine x_iload_n (i := 1) (dxX9_put_0 12 rfl) rfl rfl ?_
  refine x_iload (dxX9_put_0 13 rfl) rfl ?_
  obtain ⟨hi7, h⟩ := h
  refine x_iast (kd_164 hLs5) hi7 (dxX9_put_0 14 rfl) ?_
  refine x_sto (fun s8 e9 => ?_)
  replace h := h s8 e9
  have hKs8 : kd s8 = kd σ := by rw [e9]; exact hKs5
  have hLs8 : Lay s8 := by rw [e9]; exact hLs5.si
  refine x_aload_n (i := 0) (dxX9_put_0 15 rfl) rfl rfl ?_
  refine gf_9_36 (kd_149 hLs8) (rv_149_13 hLs8) (dxX9_put_0 16 rfl) ?_
  refine x_aload_n (i := 0) (dxX9_put_0 17 rfl) rfl rfl ?_
  refine gf_9_107 (kd_149 hLs8) rfl (dxX9_put_0 18 rfl) ?_
  refine x_iload_n (i := 1) (dxX9_put_0 19 rfl) rfl rfl ?_
  obtain ⟨hi10, h⟩ := h
  refine x_iast (kd_165 hLs8) hi10 (dxX9_put_0 20 rfl) ?_
  refine x_sto (fun s11 e12 => ?_)
  replace h := h s11 e12
  have hKs11 : kd s11 = kd σ := by rw [e12]; exact hKs8
  have hLs11 : Lay s11 := by rw [e12]; exact hLs8.si
  refine x_aload_n (i := 0) (dxX9_put_0 21 rfl) rfl rfl ?_
  refine x_dup (dxX9_put_0 22 rfl) rfl ?_
  refine gf_9_107 (kd_149 hLs11) rfl (dxX9_put_0 23 rfl) ?_
  refine x_iconst (v := 1) (dxX9_put_0 24 rfl) rfl ?_
  refine x_iadd (dxX9_put_0 25 rfl) ?_
  refine pf_9_107 (kd_149 hLs11) (dxX9_put_0 26 rfl) ?_
  refine x_sto (fun s13 e14 => ?_)
  replace h := h s13 e14
  have hKs13 : kd s13 = kd σ := by rw [e14]; exact hKs11
  have hLs13 : Lay s13 := by rw [e14]; exact hLs11.si
  exact x_vret rfl (dxX9_put_0 27 rfl) ⟨rfl, h⟩
theorem vcX9_keepIfGood {g : GV} {d : Nat} {P : PS → Prop} {σ : PS} (hL : Lay σ)  (h : CX9_moveToCorner g d [.ref 149, .ref 162] σ (fun (s1 : PS) => Fr σ s1 ∧ CX9_moveToCorner g d [.ref 149, .ref 163] s1 (fun (s3 : PS) => Fr s1 s3 ∧ VX9_keepIfGood g (d + 1) P 20 [some (.ref 149), some (.long 0), none, some (.int 0), none, none] [] s3))) : CX9_keepIfGood g (d + 1) [.ref 149] σ P := by
  refine x_entry (L := [some (.ref 149), none, none, none, none, none]) pn_9 (Nat.le_of_ble_eq_true rfl) ⟨5, rfl⟩ ?_
  show VX9_keepIfGood g (d + 1) P 0 [some (.ref 149), none, none, none, none, none] [] σ
  refine x_aload_n (i := 0) (dxX9_keepIfGood_0 0 rfl) rfl rfl ?_
  refine x_aload_n (i := 0) (dxX9_keepIfGood_0 1 rfl) rfl rfl ?_
  refine gf_9_27 (kd_149 hL) (rv_149_10 hL) (dxX9_keepIfGood_0 2 rfl) ?_
  refine cl_9_120 (kd_149 hL) (Nat.le_of_ble_eq_true rfl) (dxX9_keepIfGood_0 3 rfl) h (fun s1 h => ?_) (Nat.le_refl _) (Nat.le_refl _)
  obtain ⟨hFs1, h⟩ := h
  have hKs1 : kd s1 = kd σ := hFs1.1.trans (rfl : kd σ = kd σ)
  have hLs1 : Lay s1 := hL.fr hFs1
  refine x_aload_n (i := 0) (dxX9_keepIfGood_0 4 rfl) rfl rfl ?_
  refine x_aload_n (i := 0) (dxX9_keepIfGood_0 5 rfl) rfl rfl ?_
  refine gf_9_30 (kd_149 hLs1) (rv_149_11 hLs1) (dxX9_keepIfGood_0 6 rfl) ?_
  refine cl_9_120 (kd_149 hLs1) (Nat.le_of_ble_eq_true rfl) (dxX9_keepIfGood_0 7 rfl) h (fun s3 h => ?_) (Nat.le_refl _) (Nat.le_refl _)
  obtain ⟨hFs3, h⟩ := h
  have hKs3 : kd s3 = kd σ := hFs3.1.trans hKs1
  have hLs3 : Lay s3 := hLs1.fr hFs3
  refine x_lconst (v := 0) (dxX9_keepIfGood_0 8 rfl) rfl ?_
  refine x_lstore_n (i := 1) (dxX9_keepIfGood_0 9 rfl) rfl (Nat.le_of_ble_eq_true rfl) rfl rfl ?_
  refine x_iconst (v := 0) (dxX9_keepIfGood_0 10 rfl) rfl ?_
  refine x_istore_n (i := 3) (dxX9_keepIfGood_0 11 rfl) rfl (Nat.le_of_ble_eq_true rfl) rfl rfl ?_
  exact h
theorem vcX9_keepIfGood_20 {g : GV} {d : Nat} {P : PS → Prop} {σ : PS} (hL : Lay σ) (l1 : Int64) (l3 : Int32) (h : (8 ≤ l3 → CJ13_bitCount_95d88 g d [.long l1] σ (fun (v6 : Int32) (s5 : PS) => Fr σ s5 ∧ (¬ v6 = (mi s5 129 0) → P s5) ∧ (v6 = (mi s5 129 0) → ∀ s7 : PS, s7 = si s5 149 3 ((mi s5 149 3) + 1) → CX9_keepNet g d [.ref 149, .long l1] s7 (fun (s9 : PS) => Fr s7 s9 ∧ P s9)))) ∧ (¬ 8 ≤ l3 → CX9_squaresSeen g d [.ref 149, .int l3] σ (fun (v12 : Int64) (s11 : PS) => Fr σ s11 ∧ (l3 = 0 → ∀ x13 : Int32, x13 = l3 + 1 → VX9_keepIfGood g (d + 1) P 20 [some (.ref 149), some (.long v12), none, some (.int x13), none, none] [] s11) ∧ (¬ l3 = 0 → (0 ≤ (lg_cmp v12 l1) → ∀ x15 : Int32, x15 = l3 + 1 → VX9_keepIfGood g (d + 1) P 20 [some (.ref 149), some (.long l1), none, some (.int x15), none, none] [] s11) ∧ (¬ 0 ≤ (lg_cmp v12 l1) → ∀ x17 : Int32, x17 = l3 + 1 → VX9_keepIfGood g (d + 1) P 20 [some (.ref 149), some (.long v12), none, some (.int x17), none, none] [] s11))))) : VX9_keepIfGood g (d + 1) P 20 [some (.ref 149), some (.long l1), none, some (.int l3), none, none] [] σ := by
  refine x_iload_n (i := 3) (dxX9_keepIfGood_0 12 rfl) rfl rfl ?_
  refine x_bipush (v := 8) (dxX9_keepIfGood_0 13 rfl) rfl ?_
  refine x_icmp_ge (tgt := 57) (dxX9_keepIfGood_0 14 rfl) (by decide) (fun hc => ?_) (fun hc => ?_)
  · replace h := h.1 hc
    refine x_lload_n (i := 1) (dxX9_keepIfGood_0 31 rfl) rfl rfl ?_
    refine cl_9_128 (Nat.le_of_ble_eq_true rfl) (dxX9_keepIfGood_1 0 rfl) h (fun v6 s5 h => ?_) (Nat.le_refl _) (Nat.le_refl _)
    obtain ⟨hFs5, h⟩ := h
    have hKs5 : kd s5 = kd σ := hFs5.1.trans (rfl : kd σ = kd σ)
    have hLs5 : Lay s5 := hL.fr hFs5
    refine x_aload_n (i := 0) (dxX9_keepIfGood_1 1 rfl) rfl rfl ?_
    refine gf_9_43 (kd_149 hLs5) (rv_149_0 hLs5) (dxX9_keepIfGood_1 2 rfl) ?_
    refine gf_9_51 (kd_129 hLs5) rfl (dxX9_keepIfGood_1 3 rfl) ?_
    refine x_icmp_ne (tgt := 86) (dxX9_keepIfGood_1 4 rfl) (by decide) (fun hc => ?_) (fun hc => ?_)
    · replace h := h.1 hc
      exact x_vret rfl (dxX9_keepIfGood_1 14 rfl) ⟨rfl, h⟩
    · replace h := h.2 hc
      refine x_aload_n (i := 0) (dxX9_keepIfGood_1 5 rfl) rfl rfl ?_
      refine x_dup (dxX9_keepIfGood_1 6 rfl) rfl ?_
      refine gf_9_60 (kd_149 hLs5) rfl (dxX9_keepIfGood_1 7 rfl) ?_
      refine x_iconst (v := 1) (dxX9_keepIfGood_1 8 rfl) rfl ?_
      refine x_iadd (dxX9_keepIfGood_1 9 rfl) ?_
      refine pf_9_60 (kd_149 hLs5) (dxX9_keepIfGood_1 10 rfl) ?_
      refine x_sto (fun s7 e8 => ?_)
      replace h := h s7 e8
      have hKs7 : kd s7 = kd σ := by rw [e8]; exact hKs5
      have hLs7 : Lay s7 := by rw [e8]; exact hLs5.si
      refine x_aload_n (i := 0) (dxX9_keepIfGood_1 11 rfl) rfl rfl ?_
      refine x_lload_n (i := 1) (dxX9_keepIfGood_1 12 rfl) rfl rfl ?_
      refine cl_9_134 (kd_149 hLs7) (Nat.le_of_ble_eq_true rfl) (dxX9_keepIfGood_1 13 rfl) h (fun s9 h => ?_) (Nat.le_refl _) (Nat.le_refl _)
      obtain ⟨hFs9, h⟩ := h
      have hKs9 : kd s9 = kd σ := hFs9.1.trans hKs7
      have hLs9 : Lay s9 := hLs7.fr hFs9
      exact x_vret rfl (dxX9_keepIfGood_1 14 rfl) ⟨rfl, h⟩
  · replace h := h.2 hc
    refine x_aload_n (i := 0) (dxX9_keepIfGood_0 15 rfl) rfl rfl ?_
    refine x_iload_n (i := 3) (dxX9_keepIfGood_0 16 rfl) rfl rfl ?_
    refine cl_9_124 (kd_149 hL) (Nat.le_of_ble_eq_true rfl) (dxX9_keepIfGood_0 17 rfl) h (fun v12 s11 h => ?_) (Nat.le_refl _) (Nat.le_refl _)
    obtain ⟨hFs11, h⟩ := h
    have hKs11 : kd s11 = kd σ := hFs11.1.trans (rfl : kd σ = kd σ)
    have hLs11 : Lay s11 := hL.fr hFs11
    refine x_lstore (dxX9_keepIfGood_0 18 rfl) (Nat.le_of_ble_eq_true rfl) rfl rfl ?_
    refine x_iload_n (i := 3) (dxX9_keepIfGood_0 19 rfl) rfl rfl ?_
    refine x_if_eq (tgt := 44) (dxX9_keepIfGood_0 20 rfl) (by decide) (fun hc => ?_) (fun hc => ?_)
    · replace h := h.1 hc
      refine x_lload (dxX9_keepIfGood_0 25 rfl) rfl ?_
      refine x_goto (tgt := 50) (dxX9_keepIfGood_0 26 rfl) (by decide) ?_
      refine x_lstore_n (i := 1) (dxX9_keepIfGood_0 28 rfl) rfl (Nat.le_of_ble_eq_true rfl) rfl rfl ?_
      obtain ⟨x13, e14⟩ : ∃ y : Int32, y = l3 + 1 := ⟨_, rfl⟩
      replace h := h x13 e14
      refine x_iinc (v := x13) (dxX9_keepIfGood_0 29 rfl) (i := 3) rfl (by rw [e14]; rfl) (Nat.le_of_ble_eq_true rfl) rfl rfl ?_
      refine x_goto (tgt := 20) (dxX9_keepIfGood_0 30 rfl) (by decide) ?_
      refine x_mask [true, true, false, true, false, false] (L1 := [some (.ref 149), some (.long v12), none, some (.int x13), none, none]) rfl ?_
      exact h
    · replace h := h.2 hc
      refine x_lload (dxX9_keepIfGood_0 21 rfl) rfl ?_
      refine x_lload_n (i := 1) (dxX9_keepIfGood_0 22 rfl) rfl rfl ?_
      refine x_lcmp (dxX9_keepIfGood_0 23 rfl) ?_
      refine x_if_ge (tgt := 49) (dxX9_keepIfGood_0 24 rfl) (by decide) (fun hc => ?_) (fun hc => ?_)
      · replace h := h.1 hc
        refine x_lload_n (i := 1) (dxX9_keepIfGood_0 27 rfl) rfl rfl ?_
        refine x_lstore_n (i := 1) (dxX9_keepIfGood_0 28 rfl) rfl (Nat.le_of_ble_eq_true rfl) rfl rfl ?_
        obtain ⟨x15, e16⟩ : ∃ y : Int32, y = l3 + 1 := ⟨_, rfl⟩
        replace h := h x15 e16
        refine x_iinc (v := x15) (dxX9_keepIfGood_0 29 rfl) (i := 3) rfl (by rw [e16]; rfl) (Nat.le_of_ble_eq_true rfl) rfl rfl ?_
        refine x_goto (tgt := 20) (dxX9_keepIfGood_0 30 rfl) (by decide) ?_
        refine x_mask [true, true, false, true, false, false] (L1 := [some (.ref 149), some (.long l1), none, some (.int x15), none, none]) rfl ?_
        exact h
      · replace h := h.2 hc
        refine x_lload (dxX9_keepIfGood_0 25 rfl) rfl ?_
        refine x_goto (tgt := 50) (dxX9_keepIfGood_0 26 rfl) (by decide) ?_
        refine x_lstore_n (i := 1) (dxX9_keepIfGood_0 28 rfl) rfl (Nat.le_of_ble_eq_true rfl) rfl rfl ?_
        obtain ⟨x17, e18⟩ : ∃ y : Int32, y = l3 + 1 := ⟨_, rfl⟩
        replace h := h x17 e18
        refine x_iinc (v := x17) (dxX9_keepIfGood_0 29 rfl) (i := 3) rfl (by rw [e18]; rfl) (Nat.le_of_ble_eq_true rfl) rfl rfl ?_
        refine x_goto (tgt := 20) (dxX9_keepIfGood_0 30 rfl) (by decide) ?_
        refine x_mask [true, true, false, true, false, false] (L1 := [some (.ref 149), some (.long v12), none, some (.int x17), none, none]) rfl ?_
        exact h
theorem vcX9_moveToCorner {g : GV} {d : Nat} {P : PS → Prop} {σ : PS} (hL : Lay σ) (p0 np0 : Nat) (kp0 : kd σ p0 = some (.inr (0, np0))) (h : vp_in 0 np0 ∧ ∀ x2 : Int32, x2 = mi σ p0 (Int32.toNatClampNeg 0) → VX9_moveToCorner g d P 6 [some (.ref 149), some (.ref p0), some (.int x2), some (.int 1)] [] σ) : CX9_moveToCorner g d [.ref 149, .ref p0] σ P := by
  refine x_entry (L := [some (.ref 149), some (.ref p0), none, none]) pn_9 (Nat.le_of_ble_eq_true rfl) ⟨2, rfl⟩ ?_
  show VX9_moveToCorner g d P 0 [some (.ref 149), some (.ref p0), none, none] [] σ
  refine x_aload_n (i := 1) (dxX9_moveToCorner_0 0 rfl) rfl rfl ?_
  refine x_iconst (v := 0) (dxX9_moveToCorner_0 1 rfl) rfl ?_
  obtain ⟨hi1, h⟩ := h
  refine x_iald ((congrFun (rfl : kd σ = kd σ) _).trans kp0) hi1 (dxX9_moveToCorner_0 2 rfl) ?_
  refine x_topi (fun x2 e3 => ?_)
  replace h := h x2 e3
  refine x_istore_n (i := 2) (dxX9_moveToCorner_0 3 rfl) rfl (Nat.le_of_ble_eq_true rfl) rfl rfl ?_
  refine x_iconst (v := 1) (dxX9_moveToCorner_0 4 rfl) rfl ?_
  refine x_istore_n (i := 3) (dxX9_moveToCorner_0 5 rfl) rfl (Nat.le_of_ble_eq_true rfl) rfl rfl ?_
  exact h
theorem vcX9_moveToCorner_6 {g : GV} {d : Nat} {P : PS → Prop} {σ : PS} (hL : Lay σ) (l1 nl1 : Nat) (kl1 : kd σ l1 = some (.inr (0, nl1))) (l2 : Int32) (l3 : Int32) (h : ((mi σ 129 0) ≤ l3 → VX9_moveToCorner g d P 33 [some (.ref 149), some (.ref l1), some (.int l2), some (.int 0)] [] σ) ∧ (¬ (mi σ 129 0) ≤ l3 → vp_in l3 nl1 ∧ ∀ x5 : Int32, x5 = jmin l2 (mi σ l1 (Int32.toNatClampNeg l3)) → ∀ x7 : Int32, x7 = l3 + 1 → VX9_moveToCorner g d P 6 [some (.ref 149), some (.ref l1), some (.int x5), some (.int x7)] [] σ)) : VX9_moveToCorner g d P 6 [some (.ref 149), some (.ref l1), some (.int l2), some (.int l3)] [] σ := by
  refine x_iload_n (i := 3) (dxX9_moveToCorner_0 6 rfl) rfl rfl ?_
  refine x_aload_n (i := 0) (dxX9_moveToCorner_0 7 rfl) rfl rfl ?_
  refine gf_9_43 (kd_149 hL) (rv_149_0 hL) (dxX9_moveToCorner_0 8 rfl) ?_
  refine gf_9_51 (kd_129 hL) rfl (dxX9_moveToCorner_0 9 rfl) ?_
  refine x_icmp_ge (tgt := 31) (dxX9_moveToCorner_0 10 rfl) (by decide) (fun hc => ?_) (fun hc => ?_)
  · replace h := h.1 hc
    refine x_iconst (v := 0) (dxX9_moveToCorner_0 19 rfl) rfl ?_
    refine x_istore_n (i := 3) (dxX9_moveToCorner_0 20 rfl) rfl (Nat.le_of_ble_eq_true rfl) rfl rfl ?_
    exact h
  · replace h := h.2 hc
    refine x_iload_n (i := 2) (dxX9_moveToCorner_0 11 rfl) rfl rfl ?_
    refine x_aload_n (i := 1) (dxX9_moveToCorner_0 12 rfl) rfl rfl ?_
    refine x_iload_n (i := 3) (dxX9_moveToCorner_0 13 rfl) rfl rfl ?_
    obtain ⟨hi4, h⟩ := h
    refine x_iald ((congrFun (rfl : kd σ = kd σ) _).trans kl1) hi4 (dxX9_moveToCorner_0 14 rfl) ?_
    refine cl_9_98 (Nat.le_of_ble_eq_true rfl) (dxX9_moveToCorner_0 15 rfl) ?_
    refine x_topi (fun x5 e6 => ?_)
    replace h := h x5 e6
    refine x_istore_n (i := 2) (dxX9_moveToCorner_0 16 rfl) rfl (Nat.le_of_ble_eq_true rfl) rfl rfl ?_
    obtain ⟨x7, e8⟩ : ∃ y : Int32, y = l3 + 1 := ⟨_, rfl⟩
    replace h := h x7 e8
    refine x_iinc (v := x7) (dxX9_moveToCorner_0 17 rfl) (i := 3) rfl (by rw [e8]; rfl) (Nat.le_of_ble_eq_true rfl) rfl rfl ?_
    refine x_goto (tgt := 6) (dxX9_moveToCorner_0 18 rfl) (by decide) ?_
    exact h
theorem vcX9_moveToCorner_33 {g : GV} {d : Nat} {P : PS → Prop} {σ : PS} (hL : Lay σ) (l1 nl1 : Nat) (kl1 : kd σ l1 = some (.inr (0, nl1))) (l2 : Int32) (l3 : Int32) (h : ((mi σ 129 0) ≤ l3 → P σ) ∧ (¬ (mi σ 129 0) ≤ l3 → vp_in l3 nl1 ∧ vp_in l3 nl1 ∧ ∀ s11 : PS, s11 = si σ l1 (Int32.toNatClampNeg l3) ((mi σ l1 (Int32.toNatClampNeg l3)) - l2) → ∀ x13 : Int32, x13 = l3 + 1 → VX9_moveToCorner g d P 33 [some (.ref 149), some (.ref l1), some (.int l2), some (.int x13)] [] s11)) : VX9_moveToCorner g d P 33 [some (.ref 149), some (.ref l1), some (.int l2), some (.int l3)] [] σ := by
  refine x_iload_n (i := 3) (dxX9_moveToCorner_0 21 rfl) rfl rfl ?_
  refine x_aload_n (i := 0) (dxX9_moveToCorner_0 22 rfl) rfl rfl ?_
  refine gf_9_43 (kd_149 hL) (rv_149_0 hL) (dxX9_moveToCorner_0 23 rfl) ?_
  refine gf_9_51 (kd_129 hL) rfl (dxX9_moveToCorner_0 24 rfl) ?_
  refine x_icmp_ge (tgt := 57) (dxX9_moveToCorner_0 25 rfl) (by decide) (fun hc => ?_) (fun hc => ?_)
  · replace h := h.1 hc
    exact x_vret rfl (dxX9_moveToCorner_1 3 rfl) ⟨rfl, h⟩
  · replace h := h.2 hc
    refine x_aload_n (i := 1) (dxX9_moveToCorner_0 26 rfl) rfl rfl ?_
    refine x_iload_n (i := 3) (dxX9_moveToCorner_0 27 rfl) rfl rfl ?_
    refine x_dup2 (dxX9_moveToCorner_0 28 rfl) rfl rfl ?_
    obtain ⟨hi9, h⟩ := h
    refine x_iald ((congrFun (rfl : kd σ = kd σ) _).trans kl1) hi9 (dxX9_moveToCorner_0 29 rfl) ?_
    refine x_iload_n (i := 2) (dxX9_moveToCorner_0 30 rfl) rfl rfl ?_
    refine x_isub (dxX9_moveToCorner_0 31 rfl) ?_
    obtain ⟨hi10, h⟩ := h
    refine x_iast ((congrFun (rfl : kd σ = kd σ) _).trans kl1) hi10 (dxX9_moveToCorner_1 0 rfl) ?_
    refine x_sto (fun s11 e12 => ?_)
    replace h := h s11 e12
    have hKs11 : kd s11 = kd σ := by rw [e12]; exact (rfl : kd σ = kd σ)
    have hLs11 : Lay s11 := by rw [e12]; exact hL.si
    obtain ⟨x13, e14⟩ : ∃ y : Int32, y = l3 + 1 := ⟨_, rfl⟩
    replace h := h x13 e14
    refine x_iinc (v := x13) (dxX9_moveToCorner_1 1 rfl) (i := 3) rfl (by rw [e14]; rfl) (Nat.le_of_ble_eq_true rfl) rfl rfl ?_
    refine x_goto (tgt := 33) (dxX9_moveToCorner_1 2 rfl) (by decide) ?_
    exact h
theorem vcX9_squaresSeen {g : GV} {d : Nat} {P : Int64 → PS → Prop} {σ : PS} (hL : Lay σ) (p0 : Int32) (h : VX9_squaresSeen g d P 7 [some (.ref 149), some (.int p0), some (.int 0), some (.int 0), some (.int 0), none, none, none, none] [] σ) : CX9_squaresSeen g d [.ref 149, .int p0] σ P := by
  refine x_entry (L := [some (.ref 149), some (.int p0), none, none, none, none, none, none, none]) pn_9 (Nat.le_of_ble_eq_true rfl) ⟨7, rfl⟩ ?_
  show VX9_squaresSeen g d P 0 [some (.ref 149), some (.int p0), none, none, none, none, none, none, none] [] σ
  refine x_iconst (v := 0) (dxX9_squaresSeen_0 0 rfl) rfl ?_
  refine x_istore_n (i := 2) (dxX9_squaresSeen_0 1 rfl) rfl (Nat.le_of_ble_eq_true rfl) rfl rfl ?_
  refine x_iconst (v := 0) (dxX9_squaresSeen_0 2 rfl) rfl ?_
  refine x_istore_n (i := 3) (dxX9_squaresSeen_0 3 rfl) rfl (Nat.le_of_ble_eq_true rfl) rfl rfl ?_
  refine x_iconst (v := 0) (dxX9_squaresSeen_0 4 rfl) rfl ?_
  refine x_istore (dxX9_squaresSeen_0 5 rfl) (Nat.le_of_ble_eq_true rfl) rfl rfl ?_
  exact h
theorem vcX9_squaresSeen_7 {g : GV} {d : Nat} {P : Int64 → PS → Prop} {σ : PS} (hL : Lay σ) (l1 : Int32) (l2 : Int32) (l3 : Int32) (l4 : Int32) (h : ((mi σ 129 0) ≤ l4 → VX9_squaresSeen g d P 55 [some (.ref 149), some (.int l1), some (.int l2), some (.int l3), some (.long 0), none, some (.int 0), none, none] [] σ) ∧ (¬ (mi σ 129 0) ≤ l4 → vp_in l4 8 ∧ ∀ x2 : Int32, x2 = jmax l2 (mi σ 162 (Int32.toNatClampNeg l4)) → vp_in l4 8 ∧ ∀ x5 : Int32, x5 = jmax l3 (mi σ 163 (Int32.toNatClampNeg l4)) → ∀ x7 : Int32, x7 = l4 + 1 → VX9_squaresSeen g d P 7 [some (.ref 149), some (.int l1), some (.int x2), some (.int x5), some (.int x7), none, none, none, none] [] σ)) : VX9_squaresSeen g d P 7 [some (.ref 149), some (.int l1), some (.int l2), some (.int l3), some (.int l4), none, none, none, none] [] σ := by
  refine x_iload (dxX9_squaresSeen_0 6 rfl) rfl ?_
  refine x_aload_n (i := 0) (dxX9_squaresSeen_0 7 rfl) rfl rfl ?_
  refine gf_9_43 (kd_149 hL) (rv_149_0 hL) (dxX9_squaresSeen_0 8 rfl) ?_
  refine gf_9_51 (kd_129 hL) rfl (dxX9_squaresSeen_0 9 rfl) ?_
  refine x_icmp_ge (tgt := 49) (dxX9_squaresSeen_0 10 rfl) (by decide) (fun hc => ?_) (fun hc => ?_)
  · replace h := h.1 hc
    refine x_lconst (v := 0) (dxX9_squaresSeen_0 27 rfl) rfl ?_
    refine x_lstore (dxX9_squaresSeen_0 28 rfl) (Nat.le_of_ble_eq_true rfl) rfl rfl ?_
    refine x_iconst (v := 0) (dxX9_squaresSeen_0 29 rfl) rfl ?_
    refine x_istore (dxX9_squaresSeen_0 30 rfl) (Nat.le_of_ble_eq_true rfl) rfl rfl ?_
    exact h
  · replace h := h.2 hc
    refine x_iload_n (i := 2) (dxX9_squaresSeen_0 11 rfl) rfl rfl ?_
    refine x_aload_n (i := 0) (dxX9_squaresSeen_0 12 rfl) rfl rfl ?_
    refine gf_9_27 (kd_149 hL) (rv_149_10 hL) (dxX9_squaresSeen_0 13 rfl) ?_
    refine x_iload (dxX9_squaresSeen_0 14 rfl) rfl ?_
    obtain ⟨hi1, h⟩ := h
    refine x_iald (kd_162 hL) hi1 (dxX9_squaresSeen_0 15 rfl) ?_
    refine cl_9_138 (Nat.le_of_ble_eq_true rfl) (dxX9_squaresSeen_0 16 rfl) ?_
    refine x_topi (fun x2 e3 => ?_)
    replace h := h x2 e3
    refine x_istore_n (i := 2) (dxX9_squaresSeen_0 17 rfl) rfl (Nat.le_of_ble_eq_true rfl) rfl rfl ?_
    refine x_iload_n (i := 3) (dxX9_squaresSeen_0 18 rfl) rfl rfl ?_
    refine x_aload_n (i := 0) (dxX9_squaresSeen_0 19 rfl) rfl rfl ?_
    refine gf_9_30 (kd_149 hL) (rv_149_11 hL) (dxX9_squaresSeen_0 20 rfl) ?_
    refine x_iload (dxX9_squaresSeen_0 21 rfl) rfl ?_
    obtain ⟨hi4, h⟩ := h
    refine x_iald (kd_163 hL) hi4 (dxX9_squaresSeen_0 22 rfl) ?_
    refine cl_9_138 (Nat.le_of_ble_eq_true rfl) (dxX9_squaresSeen_0 23 rfl) ?_
    refine x_topi (fun x5 e6 => ?_)
    replace h := h x5 e6
    refine x_istore_n (i := 3) (dxX9_squaresSeen_0 24 rfl) rfl (Nat.le_of_ble_eq_true rfl) rfl rfl ?_
    obtain ⟨x7, e8⟩ : ∃ y : Int32, y = l4 + 1 := ⟨_, rfl⟩
    replace h := h x7 e8
    refine x_iinc (v := x7) (dxX9_squaresSeen_0 25 rfl) (i := 4) rfl (by rw [e8]; rfl) (Nat.le_of_ble_eq_true rfl) rfl rfl ?_
    refine x_goto (tgt := 7) (dxX9_squaresSeen_0 26 rfl) (by decide) ?_
    exact h
theorem vcX9_squaresSeen_55 {g : GV} {d : Nat} {P : Int64 → PS → Prop} {σ : PS} (hL : Lay σ) (l1 : Int32) (l2 : Int32) (l3 : Int32) (l4 : Int64) (l6 : Int32) (h : ((mi σ 129 0) ≤ l6 → P l4 σ) ∧ (¬ (mi σ 129 0) ≤ l6 → (¬ (l1 &&& 1) = 0 → vp_in l6 8 ∧ VX9_squaresSeen g d P 92 [some (.ref 149), some (.int l1), some (.int l2), some (.int l3), some (.long l4), none, some (.int l6), none, none] [.int (l2 - (mi σ 162 (Int32.toNatClampNeg l6)))] σ) ∧ ((l1 &&& 1) = 0 → vp_in l6 8 ∧ VX9_squaresSeen g d P 92 [some (.ref 149), some (.int l1), some (.int l2), some (.int l3), some (.long l4), none, some (.int l6), none, none] [.int (mi σ 162 (Int32.toNatClampNeg l6))] σ))) : VX9_squaresSeen g d P 55 [some (.ref 149), some (.int l1), some (.int l2), some (.int l3), some (.long l4), none, some (.int l6), none, none] [] σ := by
  refine x_iload (dxX9_squaresSeen_0 31 rfl) rfl ?_
  refine x_aload_n (i := 0) (dxX9_squaresSeen_1 0 rfl) rfl rfl ?_
  refine gf_9_43 (kd_149 hL) (rv_149_0 hL) (dxX9_squaresSeen_1 1 rfl) ?_
  refine gf_9_51 (kd_129 hL) rfl (dxX9_squaresSeen_1 2 rfl) ?_
  refine x_icmp_ge (tgt := 159) (dxX9_squaresSeen_1 3 rfl) (by decide) (fun hc => ?_) (fun hc => ?_)
  · replace h := h.1 hc
    refine x_lload (dxX9_squaresSeen_2 26 rfl) rfl ?_
    exact x_lret rfl (dxX9_squaresSeen_2 27 rfl) ⟨_, rfl, h⟩
  · replace h := h.2 hc
    refine x_iload_n (i := 1) (dxX9_squaresSeen_1 4 rfl) rfl rfl ?_
    refine x_iconst (v := 1) (dxX9_squaresSeen_1 5 rfl) rfl ?_
    refine x_iand (dxX9_squaresSeen_1 6 rfl) ?_
    refine x_if_ne (tgt := 83) (dxX9_squaresSeen_1 7 rfl) (by decide) (fun hc => ?_) (fun hc => ?_)
    · replace h := h.1 hc
      refine x_iload_n (i := 2) (dxX9_squaresSeen_1 13 rfl) rfl rfl ?_
      refine x_aload_n (i := 0) (dxX9_squaresSeen_1 14 rfl) rfl rfl ?_
      refine gf_9_27 (kd_149 hL) (rv_149_10 hL) (dxX9_squaresSeen_1 15 rfl) ?_
      refine x_iload (dxX9_squaresSeen_1 16 rfl) rfl ?_
      obtain ⟨hi9, h⟩ := h
      refine x_iald (kd_162 hL) hi9 (dxX9_squaresSeen_1 17 rfl) ?_
      refine x_isub (dxX9_squaresSeen_1 18 rfl) ?_
      exact h
    · replace h := h.2 hc
      refine x_aload_n (i := 0) (dxX9_squaresSeen_1 8 rfl) rfl rfl ?_
      refine gf_9_27 (kd_149 hL) (rv_149_10 hL) (dxX9_squaresSeen_1 9 rfl) ?_
      refine x_iload (dxX9_squaresSeen_1 10 rfl) rfl ?_
      obtain ⟨hi10, h⟩ := h
      refine x_iald (kd_162 hL) hi10 (dxX9_squaresSeen_1 11 rfl) ?_
      refine x_goto (tgt := 92) (dxX9_squaresSeen_1 12 rfl) (by decide) ?_
      exact h
theorem vcX9_squaresSeen_92 {g : GV} {d : Nat} {P : Int64 → PS → Prop} {σ : PS} (hL : Lay σ) (l1 : Int32) (l2 : Int32) (l3 : Int32) (l4 : Int64) (l6 : Int32) (t0 : Int32) (h : (¬ (l1 &&& 2) = 0 → vp_in l6 8 ∧ ∀ x12 : Int32, x12 = l3 - (mi σ 163 (Int32.toNatClampNeg l6)) → (¬ (l1 &&& 4) = 0 → ∀ x14 : Int64, x14 = l4 ||| (jlshl 1 ((t0 * 8) + x12)) → ∀ x16 : Int32, x16 = l6 + 1 → VX9_squaresSeen g d P 55 [some (.ref 149), some (.int l1), some (.int l2), some (.int l3), some (.long x14), none, some (.int x16), none, none] [] σ) ∧ ((l1 &&& 4) = 0 → ∀ x18 : Int64, x18 = l4 ||| (jlshl 1 ((x12 * 8) + t0)) → ∀ x20 : Int32, x20 = l6 + 1 → VX9_squaresSeen g d P 55 [some (.ref 149), some (.int l1), some (.int l2), some (.int l3), some (.long x18), none, some (.int x20), none, none] [] σ)) ∧ ((l1 &&& 2) = 0 → vp_in l6 8 ∧ ∀ x23 : Int32, x23 = mi σ 163 (Int32.toNatClampNeg l6) → (¬ (l1 &&& 4) = 0 → ∀ x25 : Int64, x25 = l4 ||| (jlshl 1 ((t0 * 8) + x23)) → ∀ x27 : Int32, x27 = l6 + 1 → VX9_squaresSeen g d P 55 [some (.ref 149), some (.int l1), some (.int l2), some (.int l3), some (.long x25), none, some (.int x27), none, none] [] σ) ∧ ((l1 &&& 4) = 0 → ∀ x29 : Int64, x29 = l4 ||| (jlshl 1 ((x23 * 8) + t0)) → ∀ x31 : Int32, x31 = l6 + 1 → VX9_squaresSeen g d P 55 [some (.ref 149), some (.int l1), some (.int l2), some (.int l3), some (.long x29), none, some (.int x31), none, none] [] σ))) : VX9_squaresSeen g d P 92 [some (.ref 149), some (.int l1), some (.int l2), some (.int l3), some (.long l4), none, some (.int l6), none, none] [.int t0] σ := by
  refine x_istore (dxX9_squaresSeen_1 19 rfl) (Nat.le_of_ble_eq_true rfl) rfl rfl ?_
  refine x_iload_n (i := 1) (dxX9_squaresSeen_1 20 rfl) rfl rfl ?_
  refine x_iconst (v := 2) (dxX9_squaresSeen_1 21 rfl) rfl ?_
  refine x_iand (dxX9_squaresSeen_1 22 rfl) ?_
  refine x_if_ne (tgt := 110) (dxX9_squaresSeen_1 23 rfl) (by decide) (fun hc => ?_) (fun hc => ?_)
  · replace h := h.1 hc
    refine x_iload_n (i := 3) (dxX9_squaresSeen_1 29 rfl) rfl rfl ?_
    refine x_aload_n (i := 0) (dxX9_squaresSeen_1 30 rfl) rfl rfl ?_
    refine gf_9_30 (kd_149 hL) (rv_149_11 hL) (dxX9_squaresSeen_1 31 rfl) ?_
    refine x_iload (dxX9_squaresSeen_2 0 rfl) rfl ?_
    obtain ⟨hi11, h⟩ := h
    refine x_iald (kd_163 hL) hi11 (dxX9_squaresSeen_2 1 rfl) ?_
    refine x_isub (dxX9_squaresSeen_2 2 rfl) ?_
    refine x_topi (fun x12 e13 => ?_)
    replace h := h x12 e13
    refine x_istore (dxX9_squaresSeen_2 3 rfl) (Nat.le_of_ble_eq_true rfl) rfl rfl ?_
    refine x_lload (dxX9_squaresSeen_2 4 rfl) rfl ?_
    refine x_lconst (v := 1) (dxX9_squaresSeen_2 5 rfl) rfl ?_
    refine x_iload_n (i := 1) (dxX9_squaresSeen_2 6 rfl) rfl rfl ?_
    refine x_iconst (v := 4) (dxX9_squaresSeen_2 7 rfl) rfl ?_
    refine x_iand (dxX9_squaresSeen_2 8 rfl) ?_
    refine x_if_ne (tgt := 141) (dxX9_squaresSeen_2 9 rfl) (by decide) (fun hc => ?_) (fun hc => ?_)
    · replace h := h.1 hc
      refine x_iload (dxX9_squaresSeen_2 16 rfl) rfl ?_
      refine x_bipush (v := 8) (dxX9_squaresSeen_2 17 rfl) rfl ?_
      refine x_imul (dxX9_squaresSeen_2 18 rfl) ?_
      refine x_iload (dxX9_squaresSeen_2 19 rfl) rfl ?_
      refine x_iadd (dxX9_squaresSeen_2 20 rfl) ?_
      refine x_lshl (dxX9_squaresSeen_2 21 rfl) ?_
      refine x_lor (dxX9_squaresSeen_2 22 rfl) ?_
      refine x_topl (fun x14 e15 => ?_)
      replace h := h x14 e15
      refine x_lstore (dxX9_squaresSeen_2 23 rfl) (Nat.le_of_ble_eq_true rfl) rfl rfl ?_
      obtain ⟨x16, e17⟩ : ∃ y : Int32, y = l6 + 1 := ⟨_, rfl⟩
      replace h := h x16 e17
      refine x_iinc (v := x16) (dxX9_squaresSeen_2 24 rfl) (i := 6) rfl (by rw [e17]; rfl) (Nat.le_of_ble_eq_true rfl) rfl rfl ?_
      refine x_goto (tgt := 55) (dxX9_squaresSeen_2 25 rfl) (by decide) ?_
      refine x_mask [true, true, true, true, true, false, true, false, false] (L1 := [some (.ref 149), some (.int l1), some (.int l2), some (.int l3), some (.long x14), none, some (.int x16), none, none]) rfl ?_
      exact h
    · replace h := h.2 hc
      refine x_iload (dxX9_squaresSeen_2 10 rfl) rfl ?_
      refine x_bipush (v := 8) (dxX9_squaresSeen_2 11 rfl) rfl ?_
      refine x_imul (dxX9_squaresSeen_2 12 rfl) ?_
      refine x_iload (dxX9_squaresSeen_2 13 rfl) rfl ?_
      refine x_iadd (dxX9_squaresSeen_2 14 rfl) ?_
      refine x_goto (tgt := 149) (dxX9_squaresSeen_2 15 rfl) (by decide) ?_
      refine x_lshl (dxX9_squaresSeen_2 21 rfl) ?_
      refine x_lor (dxX9_squaresSeen_2 22 rfl) ?_
      refine x_topl (fun x18 e19 => ?_)
      replace h := h x18 e19
      refine x_lstore (dxX9_squaresSeen_2 23 rfl) (Nat.le_of_ble_eq_true rfl) rfl rfl ?_
      obtain ⟨x20, e21⟩ : ∃ y : Int32, y = l6 + 1 := ⟨_, rfl⟩
      replace h := h x20 e21
      refine x_iinc (v := x20) (dxX9_squaresSeen_2 24 rfl) (i := 6) rfl (by rw [e21]; rfl) (Nat.le_of_ble_eq_true rfl) rfl rfl ?_
      refine x_goto (tgt := 55) (dxX9_squaresSeen_2 25 rfl) (by decide) ?_
      refine x_mask [true, true, true, true, true, false, true, false, false] (L1 := [some (.ref 149), some (.int l1), some (.int l2), some (.int l3), some (.long x18), none, some (.int x20), none, none]) rfl ?_
      exact h
  · replace h := h.2 hc
    refine x_aload_n (i := 0) (dxX9_squaresSeen_1 24 rfl) rfl rfl ?_
    refine gf_9_30 (kd_149 hL) (rv_149_11 hL) (dxX9_squaresSeen_1 25 rfl) ?_
    refine x_iload (dxX9_squaresSeen_1 26 rfl) rfl ?_
    obtain ⟨hi22, h⟩ := h
    refine x_iald (kd_163 hL) hi22 (dxX9_squaresSeen_1 27 rfl) ?_
    refine x_goto (tgt := 119) (dxX9_squaresSeen_1 28 rfl) (by decide) ?_
    refine x_topi (fun x23 e24 => ?_)
    replace h := h x23 e24
    refine x_istore (dxX9_squaresSeen_2 3 rfl) (Nat.le_of_ble_eq_true rfl) rfl rfl ?_
    refine x_lload (dxX9_squaresSeen_2 4 rfl) rfl ?_
    refine x_lconst (v := 1) (dxX9_squaresSeen_2 5 rfl) rfl ?_
    refine x_iload_n (i := 1) (dxX9_squaresSeen_2 6 rfl) rfl rfl ?_
    refine x_iconst (v := 4) (dxX9_squaresSeen_2 7 rfl) rfl ?_
    refine x_iand (dxX9_squaresSeen_2 8 rfl) ?_
    refine x_if_ne (tgt := 141) (dxX9_squaresSeen_2 9 rfl) (by decide) (fun hc => ?_) (fun hc => ?_)
    · replace h := h.1 hc
      refine x_iload (dxX9_squaresSeen_2 16 rfl) rfl ?_
      refine x_bipush (v := 8) (dxX9_squaresSeen_2 17 rfl) rfl ?_
      refine x_imul (dxX9_squaresSeen_2 18 rfl) ?_
      refine x_iload (dxX9_squaresSeen_2 19 rfl) rfl ?_
      refine x_iadd (dxX9_squaresSeen_2 20 rfl) ?_
      refine x_lshl (dxX9_squaresSeen_2 21 rfl) ?_
      refine x_lor (dxX9_squaresSeen_2 22 rfl) ?_
      refine x_topl (fun x25 e26 => ?_)
      replace h := h x25 e26
      refine x_lstore (dxX9_squaresSeen_2 23 rfl) (Nat.le_of_ble_eq_true rfl) rfl rfl ?_
      obtain ⟨x27, e28⟩ : ∃ y : Int32, y = l6 + 1 := ⟨_, rfl⟩
      replace h := h x27 e28
      refine x_iinc (v := x27) (dxX9_squaresSeen_2 24 rfl) (i := 6) rfl (by rw [e28]; rfl) (Nat.le_of_ble_eq_true rfl) rfl rfl ?_
      refine x_goto (tgt := 55) (dxX9_squaresSeen_2 25 rfl) (by decide) ?_
      refine x_mask [true, true, true, true, true, false, true, false, false] (L1 := [some (.ref 149), some (.int l1), some (.int l2), some (.int l3), some (.long x25), none, some (.int x27), none, none]) rfl ?_
      exact h
    · replace h := h.2 hc
      refine x_iload (dxX9_squaresSeen_2 10 rfl) rfl ?_
      refine x_bipush (v := 8) (dxX9_squaresSeen_2 11 rfl) rfl ?_
      refine x_imul (dxX9_squaresSeen_2 12 rfl) ?_
      refine x_iload (dxX9_squaresSeen_2 13 rfl) rfl ?_
      refine x_iadd (dxX9_squaresSeen_2 14 rfl) ?_
      refine x_goto (tgt := 149) (dxX9_squaresSeen_2 15 rfl) (by decide) ?_
      refine x_lshl (dxX9_squaresSeen_2 21 rfl) ?_
      refine x_lor (dxX9_squaresSeen_2 22 rfl) ?_
      refine x_topl (fun x29 e30 => ?_)
      replace h := h x29 e30
      refine x_lstore (dxX9_squaresSeen_2 23 rfl) (Nat.le_of_ble_eq_true rfl) rfl rfl ?_
      obtain ⟨x31, e32⟩ : ∃ y : Int32, y = l6 + 1 := ⟨_, rfl⟩
      replace h := h x31 e32
      refine x_iinc (v := x31) (dxX9_squaresSeen_2 24 rfl) (i := 6) rfl (by rw [e32]; rfl) (Nat.le_of_ble_eq_true rfl) rfl rfl ?_
      refine x_goto (tgt := 55) (dxX9_squaresSeen_2 25 rfl) (by decide) ?_
      refine x_mask [true, true, true, true, true, false, true, false, false] (L1 := [some (.ref 149), some (.int l1), some (.int l2), some (.int l3), some (.long x29), none, some (.int x31), none, none]) rfl ?_
      exact h
theorem vcX9_keepNet {g : GV} {d : Nat} {P : PS → Prop} {σ : PS} (hL : Lay σ) (p0 : Int64) (h : ∀ x1 : Int32, x1 = Int64.toInt32 (jlushr (p0 * (-7046029254386353131)) 55) → VX9_keepNet g d P 13 [some (.ref 149), some (.long p0), none, some (.int x1), some (.int 0)] [] σ) : CX9_keepNet g d [.ref 149, .long p0] σ P := by
  refine x_entry (L := [some (.ref 149), some (.long p0), none, none, none]) pn_9 (Nat.le_of_ble_eq_true rfl) ⟨2, rfl⟩ ?_
  show VX9_keepNet g d P 0 [some (.ref 149), some (.long p0), none, none, none] [] σ
  refine x_lload_n (i := 1) (dxX9_keepNet_0 0 rfl) rfl rfl ?_
  refine x_ldc2 (dxX9_keepNet_0 1 rfl) gw_1096 ?_
  refine x_lmul (dxX9_keepNet_0 2 rfl) ?_
  refine x_bipush (v := 55) (dxX9_keepNet_0 3 rfl) rfl ?_
  refine x_lushr (dxX9_keepNet_0 4 rfl) ?_
  refine x_l2i (dxX9_keepNet_0 5 rfl) ?_
  refine x_topi (fun x1 e2 => ?_)
  replace h := h x1 e2
  refine x_istore_n (i := 3) (dxX9_keepNet_0 6 rfl) rfl (Nat.le_of_ble_eq_true rfl) rfl rfl ?_
  refine x_iconst (v := 0) (dxX9_keepNet_0 7 rfl) rfl ?_
  refine x_istore (dxX9_keepNet_0 8 rfl) (Nat.le_of_ble_eq_true rfl) rfl rfl ?_
  exact h
theorem vcX9_keepNet_13 {g : GV} {d : Nat} {P : PS → Prop} {σ : PS} (hL : Lay σ) (l1 : Int64) (l3 : Int32) (l4 : Int32) (h : (512 ≤ l4 → P σ) ∧ (¬ 512 ≤ l4 → vp_in l3 512 ∧ ((lg_cmp (ml σ 166 (Int32.toNatClampNeg l3)) l1) = 0 → P σ) ∧ (¬ (lg_cmp (ml σ 166 (Int32.toNatClampNeg l3)) l1) = 0 → vp_in l3 512 ∧ (¬ (lg_cmp (ml σ 166 (Int32.toNatClampNeg l3)) 0) = 0 → ∀ x5 : Int32, x5 = jrem (l3 + 1) 512 → ∀ x7 : Int32, x7 = l4 + 1 → VX9_keepNet g d P 13 [some (.ref 149), some (.long l1), none, some (.int x5), some (.int x7)] [] σ) ∧ ((lg_cmp (ml σ 166 (Int32.toNatClampNeg l3)) 0) = 0 → vp_in l3 512 ∧ ∀ s10 : PS, s10 = sj σ 166 (Int32.toNatClampNeg l3) l1 → ∀ s12 : PS, s12 = si s10 149 4 ((mi s10 149 4) + 1) → ∀ x14 : Int32, x14 = l4 + 1 → VX9_keepNet g d P 13 [some (.ref 149), some (.long l1), none, some (.int l3), some (.int x14)] [] s12)))) : VX9_keepNet g d P 13 [some (.ref 149), some (.long l1), none, some (.int l3), some (.int l4)] [] σ := by
  refine x_iload (dxX9_keepNet_0 9 rfl) rfl ?_
  refine x_sipush (v := 512) (dxX9_keepNet_0 10 rfl) rfl ?_
  refine x_icmp_ge (tgt := 77) (dxX9_keepNet_0 11 rfl) (by decide) (fun hc => ?_) (fun hc => ?_)
  · replace h := h.1 hc
    exact x_vret rfl (dxX9_keepNet_1 14 rfl) ⟨rfl, h⟩
  · replace h := h.2 hc
    refine x_aload_n (i := 0) (dxX9_keepNet_0 12 rfl) rfl rfl ?_
    refine gf_9_39 (kd_149 hL) (rv_149_15 hL) (dxX9_keepNet_0 13 rfl) ?_
    refine x_iload_n (i := 3) (dxX9_keepNet_0 14 rfl) rfl rfl ?_
    obtain ⟨hi3, h⟩ := h
    refine x_lald (kd_166 hL) hi3 (dxX9_keepNet_0 15 rfl) ?_
    refine x_lload_n (i := 1) (dxX9_keepNet_0 16 rfl) rfl rfl ?_
    refine x_lcmp (dxX9_keepNet_0 17 rfl) ?_
    refine x_if_eq (tgt := 77) (dxX9_keepNet_0 18 rfl) (by decide) (fun hc => ?_) (fun hc => ?_)
    · replace h := h.1 hc
      exact x_vret rfl (dxX9_keepNet_1 14 rfl) ⟨rfl, h⟩
    · replace h := h.2 hc
      refine x_aload_n (i := 0) (dxX9_keepNet_0 19 rfl) rfl rfl ?_
      refine gf_9_39 (kd_149 hL) (rv_149_15 hL) (dxX9_keepNet_0 20 rfl) ?_
      refine x_iload_n (i := 3) (dxX9_keepNet_0 21 rfl) rfl rfl ?_
      obtain ⟨hi4, h⟩ := h
      refine x_lald (kd_166 hL) hi4 (dxX9_keepNet_0 22 rfl) ?_
      refine x_lconst (v := 0) (dxX9_keepNet_0 23 rfl) rfl ?_
      refine x_lcmp (dxX9_keepNet_0 24 rfl) ?_
      refine x_if_ne (tgt := 63) (dxX9_keepNet_0 25 rfl) (by decide) (fun hc => ?_) (fun hc => ?_)
      · replace h := h.1 hc
        refine x_iload_n (i := 3) (dxX9_keepNet_1 6 rfl) rfl rfl ?_
        refine x_iconst (v := 1) (dxX9_keepNet_1 7 rfl) rfl ?_
        refine x_iadd (dxX9_keepNet_1 8 rfl) ?_
        refine x_sipush (v := 512) (dxX9_keepNet_1 9 rfl) rfl ?_
        refine x_irem (dxX9_keepNet_1 10 rfl) (by decide) ?_
        refine x_topi (fun x5 e6 => ?_)
        replace h := h x5 e6
        refine x_istore_n (i := 3) (dxX9_keepNet_1 11 rfl) rfl (Nat.le_of_ble_eq_true rfl) rfl rfl ?_
        obtain ⟨x7, e8⟩ : ∃ y : Int32, y = l4 + 1 := ⟨_, rfl⟩
        replace h := h x7 e8
        refine x_iinc (v := x7) (dxX9_keepNet_1 12 rfl) (i := 4) rfl (by rw [e8]; rfl) (Nat.le_of_ble_eq_true rfl) rfl rfl ?_
        refine x_goto (tgt := 13) (dxX9_keepNet_1 13 rfl) (by decide) ?_
        exact h
      · replace h := h.2 hc
        refine x_aload_n (i := 0) (dxX9_keepNet_0 26 rfl) rfl rfl ?_
        refine gf_9_39 (kd_149 hL) (rv_149_15 hL) (dxX9_keepNet_0 27 rfl) ?_
        refine x_iload_n (i := 3) (dxX9_keepNet_0 28 rfl) rfl rfl ?_
        refine x_lload_n (i := 1) (dxX9_keepNet_0 29 rfl) rfl rfl ?_
        obtain ⟨hi9, h⟩ := h
        refine x_last (kd_166 hL) hi9 (dxX9_keepNet_0 30 rfl) ?_
        refine x_sto (fun s10 e11 => ?_)
        replace h := h s10 e11
        have hKs10 : kd s10 = kd σ := by rw [e11]; exact (rfl : kd σ = kd σ)
        have hLs10 : Lay s10 := by rw [e11]; exact hL.sj
        refine x_aload_n (i := 0) (dxX9_keepNet_0 31 rfl) rfl rfl ?_
        refine x_dup (dxX9_keepNet_1 0 rfl) rfl ?_
        refine gf_9_63 (kd_149 hLs10) rfl (dxX9_keepNet_1 1 rfl) ?_
        refine x_iconst (v := 1) (dxX9_keepNet_1 2 rfl) rfl ?_
        refine x_iadd (dxX9_keepNet_1 3 rfl) ?_
        refine pf_9_63 (kd_149 hLs10) (dxX9_keepNet_1 4 rfl) ?_
        refine x_sto (fun s12 e13 => ?_)
        replace h := h s12 e13
        have hKs12 : kd s12 = kd σ := by rw [e13]; exact hKs10
        have hLs12 : Lay s12 := by rw [e13]; exact hLs10.si
        refine x_goto (tgt := 71) (dxX9_keepNet_1 5 rfl) (by decide) ?_
        obtain ⟨x14, e15⟩ : ∃ y : Int32, y = l4 + 1 := ⟨_, rfl⟩
        replace h := h x14 e15
        refine x_iinc (v := x14) (dxX9_keepNet_1 12 rfl) (i := 4) rfl (by rw [e15]; rfl) (Nat.le_of_ble_eq_true rfl) rfl rfl ?_
        refine x_goto (tgt := 13) (dxX9_keepNet_1 13 rfl) (by decide) ?_
        exact h
