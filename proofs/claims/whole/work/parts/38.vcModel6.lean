theorem vcX12_mark_147 {g : GV} {d : Nat} {P : Int32 → PS → Prop} {σ : PS} (hL : Lay σ) (l1 : Int32) (l3 : Int32) (h : (10 ≤ l3 → VX12_mark g (d + 1) P 195 [some (.ref 179), some (.int l1), none, some (.int 0)] [] σ) ∧ (¬ 10 ≤ l3 → vp_in l3 10 ∧ vp_in ((10 * l1) + l3) 40 ∧ ∀ s26 : PS, s26 = si σ 231 (Int32.toNatClampNeg ((10 * l1) + l3)) (mi σ 201 (Int32.toNatClampNeg l3)) → vp_in l3 10 ∧ vp_in ((10 * l1) + l3) 40 ∧ ∀ s30 : PS, s30 = si s26 232 (Int32.toNatClampNeg ((10 * l1) + l3)) (mi s26 202 (Int32.toNatClampNeg l3)) → ∀ x32 : Int32, x32 = l3 + 1 → VX12_mark g (d + 1) P 147 [some (.ref 179), some (.int l1), none, some (.int x32)] [] s30)) : VX12_mark g (d + 1) P 147 [some (.ref 179), some (.int l1), none, some (.int l3)] [] σ := by
  refine x_iload_n (i := 3) (dxX12_mark_2 28 rfl) rfl rfl ?_
  refine x_bipush (v := 10) (dxX12_mark_2 29 rfl) rfl ?_
  refine x_icmp_ge (tgt := 193) (dxX12_mark_2 30 rfl) (by decide) (fun hc => ?_) (fun hc => ?_)
  · replace h := h.1 hc
    refine x_iconst (v := 0) (dxX12_mark_3 25 rfl) rfl ?_
    refine x_istore_n (i := 3) (dxX12_mark_3 26 rfl) rfl (Nat.le_of_ble_eq_true rfl) rfl rfl ?_
    exact h
  · replace h := h.2 hc
    refine x_aload_n (i := 0) (dxX12_mark_2 31 rfl) rfl rfl ?_
    refine gf_12_168 (kd_179 hL) (rv_179_82 hL) (dxX12_mark_3 0 rfl) ?_
    refine x_bipush (v := 10) (dxX12_mark_3 1 rfl) rfl ?_
    refine x_iload_n (i := 1) (dxX12_mark_3 2 rfl) rfl rfl ?_
    refine x_imul (dxX12_mark_3 3 rfl) ?_
    refine x_iload_n (i := 3) (dxX12_mark_3 4 rfl) rfl rfl ?_
    refine x_iadd (dxX12_mark_3 5 rfl) ?_
    refine x_aload_n (i := 0) (dxX12_mark_3 6 rfl) rfl rfl ?_
    refine gf_12_75 (kd_179 hL) (rv_179_36 hL) (dxX12_mark_3 7 rfl) ?_
    refine x_iload_n (i := 3) (dxX12_mark_3 8 rfl) rfl rfl ?_
    obtain ⟨hi24, h⟩ := h
    refine x_iald (kd_201 hL) hi24 (dxX12_mark_3 9 rfl) ?_
    obtain ⟨hi25, h⟩ := h
    refine x_iast (kd_231 hL) hi25 (dxX12_mark_3 10 rfl) ?_
    refine x_sto (fun s26 e27 => ?_)
    replace h := h s26 e27
    have hKs26 : kd s26 = kd σ := by rw [e27]; exact (rfl : kd σ = kd σ)
    have hLs26 : Lay s26 := by rw [e27]; exact hL.si
    refine x_aload_n (i := 0) (dxX12_mark_3 11 rfl) rfl rfl ?_
    refine gf_12_171 (kd_179 hLs26) (rv_179_83 hLs26) (dxX12_mark_3 12 rfl) ?_
    refine x_bipush (v := 10) (dxX12_mark_3 13 rfl) rfl ?_
    refine x_iload_n (i := 1) (dxX12_mark_3 14 rfl) rfl rfl ?_
    refine x_imul (dxX12_mark_3 15 rfl) ?_
    refine x_iload_n (i := 3) (dxX12_mark_3 16 rfl) rfl rfl ?_
    refine x_iadd (dxX12_mark_3 17 rfl) ?_
    refine x_aload_n (i := 0) (dxX12_mark_3 18 rfl) rfl rfl ?_
    refine gf_12_78 (kd_179 hLs26) (rv_179_37 hLs26) (dxX12_mark_3 19 rfl) ?_
    refine x_iload_n (i := 3) (dxX12_mark_3 20 rfl) rfl rfl ?_
    obtain ⟨hi28, h⟩ := h
    refine x_iald (kd_202 hLs26) hi28 (dxX12_mark_3 21 rfl) ?_
    obtain ⟨hi29, h⟩ := h
    refine x_iast (kd_232 hLs26) hi29 (dxX12_mark_3 22 rfl) ?_
    refine x_sto (fun s30 e31 => ?_)
    replace h := h s30 e31
    have hKs30 : kd s30 = kd σ := by rw [e31]; exact hKs26
    have hLs30 : Lay s30 := by rw [e31]; exact hLs26.si
    obtain ⟨x32, e33⟩ : ∃ y : Int32, y = l3 + 1 := ⟨_, rfl⟩
    replace h := h x32 e33
    refine x_iinc (v := x32) (dxX12_mark_3 23 rfl) (i := 3) rfl (by rw [e33]; rfl) (Nat.le_of_ble_eq_true rfl) rfl rfl ?_
    refine x_goto (tgt := 147) (dxX12_mark_3 24 rfl) (by decide) ?_
    exact h
theorem vcX12_mark_52 {g : GV} {d : Nat} {P : Int32 → PS → Prop} {σ : PS} (hL : Lay σ) (l1 : Int32) (l3 : Int32) (h : (10 ≤ l3 → CX12_shapes g d [.ref 179] σ (fun (s34 : PS) => Fr σ s34 ∧ VX12_mark g (d + 1) P 104 [some (.ref 179), some (.int l1), none, some (.int 0)] [] s34)) ∧ (¬ 10 ≤ l3 → vp_in ((10 * l1) + l3) 40 ∧ vp_in l3 10 ∧ ∀ s38 : PS, s38 = si σ 201 (Int32.toNatClampNeg l3) (mi σ 231 (Int32.toNatClampNeg ((10 * l1) + l3))) → vp_in ((10 * l1) + l3) 40 ∧ vp_in l3 10 ∧ ∀ s42 : PS, s42 = si s38 202 (Int32.toNatClampNeg l3) (mi s38 232 (Int32.toNatClampNeg ((10 * l1) + l3))) → ∀ x44 : Int32, x44 = l3 + 1 → VX12_mark g (d + 1) P 52 [some (.ref 179), some (.int l1), none, some (.int x44)] [] s42)) : VX12_mark g (d + 1) P 52 [some (.ref 179), some (.int l1), none, some (.int l3)] [] σ := by
  refine x_iload_n (i := 3) (dxX12_mark_1 0 rfl) rfl rfl ?_
  refine x_bipush (v := 10) (dxX12_mark_1 1 rfl) rfl ?_
  refine x_icmp_ge (tgt := 98) (dxX12_mark_1 2 rfl) (by decide) (fun hc => ?_) (fun hc => ?_)
  · replace h := h.1 hc
    refine x_aload_n (i := 0) (dxX12_mark_1 29 rfl) rfl rfl ?_
    refine cl_12_181 (kd_179 hL) (Nat.le_of_ble_eq_true rfl) (dxX12_mark_1 30 rfl) h (fun s34 h => ?_) (Nat.le_refl _) (Nat.le_refl _)
    obtain ⟨hFs34, h⟩ := h
    have hKs34 : kd s34 = kd σ := hFs34.1.trans (rfl : kd σ = kd σ)
    have hLs34 : Lay s34 := hL.fr hFs34
    refine x_iconst (v := 0) (dxX12_mark_1 31 rfl) rfl ?_
    refine x_istore_n (i := 3) (dxX12_mark_2 0 rfl) rfl (Nat.le_of_ble_eq_true rfl) rfl rfl ?_
    exact h
  · replace h := h.2 hc
    refine x_aload_n (i := 0) (dxX12_mark_1 3 rfl) rfl rfl ?_
    refine gf_12_75 (kd_179 hL) (rv_179_36 hL) (dxX12_mark_1 4 rfl) ?_
    refine x_iload_n (i := 3) (dxX12_mark_1 5 rfl) rfl rfl ?_
    refine x_aload_n (i := 0) (dxX12_mark_1 6 rfl) rfl rfl ?_
    refine gf_12_168 (kd_179 hL) (rv_179_82 hL) (dxX12_mark_1 7 rfl) ?_
    refine x_bipush (v := 10) (dxX12_mark_1 8 rfl) rfl ?_
    refine x_iload_n (i := 1) (dxX12_mark_1 9 rfl) rfl rfl ?_
    refine x_imul (dxX12_mark_1 10 rfl) ?_
    refine x_iload_n (i := 3) (dxX12_mark_1 11 rfl) rfl rfl ?_
    refine x_iadd (dxX12_mark_1 12 rfl) ?_
    obtain ⟨hi36, h⟩ := h
    refine x_iald (kd_231 hL) hi36 (dxX12_mark_1 13 rfl) ?_
    obtain ⟨hi37, h⟩ := h
    refine x_iast (kd_201 hL) hi37 (dxX12_mark_1 14 rfl) ?_
    refine x_sto (fun s38 e39 => ?_)
    replace h := h s38 e39
    have hKs38 : kd s38 = kd σ := by rw [e39]; exact (rfl : kd σ = kd σ)
    have hLs38 : Lay s38 := by rw [e39]; exact hL.si
    refine x_aload_n (i := 0) (dxX12_mark_1 15 rfl) rfl rfl ?_
    refine gf_12_78 (kd_179 hLs38) (rv_179_37 hLs38) (dxX12_mark_1 16 rfl) ?_
    refine x_iload_n (i := 3) (dxX12_mark_1 17 rfl) rfl rfl ?_
    refine x_aload_n (i := 0) (dxX12_mark_1 18 rfl) rfl rfl ?_
    refine gf_12_171 (kd_179 hLs38) (rv_179_83 hLs38) (dxX12_mark_1 19 rfl) ?_
    refine x_bipush (v := 10) (dxX12_mark_1 20 rfl) rfl ?_
    refine x_iload_n (i := 1) (dxX12_mark_1 21 rfl) rfl rfl ?_
    refine x_imul (dxX12_mark_1 22 rfl) ?_
    refine x_iload_n (i := 3) (dxX12_mark_1 23 rfl) rfl rfl ?_
    refine x_iadd (dxX12_mark_1 24 rfl) ?_
    obtain ⟨hi40, h⟩ := h
    refine x_iald (kd_232 hLs38) hi40 (dxX12_mark_1 25 rfl) ?_
    obtain ⟨hi41, h⟩ := h
    refine x_iast (kd_202 hLs38) hi41 (dxX12_mark_1 26 rfl) ?_
    refine x_sto (fun s42 e43 => ?_)
    replace h := h s42 e43
    have hKs42 : kd s42 = kd σ := by rw [e43]; exact hKs38
    have hLs42 : Lay s42 := by rw [e43]; exact hLs38.si
    obtain ⟨x44, e45⟩ : ∃ y : Int32, y = l3 + 1 := ⟨_, rfl⟩
    replace h := h x44 e45
    refine x_iinc (v := x44) (dxX12_mark_1 27 rfl) (i := 3) rfl (by rw [e45]; rfl) (Nat.le_of_ble_eq_true rfl) rfl rfl ?_
    refine x_goto (tgt := 52) (dxX12_mark_1 28 rfl) (by decide) ?_
    exact h
theorem vcX12_mark_195 {g : GV} {d : Nat} {P : Int32 → PS → Prop} {σ : PS} (hL : Lay σ) (l1 : Int32) (l3 : Int32) (h : (24 ≤ l3 → P 1 σ) ∧ (¬ 24 ≤ l3 → vp_in l3 24 ∧ vp_in ((24 * l1) + l3) 96 ∧ ∀ s48 : PS, s48 = si σ 233 (Int32.toNatClampNeg ((24 * l1) + l3)) (mi σ 209 (Int32.toNatClampNeg l3)) → ∀ x50 : Int32, x50 = l3 + 1 → VX12_mark g (d + 1) P 195 [some (.ref 179), some (.int l1), none, some (.int x50)] [] s48)) : VX12_mark g (d + 1) P 195 [some (.ref 179), some (.int l1), none, some (.int l3)] [] σ := by
  refine x_iload_n (i := 3) (dxX12_mark_3 27 rfl) rfl rfl ?_
  refine x_bipush (v := 24) (dxX12_mark_3 28 rfl) rfl ?_
  refine x_icmp_ge (tgt := 224) (dxX12_mark_3 29 rfl) (by decide) (fun hc => ?_) (fun hc => ?_)
  · replace h := h.1 hc
    refine x_iconst (v := 1) (dxX12_mark_4 12 rfl) rfl ?_
    exact x_iret (ty := .boolean) rfl rfl (dxX12_mark_4 13 rfl) ⟨_, rfl, h⟩
  · replace h := h.2 hc
    refine x_aload_n (i := 0) (dxX12_mark_3 30 rfl) rfl rfl ?_
    refine gf_12_174 (kd_179 hL) (rv_179_84 hL) (dxX12_mark_3 31 rfl) ?_
    refine x_bipush (v := 24) (dxX12_mark_4 0 rfl) rfl ?_
    refine x_iload_n (i := 1) (dxX12_mark_4 1 rfl) rfl rfl ?_
    refine x_imul (dxX12_mark_4 2 rfl) ?_
    refine x_iload_n (i := 3) (dxX12_mark_4 3 rfl) rfl rfl ?_
    refine x_iadd (dxX12_mark_4 4 rfl) ?_
    refine x_aload_n (i := 0) (dxX12_mark_4 5 rfl) rfl rfl ?_
    refine gf_12_99 (kd_179 hL) (rv_179_45 hL) (dxX12_mark_4 6 rfl) ?_
    refine x_iload_n (i := 3) (dxX12_mark_4 7 rfl) rfl rfl ?_
    obtain ⟨hi46, h⟩ := h
    refine x_iald (kd_209 hL) hi46 (dxX12_mark_4 8 rfl) ?_
    obtain ⟨hi47, h⟩ := h
    refine x_iast (kd_233 hL) hi47 (dxX12_mark_4 9 rfl) ?_
    refine x_sto (fun s48 e49 => ?_)
    replace h := h s48 e49
    have hKs48 : kd s48 = kd σ := by rw [e49]; exact (rfl : kd σ = kd σ)
    have hLs48 : Lay s48 := by rw [e49]; exact hL.si
    obtain ⟨x50, e51⟩ : ∃ y : Int32, y = l3 + 1 := ⟨_, rfl⟩
    replace h := h x50 e51
    refine x_iinc (v := x50) (dxX12_mark_4 10 rfl) (i := 3) rfl (by rw [e51]; rfl) (Nat.le_of_ble_eq_true rfl) rfl rfl ?_
    refine x_goto (tgt := 195) (dxX12_mark_4 11 rfl) (by decide) ?_
    exact h
theorem vcX12_mark_104 {g : GV} {d : Nat} {P : Int32 → PS → Prop} {σ : PS} (hL : Lay σ) (l1 : Int32) (l3 : Int32) (h : (24 ≤ l3 → P 1 σ) ∧ (¬ 24 ≤ l3 → vp_in ((24 * l1) + l3) 96 ∧ vp_in l3 24 ∧ ∀ s54 : PS, s54 = si σ 209 (Int32.toNatClampNeg l3) (mi σ 233 (Int32.toNatClampNeg ((24 * l1) + l3))) → ∀ x56 : Int32, x56 = l3 + 1 → VX12_mark g (d + 1) P 104 [some (.ref 179), some (.int l1), none, some (.int x56)] [] s54)) : VX12_mark g (d + 1) P 104 [some (.ref 179), some (.int l1), none, some (.int l3)] [] σ := by
  refine x_iload_n (i := 3) (dxX12_mark_2 1 rfl) rfl rfl ?_
  refine x_bipush (v := 24) (dxX12_mark_2 2 rfl) rfl ?_
  refine x_icmp_ge (tgt := 133) (dxX12_mark_2 3 rfl) (by decide) (fun hc => ?_) (fun hc => ?_)
  · replace h := h.1 hc
    refine x_iconst (v := 1) (dxX12_mark_2 18 rfl) rfl ?_
    exact x_iret (ty := .boolean) rfl rfl (dxX12_mark_2 19 rfl) ⟨_, rfl, h⟩
  · replace h := h.2 hc
    refine x_aload_n (i := 0) (dxX12_mark_2 4 rfl) rfl rfl ?_
    refine gf_12_99 (kd_179 hL) (rv_179_45 hL) (dxX12_mark_2 5 rfl) ?_
    refine x_iload_n (i := 3) (dxX12_mark_2 6 rfl) rfl rfl ?_
    refine x_aload_n (i := 0) (dxX12_mark_2 7 rfl) rfl rfl ?_
    refine gf_12_174 (kd_179 hL) (rv_179_84 hL) (dxX12_mark_2 8 rfl) ?_
    refine x_bipush (v := 24) (dxX12_mark_2 9 rfl) rfl ?_
    refine x_iload_n (i := 1) (dxX12_mark_2 10 rfl) rfl rfl ?_
    refine x_imul (dxX12_mark_2 11 rfl) ?_
    refine x_iload_n (i := 3) (dxX12_mark_2 12 rfl) rfl rfl ?_
    refine x_iadd (dxX12_mark_2 13 rfl) ?_
    obtain ⟨hi52, h⟩ := h
    refine x_iald (kd_233 hL) hi52 (dxX12_mark_2 14 rfl) ?_
    obtain ⟨hi53, h⟩ := h
    refine x_iast (kd_209 hL) hi53 (dxX12_mark_2 15 rfl) ?_
    refine x_sto (fun s54 e55 => ?_)
    replace h := h s54 e55
    have hKs54 : kd s54 = kd σ := by rw [e55]; exact (rfl : kd σ = kd σ)
    have hLs54 : Lay s54 := by rw [e55]; exact hL.si
    obtain ⟨x56, e57⟩ : ∃ y : Int32, y = l3 + 1 := ⟨_, rfl⟩
    replace h := h x56 e57
    refine x_iinc (v := x56) (dxX12_mark_2 16 rfl) (i := 3) rfl (by rw [e57]; rfl) (Nat.le_of_ble_eq_true rfl) rfl rfl ?_
    refine x_goto (tgt := 104) (dxX12_mark_2 17 rfl) (by decide) ?_
    exact h
theorem vcX12_count {g : GV} {d : Nat} {P : Int32 → PS → Prop} {σ : PS} (hL : Lay σ) (p0 : Int32) (h : ∀ s1 : PS, s1 = si σ 179 0 0 → CX12_within g d [.int p0, .int 0, .int 6] s1 (fun (v4 : Int32) (s3 : PS) => Fr s1 s3 ∧ (¬ v4 = 0 → (¬ p0 = 0 → (¬ p0 = 1 → (¬ p0 = 2 → (¬ p0 = 3 → (¬ p0 = 4 → (¬ p0 = 5 → P (mi s3 179 1) s3) ∧ (p0 = 5 → CX12_isBody g d [.ref 179] s3 (fun (v6 : Int32) (s5 : PS) => Fr s3 s5 ∧ (v6 = 0 → P 0 s5) ∧ (¬ v6 = 0 → P 1 s5)))) ∧ (p0 = 4 → P (mi s3 179 52) s3)) ∧ (p0 = 3 → P (mi s3 179 51) s3)) ∧ (p0 = 2 → CX12_pairsNow g d [.ref 179] s3 (fun (v8 : Int32) (s7 : PS) => Fr s3 s7 ∧ P v8 s7))) ∧ (p0 = 1 → P (mi s3 179 38) s3)) ∧ (p0 = 0 → P (mi s3 179 35) s3)) ∧ (v4 = 0 → P (-1) s3))) : CX12_count g (d + 1) [.ref 179, .int p0] σ P := by
  refine x_entry (L := [some (.ref 179), some (.int p0)]) pn_12 (Nat.le_of_ble_eq_true rfl) ⟨0, rfl⟩ ?_
  show VX12_count g (d + 1) P 0 [some (.ref 179), some (.int p0)] [] σ
  refine x_aload_n (i := 0) (dxX12_count_0 0 rfl) rfl rfl ?_
  refine x_iconst (v := 0) (dxX12_count_0 1 rfl) rfl ?_
  refine pf_12_184 (kd_179 hL) (dxX12_count_0 2 rfl) ?_
  refine x_sto (fun s1 e2 => ?_)
  replace h := h s1 e2
  have hKs1 : kd s1 = kd σ := by rw [e2]; exact (rfl : kd σ = kd σ)
  have hLs1 : Lay s1 := by rw [e2]; exact hL.si
  refine x_iload_n (i := 1) (dxX12_count_0 3 rfl) rfl rfl ?_
  refine x_iconst (v := 0) (dxX12_count_0 4 rfl) rfl ?_
  refine x_bipush (v := 6) (dxX12_count_0 5 rfl) rfl ?_
  refine cl_12_307 (Nat.le_of_ble_eq_true rfl) (dxX12_count_0 6 rfl) h (fun v4 s3 h => ?_) (Nat.le_refl _) (Nat.le_refl _)
  obtain ⟨hFs3, h⟩ := h
  have hKs3 : kd s3 = kd σ := hFs3.1.trans hKs1
  have hLs3 : Lay s3 := hLs1.fr hFs3
  refine x_if_ne (tgt := 17) (dxX12_count_0 7 rfl) (by decide) (fun hc => ?_) (fun hc => ?_)
  · replace h := h.1 hc
    refine x_iload_n (i := 1) (dxX12_count_0 10 rfl) rfl rfl ?_
    refine x_if_ne (tgt := 28) (dxX12_count_0 11 rfl) (by decide) (fun hc => ?_) (fun hc => ?_)
    · replace h := h.1 hc
      refine x_iload_n (i := 1) (dxX12_count_0 15 rfl) rfl rfl ?_
      refine x_iconst (v := 1) (dxX12_count_0 16 rfl) rfl ?_
      refine x_icmp_ne (tgt := 40) (dxX12_count_0 17 rfl) (by decide) (fun hc => ?_) (fun hc => ?_)
      · replace h := h.1 hc
        refine x_iload_n (i := 1) (dxX12_count_0 21 rfl) rfl rfl ?_
        refine x_iconst (v := 2) (dxX12_count_0 22 rfl) rfl ?_
        refine x_icmp_ne (tgt := 52) (dxX12_count_0 23 rfl) (by decide) (fun hc => ?_) (fun hc => ?_)
        · replace h := h.1 hc
          refine x_iload_n (i := 1) (dxX12_count_0 27 rfl) rfl rfl ?_
          refine x_iconst (v := 3) (dxX12_count_0 28 rfl) rfl ?_
          refine x_icmp_ne (tgt := 64) (dxX12_count_0 29 rfl) (by decide) (fun hc => ?_) (fun hc => ?_)
          · replace h := h.1 hc
            refine x_iload_n (i := 1) (dxX12_count_1 1 rfl) rfl rfl ?_
            refine x_iconst (v := 4) (dxX12_count_1 2 rfl) rfl ?_
            refine x_icmp_ne (tgt := 76) (dxX12_count_1 3 rfl) (by decide) (fun hc => ?_) (fun hc => ?_)
            · replace h := h.1 hc
              refine x_iload_n (i := 1) (dxX12_count_1 7 rfl) rfl rfl ?_
              refine x_iconst (v := 5) (dxX12_count_1 8 rfl) rfl ?_
              refine x_icmp_ne (tgt := 96) (dxX12_count_1 9 rfl) (by decide) (fun hc => ?_) (fun hc => ?_)
              · replace h := h.1 hc
                refine x_aload_n (i := 0) (dxX12_count_1 17 rfl) rfl rfl ?_
                refine gf_12_189 (kd_179 hLs3) rfl (dxX12_count_1 18 rfl) ?_
                exact x_iret (ty := .int) rfl rfl (dxX12_count_1 19 rfl) ⟨_, rfl, h⟩
              · replace h := h.2 hc
                refine x_aload_n (i := 0) (dxX12_count_1 10 rfl) rfl rfl ?_
                refine cl_12_420 (kd_179 hLs3) (Nat.le_of_ble_eq_true rfl) (dxX12_count_1 11 rfl) h (fun v6 s5 h => ?_) (Nat.le_refl _) (Nat.le_refl _)
                obtain ⟨hFs5, h⟩ := h
                have hKs5 : kd s5 = kd σ := hFs5.1.trans hKs3
                have hLs5 : Lay s5 := hLs3.fr hFs5
                refine x_if_eq (tgt := 92) (dxX12_count_1 12 rfl) (by decide) (fun hc => ?_) (fun hc => ?_)
                · replace h := h.1 hc
                  refine x_iconst (v := 0) (dxX12_count_1 15 rfl) rfl ?_
                  refine x_goto (tgt := 100) (dxX12_count_1 16 rfl) (by decide) ?_
                  exact x_iret (ty := .int) rfl rfl (dxX12_count_1 19 rfl) ⟨_, rfl, h⟩
                · replace h := h.2 hc
                  refine x_iconst (v := 1) (dxX12_count_1 13 rfl) rfl ?_
                  refine x_goto (tgt := 100) (dxX12_count_1 14 rfl) (by decide) ?_
                  exact x_iret (ty := .int) rfl rfl (dxX12_count_1 19 rfl) ⟨_, rfl, h⟩
            · replace h := h.2 hc
              refine x_aload_n (i := 0) (dxX12_count_1 4 rfl) rfl rfl ?_
              refine gf_12_345 (kd_179 hLs3) rfl (dxX12_count_1 5 rfl) ?_
              refine x_goto (tgt := 100) (dxX12_count_1 6 rfl) (by decide) ?_
              exact x_iret (ty := .int) rfl rfl (dxX12_count_1 19 rfl) ⟨_, rfl, h⟩
          · replace h := h.2 hc
            refine x_aload_n (i := 0) (dxX12_count_0 30 rfl) rfl rfl ?_
            refine gf_12_342 (kd_179 hLs3) rfl (dxX12_count_0 31 rfl) ?_
            refine x_goto (tgt := 100) (dxX12_count_1 0 rfl) (by decide) ?_
            exact x_iret (ty := .int) rfl rfl (dxX12_count_1 19 rfl) ⟨_, rfl, h⟩
        · replace h := h.2 hc
          refine x_aload_n (i := 0) (dxX12_count_0 24 rfl) rfl rfl ?_
          refine cl_12_417 (kd_179 hLs3) (Nat.le_of_ble_eq_true rfl) (dxX12_count_0 25 rfl) h (fun v8 s7 h => ?_) (Nat.le_refl _) (Nat.le_refl _)
          obtain ⟨hFs7, h⟩ := h
          have hKs7 : kd s7 = kd σ := hFs7.1.trans hKs3
          have hLs7 : Lay s7 := hLs3.fr hFs7
          refine x_goto (tgt := 100) (dxX12_count_0 26 rfl) (by decide) ?_
          exact x_iret (ty := .int) rfl rfl (dxX12_count_1 19 rfl) ⟨_, rfl, h⟩
      · replace h := h.2 hc
        refine x_aload_n (i := 0) (dxX12_count_0 18 rfl) rfl rfl ?_
        refine gf_12_332 (kd_179 hLs3) rfl (dxX12_count_0 19 rfl) ?_
        refine x_goto (tgt := 100) (dxX12_count_0 20 rfl) (by decide) ?_
        exact x_iret (ty := .int) rfl rfl (dxX12_count_1 19 rfl) ⟨_, rfl, h⟩
    · replace h := h.2 hc
      refine x_aload_n (i := 0) (dxX12_count_0 12 rfl) rfl rfl ?_
      refine gf_12_177 (kd_179 hLs3) rfl (dxX12_count_0 13 rfl) ?_
      refine x_goto (tgt := 100) (dxX12_count_0 14 rfl) (by decide) ?_
      exact x_iret (ty := .int) rfl rfl (dxX12_count_1 19 rfl) ⟨_, rfl, h⟩
  · replace h := h.2 hc
    refine x_iconst (v := (-1)) (dxX12_count_0 8 rfl) rfl ?_
    exact x_iret (ty := .int) rfl rfl (dxX12_count_0 9 rfl) ⟨_, rfl, h⟩
