theorem vcX11_feed {g : GV} {d : Nat} {P : Int32 → PS → Prop} {σ : PS} (hL : Lay σ) (p0 : Int64) (p1 : Int64) (p2 : Int64) (h : CX8_put g d [.ref 11, .long p0] σ (fun (s1 : PS) => Fr σ s1 ∧ CX8_put g d [.ref 11, .long p1] s1 (fun (s3 : PS) => Fr s1 s3 ∧ CX8_put g d [.ref 11, .long p2] s3 (fun (s5 : PS) => Fr s3 s5 ∧ P (mi s5 11 1) s5)))) : CX11_feed g (d + 1) [.ref 10, .long p0, .long p1, .long p2] σ P := by
  refine x_entry (L := [some (.ref 10), some (.long p0), none, some (.long p1), none, some (.long p2), none]) pn_11 (Nat.le_of_ble_eq_true rfl) ⟨0, rfl⟩ ?_
  show VX11_feed g (d + 1) P 0 [some (.ref 10), some (.long p0), none, some (.long p1), none, some (.long p2), none] [] σ
  refine x_aload_n (i := 0) (dxX11_feed_0 0 rfl) rfl rfl ?_
  refine gf_11_10 (kd_10 hL) (rv_10_0 hL) (dxX11_feed_0 1 rfl) ?_
  refine x_lload_n (i := 1) (dxX11_feed_0 2 rfl) rfl rfl ?_
  refine cl_11_106 (kd_11 hL) (Nat.le_of_ble_eq_true rfl) (dxX11_feed_0 3 rfl) h (fun s1 h => ?_) (Nat.le_refl _) (Nat.le_refl _)
  obtain ⟨hFs1, h⟩ := h
  have hKs1 : kd s1 = kd σ := hFs1.1.trans (rfl : kd σ = kd σ)
  have hLs1 : Lay s1 := hL.fr hFs1
  refine x_aload_n (i := 0) (dxX11_feed_0 4 rfl) rfl rfl ?_
  refine gf_11_10 (kd_10 hLs1) (rv_10_0 hLs1) (dxX11_feed_0 5 rfl) ?_
  refine x_lload_n (i := 3) (dxX11_feed_0 6 rfl) rfl rfl ?_
  refine cl_11_106 (kd_11 hLs1) (Nat.le_of_ble_eq_true rfl) (dxX11_feed_0 7 rfl) h (fun s3 h => ?_) (Nat.le_refl _) (Nat.le_refl _)
  obtain ⟨hFs3, h⟩ := h
  have hKs3 : kd s3 = kd σ := hFs3.1.trans hKs1
  have hLs3 : Lay s3 := hLs1.fr hFs3
  refine x_aload_n (i := 0) (dxX11_feed_0 8 rfl) rfl rfl ?_
  refine gf_11_10 (kd_10 hLs3) (rv_10_0 hLs3) (dxX11_feed_0 9 rfl) ?_
  refine x_lload (dxX11_feed_0 10 rfl) rfl ?_
  refine cl_11_106 (kd_11 hLs3) (Nat.le_of_ble_eq_true rfl) (dxX11_feed_0 11 rfl) h (fun s5 h => ?_) (Nat.le_refl _) (Nat.le_refl _)
  obtain ⟨hFs5, h⟩ := h
  have hKs5 : kd s5 = kd σ := hFs5.1.trans hKs3
  have hLs5 : Lay s5 := hLs3.fr hFs5
  refine x_aload_n (i := 0) (dxX11_feed_0 12 rfl) rfl rfl ?_
  refine gf_11_10 (kd_10 hLs5) (rv_10_0 hLs5) (dxX11_feed_0 13 rfl) ?_
  refine gf_11_110 (kd_11 hLs5) rfl (dxX11_feed_0 14 rfl) ?_
  exact x_iret (ty := .int) rfl rfl (dxX11_feed_0 15 rfl) ⟨_, rfl, h⟩
theorem vcX11_figure {g : GV} {d : Nat} {P : Int32 → PS → Prop} {σ : PS} (hL : Lay σ)  (h : ∀ x1 : Int32, x1 = mi σ 11 1 → CX7_read g d [.ref 16, .ref 11] σ (fun (v4 : Int32) (s3 : PS) => FrL σ s3 ∧ ∀ s5 : PS, s5 = si s3 11 1 0 → (v4 = 0 → CX4_lay g d [.ref 29, .ref 17] s5 (fun (v8 : Int32) (s7 : PS) => Fr s5 s7 ∧ (v8 = 0 → CX11_takeFigure g d [.ref 10, .ref 17] s7 (fun (s9 : PS) => Fr s7 s9 ∧ P 0 s9)) ∧ (¬ v8 = 0 → P (v8 + (16 * x1)) s7))) ∧ (¬ v4 = 0 → P v4 s5))) : CX11_figure g (d + 1) [.ref 10] σ P := by
  refine x_entry (L := [some (.ref 10), none, none, none]) pn_11 (Nat.le_of_ble_eq_true rfl) ⟨3, rfl⟩ ?_
  show VX11_figure g (d + 1) P 0 [some (.ref 10), none, none, none] [] σ
  refine x_aload_n (i := 0) (dxX11_figure_0 0 rfl) rfl rfl ?_
  refine gf_11_10 (kd_10 hL) (rv_10_0 hL) (dxX11_figure_0 1 rfl) ?_
  refine gf_11_110 (kd_11 hL) rfl (dxX11_figure_0 2 rfl) ?_
  refine x_topi (fun x1 e2 => ?_)
  replace h := h x1 e2
  refine x_istore_n (i := 1) (dxX11_figure_0 3 rfl) rfl (Nat.le_of_ble_eq_true rfl) rfl rfl ?_
  refine x_aload_n (i := 0) (dxX11_figure_0 4 rfl) rfl rfl ?_
  refine gf_11_19 (kd_10 hL) (rv_10_1 hL) (dxX11_figure_0 5 rfl) ?_
  refine x_aload_n (i := 0) (dxX11_figure_0 6 rfl) rfl rfl ?_
  refine gf_11_10 (kd_10 hL) (rv_10_0 hL) (dxX11_figure_0 7 rfl) ?_
  refine cl_11_114 (kd_16 hL) (Nat.le_of_ble_eq_true rfl) (dxX11_figure_0 8 rfl) h (fun v4 s3 h => ?_) (Nat.le_refl _) (Nat.le_refl _)
  obtain ⟨hFs3, h⟩ := h
  have hKs3 : kd s3 = kd σ := hFs3.1.trans (rfl : kd σ = kd σ)
  have hLs3 : Lay s3 := hFs3.2
  refine x_istore_n (i := 2) (dxX11_figure_0 9 rfl) rfl (Nat.le_of_ble_eq_true rfl) rfl rfl ?_
  refine x_aload_n (i := 0) (dxX11_figure_0 10 rfl) rfl rfl ?_
  refine gf_11_10 (kd_10 hLs3) (rv_10_0 hLs3) (dxX11_figure_0 11 rfl) ?_
  refine x_iconst (v := 0) (dxX11_figure_0 12 rfl) rfl ?_
  refine pf_11_110 (kd_11 hLs3) (dxX11_figure_0 13 rfl) ?_
  refine x_sto (fun s5 e6 => ?_)
  replace h := h s5 e6
  have hKs5 : kd s5 = kd σ := by rw [e6]; exact hKs3
  have hLs5 : Lay s5 := by rw [e6]; exact hLs3.si
  refine x_iload_n (i := 2) (dxX11_figure_0 14 rfl) rfl rfl ?_
  refine x_if_eq (tgt := 34) (dxX11_figure_0 15 rfl) (by decide) (fun hc => ?_) (fun hc => ?_)
  · replace h := h.1 hc
    refine x_aload_n (i := 0) (dxX11_figure_0 18 rfl) rfl rfl ?_
    refine gf_11_30 (kd_10 hLs5) (rv_10_3 hLs5) (dxX11_figure_0 19 rfl) ?_
    refine x_aload_n (i := 0) (dxX11_figure_0 20 rfl) rfl rfl ?_
    refine gf_11_19 (kd_10 hLs5) (rv_10_1 hLs5) (dxX11_figure_0 21 rfl) ?_
    refine gf_11_98 (kd_16 hLs5) (rv_16_0 hLs5) (dxX11_figure_0 22 rfl) ?_
    refine cl_11_118 (kd_29 hLs5) (Nat.le_of_ble_eq_true rfl) (dxX11_figure_0 23 rfl) h (fun v8 s7 h => ?_) (Nat.le_refl _) (Nat.le_refl _)
    obtain ⟨hFs7, h⟩ := h
    have hKs7 : kd s7 = kd σ := hFs7.1.trans hKs5
    have hLs7 : Lay s7 := hLs5.fr hFs7
    refine x_istore_n (i := 3) (dxX11_figure_0 24 rfl) rfl (Nat.le_of_ble_eq_true rfl) rfl rfl ?_
    refine x_iload_n (i := 3) (dxX11_figure_0 25 rfl) rfl rfl ?_
    refine x_if_eq (tgt := 60) (dxX11_figure_0 26 rfl) (by decide) (fun hc => ?_) (fun hc => ?_)
    · replace h := h.1 hc
      refine x_aload_n (i := 0) (dxX11_figure_1 1 rfl) rfl rfl ?_
      refine x_aload_n (i := 0) (dxX11_figure_1 2 rfl) rfl rfl ?_
      refine gf_11_19 (kd_10 hLs7) (rv_10_1 hLs7) (dxX11_figure_1 3 rfl) ?_
      refine gf_11_98 (kd_16 hLs7) (rv_16_0 hLs7) (dxX11_figure_1 4 rfl) ?_
      refine cl_11_102 (kd_10 hLs7) (Nat.le_of_ble_eq_true rfl) (dxX11_figure_1 5 rfl) h (fun s9 h => ?_) (Nat.le_refl _) (Nat.le_refl _)
      obtain ⟨hFs9, h⟩ := h
      have hKs9 : kd s9 = kd σ := hFs9.1.trans hKs7
      have hLs9 : Lay s9 := hLs7.fr hFs9
      refine x_iconst (v := 0) (dxX11_figure_1 6 rfl) rfl ?_
      exact x_iret (ty := .int) rfl rfl (dxX11_figure_1 7 rfl) ⟨_, rfl, h⟩
    · replace h := h.2 hc
      refine x_iload_n (i := 3) (dxX11_figure_0 27 rfl) rfl rfl ?_
      refine x_bipush (v := 16) (dxX11_figure_0 28 rfl) rfl ?_
      refine x_iload_n (i := 1) (dxX11_figure_0 29 rfl) rfl rfl ?_
      refine x_imul (dxX11_figure_0 30 rfl) ?_
      refine x_iadd (dxX11_figure_0 31 rfl) ?_
      exact x_iret (ty := .int) rfl rfl (dxX11_figure_1 0 rfl) ⟨_, rfl, h⟩
  · replace h := h.2 hc
    refine x_iload_n (i := 2) (dxX11_figure_0 16 rfl) rfl rfl ?_
    exact x_iret (ty := .int) rfl rfl (dxX11_figure_0 17 rfl) ⟨_, rfl, h⟩
theorem vcX11_cell {g : GV} {d : Nat} {P : Int32 → PS → Prop} {σ : PS} (hL : Lay σ) (p0 : Int32) (p1 : Int32) (h : CX4_hasCell g d [.ref 20, .int p0] σ (fun (v2 : Int32) (s1 : PS) => Fr σ s1 ∧ (¬ v2 = 0 → (¬ p1 = 0 → (¬ p1 = 1 → (p1 < 2 → P (-1) s1) ∧ (¬ p1 < 2 → (5 < p1 → P (-1) s1) ∧ (¬ 5 < p1 → vp_in (((p0 * 4) + p1) - 2) 40 ∧ P (mi s1 25 (Int32.toNatClampNeg (((p0 * 4) + p1) - 2))) s1))) ∧ (p1 = 1 → vp_in p0 10 ∧ P (mi s1 23 (Int32.toNatClampNeg p0)) s1)) ∧ (p1 = 0 → vp_in p0 10 ∧ P (mi s1 22 (Int32.toNatClampNeg p0)) s1)) ∧ (v2 = 0 → P (-1) s1))) : CX11_cell g (d + 1) [.ref 10, .int p0, .int p1] σ P := by
  refine x_entry (L := [some (.ref 10), some (.int p0), some (.int p1)]) pn_11 (Nat.le_of_ble_eq_true rfl) ⟨0, rfl⟩ ?_
  show VX11_cell g (d + 1) P 0 [some (.ref 10), some (.int p0), some (.int p1)] [] σ
  refine x_aload_n (i := 0) (dxX11_cell_0 0 rfl) rfl rfl ?_
  refine gf_11_26 (kd_10 hL) (rv_10_2 hL) (dxX11_cell_0 1 rfl) ?_
  refine x_iload_n (i := 1) (dxX11_cell_0 2 rfl) rfl rfl ?_
  refine cl_11_122 (kd_20 hL) (Nat.le_of_ble_eq_true rfl) (dxX11_cell_0 3 rfl) h (fun v2 s1 h => ?_) (Nat.le_refl _) (Nat.le_refl _)
  obtain ⟨hFs1, h⟩ := h
  have hKs1 : kd s1 = kd σ := hFs1.1.trans (rfl : kd σ = kd σ)
  have hLs1 : Lay s1 := hL.fr hFs1
  refine x_if_ne (tgt := 13) (dxX11_cell_0 4 rfl) (by decide) (fun hc => ?_) (fun hc => ?_)
  · replace h := h.1 hc
    refine x_iload_n (i := 2) (dxX11_cell_0 7 rfl) rfl rfl ?_
    refine x_if_ne (tgt := 27) (dxX11_cell_0 8 rfl) (by decide) (fun hc => ?_) (fun hc => ?_)
    · replace h := h.1 hc
      refine x_iload_n (i := 2) (dxX11_cell_0 15 rfl) rfl rfl ?_
      refine x_iconst (v := 1) (dxX11_cell_0 16 rfl) rfl ?_
      refine x_icmp_ne (tgt := 42) (dxX11_cell_0 17 rfl) (by decide) (fun hc => ?_) (fun hc => ?_)
      · replace h := h.1 hc
        refine x_iload_n (i := 2) (dxX11_cell_0 24 rfl) rfl rfl ?_
        refine x_iconst (v := 2) (dxX11_cell_0 25 rfl) rfl ?_
        refine x_icmp_lt (tgt := 68) (dxX11_cell_0 26 rfl) (by decide) (fun hc => ?_) (fun hc => ?_)
        · replace h := h.1 hc
          refine x_iconst (v := (-1)) (dxX11_cell_1 10 rfl) rfl ?_
          exact x_iret (ty := .int) rfl rfl (dxX11_cell_1 11 rfl) ⟨_, rfl, h⟩
        · replace h := h.2 hc
          refine x_iload_n (i := 2) (dxX11_cell_0 27 rfl) rfl rfl ?_
          refine x_iconst (v := 5) (dxX11_cell_0 28 rfl) rfl ?_
          refine x_icmp_gt (tgt := 68) (dxX11_cell_0 29 rfl) (by decide) (fun hc => ?_) (fun hc => ?_)
          · replace h := h.1 hc
            refine x_iconst (v := (-1)) (dxX11_cell_1 10 rfl) rfl ?_
            exact x_iret (ty := .int) rfl rfl (dxX11_cell_1 11 rfl) ⟨_, rfl, h⟩
          · replace h := h.2 hc
            refine x_aload_n (i := 0) (dxX11_cell_0 30 rfl) rfl rfl ?_
            refine gf_11_26 (kd_10 hLs1) (rv_10_2 hLs1) (dxX11_cell_0 31 rfl) ?_
            refine gf_11_132 (kd_20 hLs1) (rv_20_5 hLs1) (dxX11_cell_1 0 rfl) ?_
            refine x_iload_n (i := 1) (dxX11_cell_1 1 rfl) rfl rfl ?_
            refine x_iconst (v := 4) (dxX11_cell_1 2 rfl) rfl ?_
            refine x_imul (dxX11_cell_1 3 rfl) ?_
            refine x_iload_n (i := 2) (dxX11_cell_1 4 rfl) rfl rfl ?_
            refine x_iadd (dxX11_cell_1 5 rfl) ?_
            refine x_iconst (v := 2) (dxX11_cell_1 6 rfl) rfl ?_
            refine x_isub (dxX11_cell_1 7 rfl) ?_
            obtain ⟨hi3, h⟩ := h
            refine x_iald (kd_25 hLs1) hi3 (dxX11_cell_1 8 rfl) ?_
            exact x_iret (ty := .int) rfl rfl (dxX11_cell_1 9 rfl) ⟨_, rfl, h⟩
      · replace h := h.2 hc
        refine x_aload_n (i := 0) (dxX11_cell_0 18 rfl) rfl rfl ?_
        refine gf_11_26 (kd_10 hLs1) (rv_10_2 hLs1) (dxX11_cell_0 19 rfl) ?_
        refine gf_11_129 (kd_20 hLs1) (rv_20_2 hLs1) (dxX11_cell_0 20 rfl) ?_
        refine x_iload_n (i := 1) (dxX11_cell_0 21 rfl) rfl rfl ?_
        obtain ⟨hi4, h⟩ := h
        refine x_iald (kd_23 hLs1) hi4 (dxX11_cell_0 22 rfl) ?_
        exact x_iret (ty := .int) rfl rfl (dxX11_cell_0 23 rfl) ⟨_, rfl, h⟩
    · replace h := h.2 hc
      refine x_aload_n (i := 0) (dxX11_cell_0 9 rfl) rfl rfl ?_
      refine gf_11_26 (kd_10 hLs1) (rv_10_2 hLs1) (dxX11_cell_0 10 rfl) ?_
      refine gf_11_126 (kd_20 hLs1) (rv_20_1 hLs1) (dxX11_cell_0 11 rfl) ?_
      refine x_iload_n (i := 1) (dxX11_cell_0 12 rfl) rfl rfl ?_
      obtain ⟨hi5, h⟩ := h
      refine x_iald (kd_22 hLs1) hi5 (dxX11_cell_0 13 rfl) ?_
      exact x_iret (ty := .int) rfl rfl (dxX11_cell_0 14 rfl) ⟨_, rfl, h⟩
  · replace h := h.2 hc
    refine x_iconst (v := (-1)) (dxX11_cell_0 5 rfl) rfl ?_
    exact x_iret (ty := .int) rfl rfl (dxX11_cell_0 6 rfl) ⟨_, rfl, h⟩
theorem vcX11_edge {g : GV} {d : Nat} {P : Int32 → PS → Prop} {σ : PS} (hL : Lay σ) (p0 : Int32) (p1 : Int32) (h : CX4_hasEdge g d [.ref 20, .int p0] σ (fun (v2 : Int32) (s1 : PS) => Fr σ s1 ∧ (¬ v2 = 0 → (p1 = 0 → vp_in p0 22 ∧ P (mi s1 26 (Int32.toNatClampNeg p0)) s1) ∧ (p1 = 1 → vp_in p0 22 ∧ P (mi s1 27 (Int32.toNatClampNeg p0)) s1) ∧ (p1 = 2 → vp_in p0 22 ∧ P (mi s1 28 (Int32.toNatClampNeg p0)) s1) ∧ (p1 = 3 → CX0_mates g d [.ref 38] s1 (fun (v7 : Nat) (s6 : PS) => Fr s1 s6 ∧ ∃ n8, kd s6 v7 = some (.inr (0, n8)) ∧ vp_in p0 n8 ∧ P (mi s6 v7 (Int32.toNatClampNeg p0)) s6)) ∧ (¬ p1 = 0 ∧ ¬ p1 = 1 ∧ ¬ p1 = 2 ∧ ¬ p1 = 3 → P (-1) s1)) ∧ (v2 = 0 → P (-1) s1))) : CX11_edge g (d + 1) [.ref 10, .int p0, .int p1] σ P := by
  refine x_entry (L := [some (.ref 10), some (.int p0), some (.int p1)]) pn_11 (Nat.le_of_ble_eq_true rfl) ⟨0, rfl⟩ ?_
  show VX11_edge g (d + 1) P 0 [some (.ref 10), some (.int p0), some (.int p1)] [] σ
  refine x_aload_n (i := 0) (dxX11_edge_0 0 rfl) rfl rfl ?_
  refine gf_11_26 (kd_10 hL) (rv_10_2 hL) (dxX11_edge_0 1 rfl) ?_
  refine x_iload_n (i := 1) (dxX11_edge_0 2 rfl) rfl rfl ?_
  refine cl_11_135 (kd_20 hL) (Nat.le_of_ble_eq_true rfl) (dxX11_edge_0 3 rfl) h (fun v2 s1 h => ?_) (Nat.le_refl _) (Nat.le_refl _)
  obtain ⟨hFs1, h⟩ := h
  have hKs1 : kd s1 = kd σ := hFs1.1.trans (rfl : kd σ = kd σ)
  have hLs1 : Lay s1 := hL.fr hFs1
  refine x_if_ne (tgt := 13) (dxX11_edge_0 4 rfl) (by decide) (fun hc => ?_) (fun hc => ?_)
  · replace h := h.1 hc
    refine x_iload_n (i := 2) (dxX11_edge_0 7 rfl) rfl rfl ?_
    by_cases hx0 : p1 = 0
    · replace h := h.1 hx0
      refine x_tableIn (tgt := 44) (dxX11_edge_0 8 rfl) (by rw [hx0]; decide) (by rw [hx0]; decide) (by rw [hx0]; rfl) (by decide) ?_
      refine x_aload_n (i := 0) (dxX11_edge_0 9 rfl) rfl rfl ?_
      refine gf_11_26 (kd_10 hLs1) (rv_10_2 hLs1) (dxX11_edge_0 10 rfl) ?_
      refine gf_11_138 (kd_20 hLs1) (rv_20_7 hLs1) (dxX11_edge_0 11 rfl) ?_
      refine x_iload_n (i := 1) (dxX11_edge_0 12 rfl) rfl rfl ?_
      obtain ⟨hi3, h⟩ := h
      refine x_iald (kd_26 hLs1) hi3 (dxX11_edge_0 13 rfl) ?_
      exact x_iret (ty := .int) rfl rfl (dxX11_edge_0 14 rfl) ⟨_, rfl, h⟩
    by_cases hx1 : p1 = 1
    · replace h := h.2.1 hx1
      refine x_tableIn (tgt := 54) (dxX11_edge_0 8 rfl) (by rw [hx1]; decide) (by rw [hx1]; decide) (by rw [hx1]; rfl) (by decide) ?_
      refine x_aload_n (i := 0) (dxX11_edge_0 15 rfl) rfl rfl ?_
      refine gf_11_26 (kd_10 hLs1) (rv_10_2 hLs1) (dxX11_edge_0 16 rfl) ?_
      refine gf_11_141 (kd_20 hLs1) (rv_20_8 hLs1) (dxX11_edge_0 17 rfl) ?_
      refine x_iload_n (i := 1) (dxX11_edge_0 18 rfl) rfl rfl ?_
      obtain ⟨hi4, h⟩ := h
      refine x_iald (kd_27 hLs1) hi4 (dxX11_edge_0 19 rfl) ?_
      exact x_iret (ty := .int) rfl rfl (dxX11_edge_0 20 rfl) ⟨_, rfl, h⟩
    by_cases hx2 : p1 = 2
    · replace h := h.2.2.1 hx2
      refine x_tableIn (tgt := 64) (dxX11_edge_0 8 rfl) (by rw [hx2]; decide) (by rw [hx2]; decide) (by rw [hx2]; rfl) (by decide) ?_
      refine x_aload_n (i := 0) (dxX11_edge_0 21 rfl) rfl rfl ?_
      refine gf_11_26 (kd_10 hLs1) (rv_10_2 hLs1) (dxX11_edge_0 22 rfl) ?_
      refine gf_11_144 (kd_20 hLs1) (rv_20_9 hLs1) (dxX11_edge_0 23 rfl) ?_
      refine x_iload_n (i := 1) (dxX11_edge_0 24 rfl) rfl rfl ?_
      obtain ⟨hi5, h⟩ := h
      refine x_iald (kd_28 hLs1) hi5 (dxX11_edge_0 25 rfl) ?_
      exact x_iret (ty := .int) rfl rfl (dxX11_edge_0 26 rfl) ⟨_, rfl, h⟩
    by_cases hx3 : p1 = 3
    · replace h := h.2.2.2.1 hx3
      refine x_tableIn (tgt := 74) (dxX11_edge_0 8 rfl) (by rw [hx3]; decide) (by rw [hx3]; decide) (by rw [hx3]; rfl) (by decide) ?_
      refine x_aload_n (i := 0) (dxX11_edge_0 27 rfl) rfl rfl ?_
      refine gf_11_36 (kd_10 hLs1) (rv_10_4 hLs1) (dxX11_edge_0 28 rfl) ?_
      refine cl_11_147 (kd_38 hLs1) (Nat.le_of_ble_eq_true rfl) (dxX11_edge_0 29 rfl) h (fun v7 s6 h => ?_) (Nat.le_refl _) (Nat.le_refl _)
      obtain ⟨hFs6, h⟩ := h
      have hKs6 : kd s6 = kd σ := hFs6.1.trans hKs1
      have hLs6 : Lay s6 := hLs1.fr hFs6
      refine x_iload_n (i := 1) (dxX11_edge_0 30 rfl) rfl rfl ?_
      obtain ⟨n8, hk9, h⟩ := h
      obtain ⟨hi10, h⟩ := h
      refine x_iald ((congrFun hKs6 _).trans ((congrFun hKs6 _).symm.trans hk9)) hi10 (dxX11_edge_0 31 rfl) ?_
      exact x_iret (ty := .int) rfl rfl (dxX11_edge_1 0 rfl) ⟨_, rfl, h⟩
    replace h := h.2.2.2.2 ⟨hx0, hx1, hx2, hx3⟩
    refine x_tableOut (tgt := 84) (dxX11_edge_0 8 rfl) (tab_out (n := 3) (by decide) (fun j hj => by rcases (show j = 0 ∨ j = 1 ∨ j = 2 ∨ j = 3 by omega) with rfl | rfl | rfl | rfl <;> assumption)) (by decide) ?_
    refine x_iconst (v := (-1)) (dxX11_edge_1 1 rfl) rfl ?_
    exact x_iret (ty := .int) rfl rfl (dxX11_edge_1 2 rfl) ⟨_, rfl, h⟩
  · replace h := h.2 hc
    refine x_iconst (v := (-1)) (dxX11_edge_0 5 rfl) rfl ?_
    exact x_iret (ty := .int) rfl rfl (dxX11_edge_0 6 rfl) ⟨_, rfl, h⟩
theorem vcX11_gluings {g : GV} {d : Nat} {P : Int32 → PS → Prop} {σ : PS} (hL : Lay σ)  (h : CX5_work g d [.ref 87] σ (fun (s1 : PS) => Fr σ s1 ∧ ((mi s1 87 2) = 0 → P (mi s1 87 3) s1) ∧ (¬ (mi s1 87 2) = 0 → P (-1) s1))) : CX11_gluings g (d + 1) [.ref 10] σ P := by
  refine x_entry (L := [some (.ref 10)]) pn_11 (Nat.le_of_ble_eq_true rfl) ⟨0, rfl⟩ ?_
  show VX11_gluings g (d + 1) P 0 [some (.ref 10)] [] σ
  refine x_aload_n (i := 0) (dxX11_gluings_0 0 rfl) rfl rfl ?_
  refine gf_11_55 (kd_10 hL) (rv_10_7 hL) (dxX11_gluings_0 1 rfl) ?_
  refine cl_11_151 (kd_87 hL) (Nat.le_of_ble_eq_true rfl) (dxX11_gluings_0 2 rfl) h (fun s1 h => ?_) (Nat.le_refl _) (Nat.le_refl _)
  obtain ⟨hFs1, h⟩ := h
  have hKs1 : kd s1 = kd σ := hFs1.1.trans (rfl : kd σ = kd σ)
  have hLs1 : Lay s1 := hL.fr hFs1
  refine x_aload_n (i := 0) (dxX11_gluings_0 3 rfl) rfl rfl ?_
  refine gf_11_55 (kd_10 hLs1) (rv_10_7 hLs1) (dxX11_gluings_0 4 rfl) ?_
  refine gf_11_154 (kd_87 hLs1) rfl (dxX11_gluings_0 5 rfl) ?_
  refine x_if_eq (tgt := 21) (dxX11_gluings_0 6 rfl) (by decide) (fun hc => ?_) (fun hc => ?_)
  · replace h := h.1 hc
    refine x_aload_n (i := 0) (dxX11_gluings_0 9 rfl) rfl rfl ?_
    refine gf_11_55 (kd_10 hLs1) (rv_10_7 hLs1) (dxX11_gluings_0 10 rfl) ?_
    refine gf_11_158 (kd_87 hLs1) rfl (dxX11_gluings_0 11 rfl) ?_
    exact x_iret (ty := .int) rfl rfl (dxX11_gluings_0 12 rfl) ⟨_, rfl, h⟩
  · replace h := h.2 hc
    refine x_iconst (v := (-1)) (dxX11_gluings_0 7 rfl) rfl ?_
    refine x_goto (tgt := 28) (dxX11_gluings_0 8 rfl) (by decide) ?_
    exact x_iret (ty := .int) rfl rfl (dxX11_gluings_0 12 rfl) ⟨_, rfl, h⟩
theorem vcX11_partner {g : GV} {d : Nat} {P : Int32 → PS → Prop} {σ : PS} (hL : Lay σ) (p0 : Int32) (p1 : Int32) (h : CX5_has g d [.ref 87, .int p0] σ (fun (v2 : Int32) (s1 : PS) => Fr σ s1 ∧ (v2 = 0 → P (-1) s1) ∧ (¬ v2 = 0 → CX4_hasEdge g d [.ref 20, .int p1] s1 (fun (v4 : Int32) (s3 : PS) => Fr s1 s3 ∧ (¬ v4 = 0 → CX5_tell g d [.ref 87, .int p0] s3 (fun (s5 : PS) => Fr s3 s5 ∧ vp_in p1 22 ∧ P (mi s5 92 (Int32.toNatClampNeg p1)) s5)) ∧ (v4 = 0 → P (-1) s3))))) : CX11_partner g (d + 1) [.ref 10, .int p0, .int p1] σ P := by
  refine x_entry (L := [some (.ref 10), some (.int p0), some (.int p1)]) pn_11 (Nat.le_of_ble_eq_true rfl) ⟨0, rfl⟩ ?_
  show VX11_partner g (d + 1) P 0 [some (.ref 10), some (.int p0), some (.int p1)] [] σ
  refine x_aload_n (i := 0) (dxX11_partner_0 0 rfl) rfl rfl ?_
  refine gf_11_55 (kd_10 hL) (rv_10_7 hL) (dxX11_partner_0 1 rfl) ?_
  refine x_iload_n (i := 1) (dxX11_partner_0 2 rfl) rfl rfl ?_
  refine cl_11_161 (kd_87 hL) (Nat.le_of_ble_eq_true rfl) (dxX11_partner_0 3 rfl) h (fun v2 s1 h => ?_) (Nat.le_refl _) (Nat.le_refl _)
  obtain ⟨hFs1, h⟩ := h
  have hKs1 : kd s1 = kd σ := hFs1.1.trans (rfl : kd σ = kd σ)
  have hLs1 : Lay s1 := hL.fr hFs1
  refine x_if_eq (tgt := 22) (dxX11_partner_0 4 rfl) (by decide) (fun hc => ?_) (fun hc => ?_)
  · replace h := h.1 hc
    refine x_iconst (v := (-1)) (dxX11_partner_0 10 rfl) rfl ?_
    exact x_iret (ty := .int) rfl rfl (dxX11_partner_0 11 rfl) ⟨_, rfl, h⟩
  · replace h := h.2 hc
    refine x_aload_n (i := 0) (dxX11_partner_0 5 rfl) rfl rfl ?_
    refine gf_11_26 (kd_10 hLs1) (rv_10_2 hLs1) (dxX11_partner_0 6 rfl) ?_
    refine x_iload_n (i := 2) (dxX11_partner_0 7 rfl) rfl rfl ?_
    refine cl_11_135 (kd_20 hLs1) (Nat.le_of_ble_eq_true rfl) (dxX11_partner_0 8 rfl) h (fun v4 s3 h => ?_) (Nat.le_refl _) (Nat.le_refl _)
    obtain ⟨hFs3, h⟩ := h
    have hKs3 : kd s3 = kd σ := hFs3.1.trans hKs1
    have hLs3 : Lay s3 := hLs1.fr hFs3
    refine x_if_ne (tgt := 24) (dxX11_partner_0 9 rfl) (by decide) (fun hc => ?_) (fun hc => ?_)
    · replace h := h.1 hc
      refine x_aload_n (i := 0) (dxX11_partner_0 12 rfl) rfl rfl ?_
      refine gf_11_55 (kd_10 hLs3) (rv_10_7 hLs3) (dxX11_partner_0 13 rfl) ?_
      refine x_iload_n (i := 1) (dxX11_partner_0 14 rfl) rfl rfl ?_
      refine cl_11_164 (kd_87 hLs3) (Nat.le_of_ble_eq_true rfl) (dxX11_partner_0 15 rfl) h (fun s5 h => ?_) (Nat.le_refl _) (Nat.le_refl _)
      obtain ⟨hFs5, h⟩ := h
      have hKs5 : kd s5 = kd σ := hFs5.1.trans hKs3
      have hLs5 : Lay s5 := hLs3.fr hFs5
      refine x_aload_n (i := 0) (dxX11_partner_0 16 rfl) rfl rfl ?_
      refine gf_11_55 (kd_10 hLs5) (rv_10_7 hLs5) (dxX11_partner_0 17 rfl) ?_
      refine gf_11_168 (kd_87 hLs5) (rv_87_8 hLs5) (dxX11_partner_0 18 rfl) ?_
      refine x_iload_n (i := 2) (dxX11_partner_0 19 rfl) rfl rfl ?_
      obtain ⟨hi7, h⟩ := h
      refine x_iald (kd_92 hLs5) hi7 (dxX11_partner_0 20 rfl) ?_
      exact x_iret (ty := .int) rfl rfl (dxX11_partner_0 21 rfl) ⟨_, rfl, h⟩
    · replace h := h.2 hc
      refine x_iconst (v := (-1)) (dxX11_partner_0 10 rfl) rfl ?_
      exact x_iret (ty := .int) rfl rfl (dxX11_partner_0 11 rfl) ⟨_, rfl, h⟩
theorem vcX11_glue {g : GV} {d : Nat} {P : Int32 → PS → Prop} {σ : PS} (hL : Lay σ) (p0 : Int32) (p1 : Int32) (h : CX4_hasEdge g d [.ref 20, .int p0] σ (fun (v2 : Int32) (s1 : PS) => Fr σ s1 ∧ (v2 = 0 → P 1 s1) ∧ (¬ v2 = 0 → CX4_hasEdge g d [.ref 20, .int p1] s1 (fun (v4 : Int32) (s3 : PS) => Fr s1 s3 ∧ (v4 = 0 → P 1 s3) ∧ (¬ v4 = 0 → (¬ p0 = p1 → CX0_mates g d [.ref 38] s3 (fun (v6 : Nat) (s5 : PS) => Fr s3 s5 ∧ ∃ n7, kd s5 v6 = some (.inr (0, n7)) ∧ vp_in p0 n7 ∧ (¬ (mi s5 v6 (Int32.toNatClampNeg p0)) = (-1) → P 2 s5) ∧ ((mi s5 v6 (Int32.toNatClampNeg p0)) = (-1) → vp_in p1 n7 ∧ ((mi s5 v6 (Int32.toNatClampNeg p1)) = (-1) → CX11_crosses g d [.ref 10, .ref v6, .int (jmin p0 p1), .int (jmax p0 p1)] s5 (fun (v12 : Int32) (s11 : PS) => Fr s5 s11 ∧ (v12 = 0 → (¬ (jrem (p0 - p1) 2) = 0 → CX3_copy g d [.ref 84, .ref 81] s11 (fun (s13 : PS) => Fr s11 s13 ∧ CX3_pair g d [.ref 84, .int p0, .int p1] s13 (fun (v16 : Int32) (s15 : PS) => Fr s13 s15 ∧ (¬ v16 = 0 → CX0_begin g d [.ref 38] s15 (fun (v18 : Nat) (s17 : PS) => FrL s15 s17 ∧ ∃ n19, kd s17 v18 = some (.inr (0, n19)) ∧ vp_in p0 n19 ∧ ∀ s22 : PS, s22 = si s17 v18 (Int32.toNatClampNeg p0) p1 → vp_in p1 n19 ∧ ∀ s25 : PS, s25 = si s22 v18 (Int32.toNatClampNeg p1) p0 → CX11_settle g d [.ref 10] s25 (fun (s27 : PS) => Fr s25 s27 ∧ P 0 s27))) ∧ (v16 = 0 → P 5 s15)))) ∧ ((jrem (p0 - p1) 2) = 0 → P 4 s11)) ∧ (¬ v12 = 0 → P 3 s11))) ∧ (¬ (mi s5 v6 (Int32.toNatClampNeg p1)) = (-1) → P 2 s5)))) ∧ (p0 = p1 → P 1 s3)))))) : CX11_glue g (d + 1) [.ref 10, .int p0, .int p1] σ P := by
  refine x_entry (L := [some (.ref 10), some (.int p0), some (.int p1), none, none]) pn_11 (Nat.le_of_ble_eq_true rfl) ⟨2, rfl⟩ ?_
  show VX11_glue g (d + 1) P 0 [some (.ref 10), some (.int p0), some (.int p1), none, none] [] σ
  refine x_aload_n (i := 0) (dxX11_glue_0 0 rfl) rfl rfl ?_
  refine gf_11_26 (kd_10 hL) (rv_10_2 hL) (dxX11_glue_0 1 rfl) ?_
  refine x_iload_n (i := 1) (dxX11_glue_0 2 rfl) rfl rfl ?_
  refine cl_11_135 (kd_20 hL) (Nat.le_of_ble_eq_true rfl) (dxX11_glue_0 3 rfl) h (fun v2 s1 h => ?_) (Nat.le_refl _) (Nat.le_refl _)
  obtain ⟨hFs1, h⟩ := h
  have hKs1 : kd s1 = kd σ := hFs1.1.trans (rfl : kd σ = kd σ)
  have hLs1 : Lay s1 := hL.fr hFs1
  refine x_if_eq (tgt := 27) (dxX11_glue_0 4 rfl) (by decide) (fun hc => ?_) (fun hc => ?_)
  · replace h := h.1 hc
    refine x_iconst (v := 1) (dxX11_glue_0 13 rfl) rfl ?_
    exact x_iret (ty := .int) rfl rfl (dxX11_glue_0 14 rfl) ⟨_, rfl, h⟩
  · replace h := h.2 hc
    refine x_aload_n (i := 0) (dxX11_glue_0 5 rfl) rfl rfl ?_
    refine gf_11_26 (kd_10 hLs1) (rv_10_2 hLs1) (dxX11_glue_0 6 rfl) ?_
    refine x_iload_n (i := 2) (dxX11_glue_0 7 rfl) rfl rfl ?_
    refine cl_11_135 (kd_20 hLs1) (Nat.le_of_ble_eq_true rfl) (dxX11_glue_0 8 rfl) h (fun v4 s3 h => ?_) (Nat.le_refl _) (Nat.le_refl _)
    obtain ⟨hFs3, h⟩ := h
    have hKs3 : kd s3 = kd σ := hFs3.1.trans hKs1
    have hLs3 : Lay s3 := hLs1.fr hFs3
    refine x_if_eq (tgt := 27) (dxX11_glue_0 9 rfl) (by decide) (fun hc => ?_) (fun hc => ?_)
    · replace h := h.1 hc
      refine x_iconst (v := 1) (dxX11_glue_0 13 rfl) rfl ?_
      exact x_iret (ty := .int) rfl rfl (dxX11_glue_0 14 rfl) ⟨_, rfl, h⟩
    · replace h := h.2 hc
      refine x_iload_n (i := 1) (dxX11_glue_0 10 rfl) rfl rfl ?_
      refine x_iload_n (i := 2) (dxX11_glue_0 11 rfl) rfl rfl ?_
      refine x_icmp_ne (tgt := 29) (dxX11_glue_0 12 rfl) (by decide) (fun hc => ?_) (fun hc => ?_)
      · replace h := h.1 hc
        refine x_aload_n (i := 0) (dxX11_glue_0 15 rfl) rfl rfl ?_
        refine gf_11_36 (kd_10 hLs3) (rv_10_4 hLs3) (dxX11_glue_0 16 rfl) ?_
        refine cl_11_147 (kd_38 hLs3) (Nat.le_of_ble_eq_true rfl) (dxX11_glue_0 17 rfl) h (fun v6 s5 h => ?_) (Nat.le_refl _) (Nat.le_refl _)
        obtain ⟨hFs5, h⟩ := h
        have hKs5 : kd s5 = kd σ := hFs5.1.trans hKs3
        have hLs5 : Lay s5 := hLs3.fr hFs5
        refine x_astore_n (i := 3) (dxX11_glue_0 18 rfl) rfl (Nat.le_of_ble_eq_true rfl) rfl rfl ?_
        refine x_aload_n (i := 3) (dxX11_glue_0 19 rfl) rfl rfl ?_
        refine x_iload_n (i := 1) (dxX11_glue_0 20 rfl) rfl rfl ?_
        obtain ⟨n7, hk8, h⟩ := h
        obtain ⟨hi9, h⟩ := h
        refine x_iald ((congrFun hKs5 _).trans ((congrFun hKs5 _).symm.trans hk8)) hi9 (dxX11_glue_0 21 rfl) ?_
        refine x_iconst (v := (-1)) (dxX11_glue_0 22 rfl) rfl ?_
        refine x_icmp_ne (tgt := 51) (dxX11_glue_0 23 rfl) (by decide) (fun hc => ?_) (fun hc => ?_)
        · replace h := h.1 hc
          refine x_iconst (v := 2) (dxX11_glue_0 29 rfl) rfl ?_
          exact x_iret (ty := .int) rfl rfl (dxX11_glue_0 30 rfl) ⟨_, rfl, h⟩
        · replace h := h.2 hc
          refine x_aload_n (i := 3) (dxX11_glue_0 24 rfl) rfl rfl ?_
          refine x_iload_n (i := 2) (dxX11_glue_0 25 rfl) rfl rfl ?_
          obtain ⟨hi10, h⟩ := h
          refine x_iald ((congrFun hKs5 _).trans ((congrFun hKs5 _).symm.trans hk8)) hi10 (dxX11_glue_0 26 rfl) ?_
          refine x_iconst (v := (-1)) (dxX11_glue_0 27 rfl) rfl ?_
          refine x_icmp_eq (tgt := 53) (dxX11_glue_0 28 rfl) (by decide) (fun hc => ?_) (fun hc => ?_)
          · replace h := h.1 hc
            refine x_aload_n (i := 0) (dxX11_glue_0 31 rfl) rfl rfl ?_
            refine x_aload_n (i := 3) (dxX11_glue_1 0 rfl) rfl rfl ?_
            refine x_iload_n (i := 1) (dxX11_glue_1 1 rfl) rfl rfl ?_
            refine x_iload_n (i := 2) (dxX11_glue_1 2 rfl) rfl rfl ?_
            refine cl_11_171 (Nat.le_of_ble_eq_true rfl) (dxX11_glue_1 3 rfl) ?_
            refine x_iload_n (i := 1) (dxX11_glue_1 4 rfl) rfl rfl ?_
            refine x_iload_n (i := 2) (dxX11_glue_1 5 rfl) rfl rfl ?_
            refine cl_11_177 (Nat.le_of_ble_eq_true rfl) (dxX11_glue_1 6 rfl) ?_
            refine cl_11_180 (kd_10 hLs5) (Nat.le_of_ble_eq_true rfl) (dxX11_glue_1 7 rfl) h (fun v12 s11 h => ?_) (Nat.le_refl _) (Nat.le_refl _)
            obtain ⟨hFs11, h⟩ := h
            have hKs11 : kd s11 = kd σ := hFs11.1.trans hKs5
            have hLs11 : Lay s11 := hLs5.fr hFs11
            refine x_if_eq (tgt := 73) (dxX11_glue_1 8 rfl) (by decide) (fun hc => ?_) (fun hc => ?_)
            · replace h := h.1 hc
              refine x_iload_n (i := 1) (dxX11_glue_1 11 rfl) rfl rfl ?_
              refine x_iload_n (i := 2) (dxX11_glue_1 12 rfl) rfl rfl ?_
              refine x_isub (dxX11_glue_1 13 rfl) ?_
              refine x_iconst (v := 2) (dxX11_glue_1 14 rfl) rfl ?_
              refine x_irem (dxX11_glue_1 15 rfl) (by decide) ?_
              refine x_if_ne (tgt := 83) (dxX11_glue_1 16 rfl) (by decide) (fun hc => ?_) (fun hc => ?_)
              · replace h := h.1 hc
                refine x_aload_n (i := 0) (dxX11_glue_1 19 rfl) rfl rfl ?_
                refine gf_11_47 (kd_10 hLs11) (rv_10_6 hLs11) (dxX11_glue_1 20 rfl) ?_
                refine x_aload_n (i := 0) (dxX11_glue_1 21 rfl) rfl rfl ?_
                refine gf_11_43 (kd_10 hLs11) (rv_10_5 hLs11) (dxX11_glue_1 22 rfl) ?_
                refine cl_11_184 (kd_84 hLs11) (Nat.le_of_ble_eq_true rfl) (dxX11_glue_1 23 rfl) h (fun s13 h => ?_) (Nat.le_refl _) (Nat.le_refl _)
                obtain ⟨hFs13, h⟩ := h
                have hKs13 : kd s13 = kd σ := hFs13.1.trans hKs11
                have hLs13 : Lay s13 := hLs11.fr hFs13
                refine x_aload_n (i := 0) (dxX11_glue_1 24 rfl) rfl rfl ?_
                refine gf_11_47 (kd_10 hLs13) (rv_10_6 hLs13) (dxX11_glue_1 25 rfl) ?_
                refine x_iload_n (i := 1) (dxX11_glue_1 26 rfl) rfl rfl ?_
                refine x_iload_n (i := 2) (dxX11_glue_1 27 rfl) rfl rfl ?_
                refine cl_11_188 (kd_84 hLs13) (Nat.le_of_ble_eq_true rfl) (dxX11_glue_1 28 rfl) h (fun v16 s15 h => ?_) (Nat.le_refl _) (Nat.le_refl _)
                obtain ⟨hFs15, h⟩ := h
                have hKs15 : kd s15 = kd σ := hFs15.1.trans hKs13
                have hLs15 : Lay s15 := hLs13.fr hFs15
                refine x_if_ne (tgt := 108) (dxX11_glue_1 29 rfl) (by decide) (fun hc => ?_) (fun hc => ?_)
                · replace h := h.1 hc
                  refine x_aload_n (i := 0) (dxX11_glue_2 0 rfl) rfl rfl ?_
                  refine gf_11_36 (kd_10 hLs15) (rv_10_4 hLs15) (dxX11_glue_2 1 rfl) ?_
                  refine cl_11_192 (kd_38 hLs15) (Nat.le_of_ble_eq_true rfl) (dxX11_glue_2 2 rfl) h (fun v18 s17 h => ?_) (Nat.le_refl _) (Nat.le_refl _)
                  obtain ⟨hFs17, h⟩ := h
                  have hKs17 : kd s17 = kd σ := hFs17.1.trans hKs15
                  have hLs17 : Lay s17 := hFs17.2
                  refine x_astore (dxX11_glue_2 3 rfl) (Nat.le_of_ble_eq_true rfl) rfl rfl ?_
                  refine x_aload (dxX11_glue_2 4 rfl) rfl ?_
                  refine x_iload_n (i := 1) (dxX11_glue_2 5 rfl) rfl rfl ?_
                  refine x_iload_n (i := 2) (dxX11_glue_2 6 rfl) rfl rfl ?_
                  obtain ⟨n19, hk20, h⟩ := h
                  obtain ⟨hi21, h⟩ := h
                  refine x_iast ((congrFun hKs17 _).trans ((congrFun hKs17 _).symm.trans hk20)) hi21 (dxX11_glue_2 7 rfl) ?_
                  refine x_sto (fun s22 e23 => ?_)
                  replace h := h s22 e23
                  have hKs22 : kd s22 = kd σ := by rw [e23]; exact hKs17
                  have hLs22 : Lay s22 := by rw [e23]; exact hLs17.si
                  refine x_aload (dxX11_glue_2 8 rfl) rfl ?_
                  refine x_iload_n (i := 2) (dxX11_glue_2 9 rfl) rfl rfl ?_
                  refine x_iload_n (i := 1) (dxX11_glue_2 10 rfl) rfl rfl ?_
                  obtain ⟨hi24, h⟩ := h
                  refine x_iast ((congrFun hKs22 _).trans ((congrFun hKs17 _).symm.trans hk20)) hi24 (dxX11_glue_2 11 rfl) ?_
                  refine x_sto (fun s25 e26 => ?_)
                  replace h := h s25 e26
                  have hKs25 : kd s25 = kd σ := by rw [e26]; exact hKs22
                  have hLs25 : Lay s25 := by rw [e26]; exact hLs22.si
                  refine x_aload_n (i := 0) (dxX11_glue_2 12 rfl) rfl rfl ?_
                  refine cl_11_195 (kd_10 hLs25) (Nat.le_of_ble_eq_true rfl) (dxX11_glue_2 13 rfl) h (fun s27 h => ?_) (Nat.le_refl _) (Nat.le_refl _)
                  obtain ⟨hFs27, h⟩ := h
                  have hKs27 : kd s27 = kd σ := hFs27.1.trans hKs25
                  have hLs27 : Lay s27 := hLs25.fr hFs27
                  refine x_iconst (v := 0) (dxX11_glue_2 14 rfl) rfl ?_
                  exact x_iret (ty := .int) rfl rfl (dxX11_glue_2 15 rfl) ⟨_, rfl, h⟩
                · replace h := h.2 hc
                  refine x_iconst (v := 5) (dxX11_glue_1 30 rfl) rfl ?_
                  exact x_iret (ty := .int) rfl rfl (dxX11_glue_1 31 rfl) ⟨_, rfl, h⟩
              · replace h := h.2 hc
                refine x_iconst (v := 4) (dxX11_glue_1 17 rfl) rfl ?_
                exact x_iret (ty := .int) rfl rfl (dxX11_glue_1 18 rfl) ⟨_, rfl, h⟩
            · replace h := h.2 hc
              refine x_iconst (v := 3) (dxX11_glue_1 9 rfl) rfl ?_
              exact x_iret (ty := .int) rfl rfl (dxX11_glue_1 10 rfl) ⟨_, rfl, h⟩
          · replace h := h.2 hc
            refine x_iconst (v := 2) (dxX11_glue_0 29 rfl) rfl ?_
            exact x_iret (ty := .int) rfl rfl (dxX11_glue_0 30 rfl) ⟨_, rfl, h⟩
      · replace h := h.2 hc
        refine x_iconst (v := 1) (dxX11_glue_0 13 rfl) rfl ?_
        exact x_iret (ty := .int) rfl rfl (dxX11_glue_0 14 rfl) ⟨_, rfl, h⟩
theorem vcX11_choose {g : GV} {d : Nat} {P : Int32 → PS → Prop} {σ : PS} (hL : Lay σ) (p0 : Int32) (h : CX5_has g d [.ref 87, .int p0] σ (fun (v2 : Int32) (s1 : PS) => Fr σ s1 ∧ (¬ v2 = 0 → CX5_tell g d [.ref 87, .int p0] s1 (fun (s3 : PS) => Fr s1 s3 ∧ CX0_begin g d [.ref 38] s3 (fun (v6 : Nat) (s5 : PS) => FrL s3 s5 ∧ ∃ n7, kd s5 v6 = some (.inr (0, n7)) ∧ (¬ (0 : Int32) < 0 ∧ ¬ (0 : Int32) < 0 ∧ ¬ (22 : Int32) < 0 ∧ Int32.toNatClampNeg (0 : Int32) + Int32.toNatClampNeg (22 : Int32) ≤ 22 ∧ Int32.toNatClampNeg (0 : Int32) + Int32.toNatClampNeg (22 : Int32) ≤ n7) ∧ ∀ s10 : PS, s10 = sa s5 v6 (va_cpy (mi s5 92) (mi s5 v6) (Int32.toNatClampNeg (0 : Int32)) (Int32.toNatClampNeg (0 : Int32)) (Int32.toNatClampNeg (22 : Int32))) → CX11_settle g d [.ref 10] s10 (fun (s12 : PS) => Fr s10 s12 ∧ P 1 s12)))) ∧ (v2 = 0 → P 0 s1))) : CX11_choose g (d + 1) [.ref 10, .int p0] σ P := by
  refine x_entry (L := [some (.ref 10), some (.int p0)]) pn_11 (Nat.le_of_ble_eq_true rfl) ⟨0, rfl⟩ ?_
  show VX11_choose g (d + 1) P 0 [some (.ref 10), some (.int p0)] [] σ
  refine x_aload_n (i := 0) (dxX11_choose_0 0 rfl) rfl rfl ?_
  refine gf_11_55 (kd_10 hL) (rv_10_7 hL) (dxX11_choose_0 1 rfl) ?_
  refine x_iload_n (i := 1) (dxX11_choose_0 2 rfl) rfl rfl ?_
  refine cl_11_161 (kd_87 hL) (Nat.le_of_ble_eq_true rfl) (dxX11_choose_0 3 rfl) h (fun v2 s1 h => ?_) (Nat.le_refl _) (Nat.le_refl _)
  obtain ⟨hFs1, h⟩ := h
  have hKs1 : kd s1 = kd σ := hFs1.1.trans (rfl : kd σ = kd σ)
  have hLs1 : Lay s1 := hL.fr hFs1
  refine x_if_ne (tgt := 13) (dxX11_choose_0 4 rfl) (by decide) (fun hc => ?_) (fun hc => ?_)
  · replace h := h.1 hc
    refine x_aload_n (i := 0) (dxX11_choose_0 7 rfl) rfl rfl ?_
    refine gf_11_55 (kd_10 hLs1) (rv_10_7 hLs1) (dxX11_choose_0 8 rfl) ?_
    refine x_iload_n (i := 1) (dxX11_choose_0 9 rfl) rfl rfl ?_
    refine cl_11_164 (kd_87 hLs1) (Nat.le_of_ble_eq_true rfl) (dxX11_choose_0 10 rfl) h (fun s3 h => ?_) (Nat.le_refl _) (Nat.le_refl _)
    obtain ⟨hFs3, h⟩ := h
    have hKs3 : kd s3 = kd σ := hFs3.1.trans hKs1
    have hLs3 : Lay s3 := hLs1.fr hFs3
    refine x_aload_n (i := 0) (dxX11_choose_0 11 rfl) rfl rfl ?_
    refine gf_11_55 (kd_10 hLs3) (rv_10_7 hLs3) (dxX11_choose_0 12 rfl) ?_
    refine gf_11_168 (kd_87 hLs3) (rv_87_8 hLs3) (dxX11_choose_0 13 rfl) ?_
    refine x_iconst (v := 0) (dxX11_choose_0 14 rfl) rfl ?_
    refine x_aload_n (i := 0) (dxX11_choose_0 15 rfl) rfl rfl ?_
    refine gf_11_36 (kd_10 hLs3) (rv_10_4 hLs3) (dxX11_choose_0 16 rfl) ?_
    refine cl_11_192 (kd_38 hLs3) (Nat.le_of_ble_eq_true rfl) (dxX11_choose_0 17 rfl) h (fun v6 s5 h => ?_) (Nat.le_refl _) (Nat.le_refl _)
    obtain ⟨hFs5, h⟩ := h
    have hKs5 : kd s5 = kd σ := hFs5.1.trans hKs3
    have hLs5 : Lay s5 := hFs5.2
    refine x_iconst (v := 0) (dxX11_choose_0 18 rfl) rfl ?_
    refine x_bipush (v := 22) (dxX11_choose_0 19 rfl) rfl ?_
    obtain ⟨n7, hk8, h⟩ := h
    obtain ⟨hc9, h⟩ := h
    refine cl_11_198 (kd_92 hLs5) ((congrFun hKs5 _).trans ((congrFun hKs5 _).symm.trans hk8)) hc9.1 hc9.2.1 hc9.2.2.1 hc9.2.2.2.1 hc9.2.2.2.2 (Nat.le_of_ble_eq_true rfl) (dxX11_choose_0 20 rfl) ?_
    refine x_sto (fun s10 e11 => ?_)
    replace h := h s10 e11
    have hKs10 : kd s10 = kd σ := by rw [e11]; exact hKs5
    have hLs10 : Lay s10 := by rw [e11]; exact hLs5.sa
    refine x_aload_n (i := 0) (dxX11_choose_0 21 rfl) rfl rfl ?_
    refine cl_11_195 (kd_10 hLs10) (Nat.le_of_ble_eq_true rfl) (dxX11_choose_0 22 rfl) h (fun s12 h => ?_) (Nat.le_refl _) (Nat.le_refl _)
    obtain ⟨hFs12, h⟩ := h
    have hKs12 : kd s12 = kd σ := hFs12.1.trans hKs10
    have hLs12 : Lay s12 := hLs10.fr hFs12
    refine x_iconst (v := 1) (dxX11_choose_0 23 rfl) rfl ?_
    exact x_iret (ty := .boolean) rfl rfl (dxX11_choose_0 24 rfl) ⟨_, rfl, h⟩
  · replace h := h.2 hc
    refine x_iconst (v := 0) (dxX11_choose_0 5 rfl) rfl ?_
    exact x_iret (ty := .boolean) rfl rfl (dxX11_choose_0 6 rfl) ⟨_, rfl, h⟩
theorem vcX11_undo {g : GV} {d : Nat} {P : Int32 → PS → Prop} {σ : PS} (hL : Lay σ)  (h : (¬ (mi σ 38 1) = 0 → ∀ s1 : PS, s1 = si σ 38 1 ((mi σ 38 1) - 1) → CX11_settle g d [.ref 10] s1 (fun (s3 : PS) => Fr s1 s3 ∧ P 1 s3)) ∧ ((mi σ 38 1) = 0 → P 0 σ)) : CX11_undo g (d + 1) [.ref 10] σ P := by
  refine x_entry (L := [some (.ref 10)]) pn_11 (Nat.le_of_ble_eq_true rfl) ⟨0, rfl⟩ ?_
  show VX11_undo g (d + 1) P 0 [some (.ref 10)] [] σ
  refine x_aload_n (i := 0) (dxX11_undo_0 0 rfl) rfl rfl ?_
  refine gf_11_36 (kd_10 hL) (rv_10_4 hL) (dxX11_undo_0 1 rfl) ?_
  refine gf_11_204 (kd_38 hL) rfl (dxX11_undo_0 2 rfl) ?_
  refine x_if_ne (tgt := 12) (dxX11_undo_0 3 rfl) (by decide) (fun hc => ?_) (fun hc => ?_)
  · replace h := h.1 hc
    refine x_aload_n (i := 0) (dxX11_undo_0 6 rfl) rfl rfl ?_
    refine gf_11_36 (kd_10 hL) (rv_10_4 hL) (dxX11_undo_0 7 rfl) ?_
    refine x_dup (dxX11_undo_0 8 rfl) rfl ?_
    refine gf_11_204 (kd_38 hL) rfl (dxX11_undo_0 9 rfl) ?_
    refine x_iconst (v := 1) (dxX11_undo_0 10 rfl) rfl ?_
    refine x_isub (dxX11_undo_0 11 rfl) ?_
    refine pf_11_204 (kd_38 hL) (dxX11_undo_0 12 rfl) ?_
    refine x_sto (fun s1 e2 => ?_)
    replace h := h s1 e2
    have hKs1 : kd s1 = kd σ := by rw [e2]; exact (rfl : kd σ = kd σ)
    have hLs1 : Lay s1 := by rw [e2]; exact hL.si
    refine x_aload_n (i := 0) (dxX11_undo_0 13 rfl) rfl rfl ?_
    refine cl_11_195 (kd_10 hLs1) (Nat.le_of_ble_eq_true rfl) (dxX11_undo_0 14 rfl) h (fun s3 h => ?_) (Nat.le_refl _) (Nat.le_refl _)
    obtain ⟨hFs3, h⟩ := h
    have hKs3 : kd s3 = kd σ := hFs3.1.trans hKs1
    have hLs3 : Lay s3 := hLs1.fr hFs3
    refine x_iconst (v := 1) (dxX11_undo_0 15 rfl) rfl ?_
    exact x_iret (ty := .boolean) rfl rfl (dxX11_undo_0 16 rfl) ⟨_, rfl, h⟩
  · replace h := h.2 hc
    refine x_iconst (v := 0) (dxX11_undo_0 4 rfl) rfl ?_
    exact x_iret (ty := .boolean) rfl rfl (dxX11_undo_0 5 rfl) ⟨_, rfl, h⟩
theorem vcX11_redo {g : GV} {d : Nat} {P : Int32 → PS → Prop} {σ : PS} (hL : Lay σ)  (h : (¬ (mi σ 38 1) = (mi σ 38 2) → ∀ s1 : PS, s1 = si σ 38 1 ((mi σ 38 1) + 1) → CX11_settle g d [.ref 10] s1 (fun (s3 : PS) => Fr s1 s3 ∧ P 1 s3)) ∧ ((mi σ 38 1) = (mi σ 38 2) → P 0 σ)) : CX11_redo g (d + 1) [.ref 10] σ P := by
  refine x_entry (L := [some (.ref 10)]) pn_11 (Nat.le_of_ble_eq_true rfl) ⟨0, rfl⟩ ?_
  show VX11_redo g (d + 1) P 0 [some (.ref 10)] [] σ
  refine x_aload_n (i := 0) (dxX11_redo_0 0 rfl) rfl rfl ?_
  refine gf_11_36 (kd_10 hL) (rv_10_4 hL) (dxX11_redo_0 1 rfl) ?_
  refine gf_11_204 (kd_38 hL) rfl (dxX11_redo_0 2 rfl) ?_
  refine x_aload_n (i := 0) (dxX11_redo_0 3 rfl) rfl rfl ?_
  refine gf_11_36 (kd_10 hL) (rv_10_4 hL) (dxX11_redo_0 4 rfl) ?_
  refine gf_11_207 (kd_38 hL) rfl (dxX11_redo_0 5 rfl) ?_
  refine x_icmp_ne (tgt := 19) (dxX11_redo_0 6 rfl) (by decide) (fun hc => ?_) (fun hc => ?_)
  · replace h := h.1 hc
    refine x_aload_n (i := 0) (dxX11_redo_0 9 rfl) rfl rfl ?_
    refine gf_11_36 (kd_10 hL) (rv_10_4 hL) (dxX11_redo_0 10 rfl) ?_
    refine x_dup (dxX11_redo_0 11 rfl) rfl ?_
    refine gf_11_204 (kd_38 hL) rfl (dxX11_redo_0 12 rfl) ?_
    refine x_iconst (v := 1) (dxX11_redo_0 13 rfl) rfl ?_
    refine x_iadd (dxX11_redo_0 14 rfl) ?_
    refine pf_11_204 (kd_38 hL) (dxX11_redo_0 15 rfl) ?_
    refine x_sto (fun s1 e2 => ?_)
    replace h := h s1 e2
    have hKs1 : kd s1 = kd σ := by rw [e2]; exact (rfl : kd σ = kd σ)
    have hLs1 : Lay s1 := by rw [e2]; exact hL.si
    refine x_aload_n (i := 0) (dxX11_redo_0 16 rfl) rfl rfl ?_
    refine cl_11_195 (kd_10 hLs1) (Nat.le_of_ble_eq_true rfl) (dxX11_redo_0 17 rfl) h (fun s3 h => ?_) (Nat.le_refl _) (Nat.le_refl _)
    obtain ⟨hFs3, h⟩ := h
    have hKs3 : kd s3 = kd σ := hFs3.1.trans hKs1
    have hLs3 : Lay s3 := hLs1.fr hFs3
    refine x_iconst (v := 1) (dxX11_redo_0 18 rfl) rfl ?_
    exact x_iret (ty := .boolean) rfl rfl (dxX11_redo_0 19 rfl) ⟨_, rfl, h⟩
  · replace h := h.2 hc
    refine x_iconst (v := 0) (dxX11_redo_0 7 rfl) rfl ?_
    exact x_iret (ty := .boolean) rfl rfl (dxX11_redo_0 8 rfl) ⟨_, rfl, h⟩
theorem vcX11_corner {g : GV} {d : Nat} {P : Int32 → PS → Prop} {σ : PS} (hL : Lay σ) (p0 : Int32) (p1 : Int32) (h : CX4_hasEdge g d [.ref 20, .int p0] σ (fun (v2 : Int32) (s1 : PS) => Fr σ s1 ∧ (¬ v2 = 0 → vp_in p0 22 ∧ ∀ x4 : Int32, x4 = mi s1 82 (Int32.toNatClampNeg p0) → (p1 = 0 → P x4 s1) ∧ (p1 = 1 → vp_in x4 22 ∧ P (mi s1 83 (Int32.toNatClampNeg x4)) s1) ∧ (p1 = 2 → CX3_howMany g d [.ref 81, .int x4] s1 (fun (v8 : Int32) (s7 : PS) => Fr s1 s7 ∧ P v8 s7)) ∧ (¬ p1 = 0 ∧ ¬ p1 = 1 ∧ ¬ p1 = 2 → P (-1) s1)) ∧ (v2 = 0 → P (-1) s1))) : CX11_corner g (d + 1) [.ref 10, .int p0, .int p1] σ P := by
  refine x_entry (L := [some (.ref 10), some (.int p0), some (.int p1), none]) pn_11 (Nat.le_of_ble_eq_true rfl) ⟨1, rfl⟩ ?_
  show VX11_corner g (d + 1) P 0 [some (.ref 10), some (.int p0), some (.int p1), none] [] σ
  refine x_aload_n (i := 0) (dxX11_corner_0 0 rfl) rfl rfl ?_
  refine gf_11_26 (kd_10 hL) (rv_10_2 hL) (dxX11_corner_0 1 rfl) ?_
  refine x_iload_n (i := 1) (dxX11_corner_0 2 rfl) rfl rfl ?_
  refine cl_11_135 (kd_20 hL) (Nat.le_of_ble_eq_true rfl) (dxX11_corner_0 3 rfl) h (fun v2 s1 h => ?_) (Nat.le_refl _) (Nat.le_refl _)
  obtain ⟨hFs1, h⟩ := h
  have hKs1 : kd s1 = kd σ := hFs1.1.trans (rfl : kd σ = kd σ)
  have hLs1 : Lay s1 := hL.fr hFs1
  refine x_if_ne (tgt := 13) (dxX11_corner_0 4 rfl) (by decide) (fun hc => ?_) (fun hc => ?_)
  · replace h := h.1 hc
    refine x_aload_n (i := 0) (dxX11_corner_0 7 rfl) rfl rfl ?_
    refine gf_11_43 (kd_10 hLs1) (rv_10_5 hLs1) (dxX11_corner_0 8 rfl) ?_
    refine gf_11_210 (kd_81 hLs1) (rv_81_1 hLs1) (dxX11_corner_0 9 rfl) ?_
    refine x_iload_n (i := 1) (dxX11_corner_0 10 rfl) rfl rfl ?_
    obtain ⟨hi3, h⟩ := h
    refine x_iald (kd_82 hLs1) hi3 (dxX11_corner_0 11 rfl) ?_
    refine x_topi (fun x4 e5 => ?_)
    replace h := h x4 e5
    refine x_istore_n (i := 3) (dxX11_corner_0 12 rfl) rfl (Nat.le_of_ble_eq_true rfl) rfl rfl ?_
    refine x_iload_n (i := 2) (dxX11_corner_0 13 rfl) rfl rfl ?_
    by_cases hx0 : p1 = 0
    · replace h := h.1 hx0
      refine x_tableIn (tgt := 52) (dxX11_corner_0 14 rfl) (by rw [hx0]; decide) (by rw [hx0]; decide) (by rw [hx0]; rfl) (by decide) ?_
      refine x_iload_n (i := 3) (dxX11_corner_0 15 rfl) rfl rfl ?_
      exact x_iret (ty := .int) rfl rfl (dxX11_corner_0 16 rfl) ⟨_, rfl, h⟩
    by_cases hx1 : p1 = 1
    · replace h := h.2.1 hx1
      refine x_tableIn (tgt := 54) (dxX11_corner_0 14 rfl) (by rw [hx1]; decide) (by rw [hx1]; decide) (by rw [hx1]; rfl) (by decide) ?_
      refine x_aload_n (i := 0) (dxX11_corner_0 17 rfl) rfl rfl ?_
      refine gf_11_43 (kd_10 hLs1) (rv_10_5 hLs1) (dxX11_corner_0 18 rfl) ?_
      refine gf_11_213 (kd_81 hLs1) (rv_81_2 hLs1) (dxX11_corner_0 19 rfl) ?_
      refine x_iload_n (i := 3) (dxX11_corner_0 20 rfl) rfl rfl ?_
      obtain ⟨hi6, h⟩ := h
      refine x_iald (kd_83 hLs1) hi6 (dxX11_corner_0 21 rfl) ?_
      exact x_iret (ty := .int) rfl rfl (dxX11_corner_0 22 rfl) ⟨_, rfl, h⟩
    by_cases hx2 : p1 = 2
    · replace h := h.2.2.1 hx2
      refine x_tableIn (tgt := 64) (dxX11_corner_0 14 rfl) (by rw [hx2]; decide) (by rw [hx2]; decide) (by rw [hx2]; rfl) (by decide) ?_
      refine x_aload_n (i := 0) (dxX11_corner_0 23 rfl) rfl rfl ?_
      refine gf_11_43 (kd_10 hLs1) (rv_10_5 hLs1) (dxX11_corner_0 24 rfl) ?_
      refine x_iload_n (i := 3) (dxX11_corner_0 25 rfl) rfl rfl ?_
      refine cl_11_214 (kd_81 hLs1) (Nat.le_of_ble_eq_true rfl) (dxX11_corner_0 26 rfl) h (fun v8 s7 h => ?_) (Nat.le_refl _) (Nat.le_refl _)
      obtain ⟨hFs7, h⟩ := h
      have hKs7 : kd s7 = kd σ := hFs7.1.trans hKs1
      have hLs7 : Lay s7 := hLs1.fr hFs7
      exact x_iret (ty := .int) rfl rfl (dxX11_corner_0 27 rfl) ⟨_, rfl, h⟩
    replace h := h.2.2.2 ⟨hx0, hx1, hx2⟩
    refine x_tableOut (tgt := 73) (dxX11_corner_0 14 rfl) (tab_out (n := 2) (by decide) (fun j hj => by rcases (show j = 0 ∨ j = 1 ∨ j = 2 by omega) with rfl | rfl | rfl <;> assumption)) (by decide) ?_
    refine x_iconst (v := (-1)) (dxX11_corner_0 28 rfl) rfl ?_
    exact x_iret (ty := .int) rfl rfl (dxX11_corner_0 29 rfl) ⟨_, rfl, h⟩
  · replace h := h.2 hc
    refine x_iconst (v := (-1)) (dxX11_corner_0 5 rfl) rfl ?_
    exact x_iret (ty := .int) rfl rfl (dxX11_corner_0 6 rfl) ⟨_, rfl, h⟩
theorem vcX11_lacking {g : GV} {d : Nat} {P : Int32 → PS → Prop} {σ : PS} (hL : Lay σ) (p0 : Int32) (h : CX11_isBody g d [.ref 10] σ (fun (v2 : Int32) (s1 : PS) => Fr σ s1 ∧ (v2 = 0 → P (-1) s1) ∧ (¬ v2 = 0 → (p0 < 1 → P (-1) s1) ∧ (¬ p0 < 1 → (p0 ≤ 3 → CX3_howManyOf g d [.ref 81, .int (4 - p0)] s1 (fun (v4 : Int32) (s3 : PS) => Fr s1 s3 ∧ P v4 s3)) ∧ (¬ p0 ≤ 3 → P (-1) s1))))) : CX11_lacking g (d + 1) [.ref 10, .int p0] σ P := by
  refine x_entry (L := [some (.ref 10), some (.int p0)]) pn_11 (Nat.le_of_ble_eq_true rfl) ⟨0, rfl⟩ ?_
  show VX11_lacking g (d + 1) P 0 [some (.ref 10), some (.int p0)] [] σ
  refine x_aload_n (i := 0) (dxX11_lacking_0 0 rfl) rfl rfl ?_
  refine cl_11_218 (kd_10 hL) (Nat.le_of_ble_eq_true rfl) (dxX11_lacking_0 1 rfl) h (fun v2 s1 h => ?_) (Nat.le_refl _) (Nat.le_refl _)
  obtain ⟨hFs1, h⟩ := h
  have hKs1 : kd s1 = kd σ := hFs1.1.trans (rfl : kd σ = kd σ)
  have hLs1 : Lay s1 := hL.fr hFs1
  refine x_if_eq (tgt := 17) (dxX11_lacking_0 2 rfl) (by decide) (fun hc => ?_) (fun hc => ?_)
  · replace h := h.1 hc
    refine x_iconst (v := (-1)) (dxX11_lacking_0 9 rfl) rfl ?_
    exact x_iret (ty := .int) rfl rfl (dxX11_lacking_0 10 rfl) ⟨_, rfl, h⟩
  · replace h := h.2 hc
    refine x_iload_n (i := 1) (dxX11_lacking_0 3 rfl) rfl rfl ?_
    refine x_iconst (v := 1) (dxX11_lacking_0 4 rfl) rfl ?_
    refine x_icmp_lt (tgt := 17) (dxX11_lacking_0 5 rfl) (by decide) (fun hc => ?_) (fun hc => ?_)
    · replace h := h.1 hc
      refine x_iconst (v := (-1)) (dxX11_lacking_0 9 rfl) rfl ?_
      exact x_iret (ty := .int) rfl rfl (dxX11_lacking_0 10 rfl) ⟨_, rfl, h⟩
    · replace h := h.2 hc
      refine x_iload_n (i := 1) (dxX11_lacking_0 6 rfl) rfl rfl ?_
      refine x_iconst (v := 3) (dxX11_lacking_0 7 rfl) rfl ?_
      refine x_icmp_le (tgt := 19) (dxX11_lacking_0 8 rfl) (by decide) (fun hc => ?_) (fun hc => ?_)
      · replace h := h.1 hc
        refine x_aload_n (i := 0) (dxX11_lacking_0 11 rfl) rfl rfl ?_
        refine gf_11_43 (kd_10 hLs1) (rv_10_5 hLs1) (dxX11_lacking_0 12 rfl) ?_
        refine x_iconst (v := 4) (dxX11_lacking_0 13 rfl) rfl ?_
        refine x_iload_n (i := 1) (dxX11_lacking_0 14 rfl) rfl rfl ?_
        refine x_isub (dxX11_lacking_0 15 rfl) ?_
        refine cl_11_222 (kd_81 hLs1) (Nat.le_of_ble_eq_true rfl) (dxX11_lacking_0 16 rfl) h (fun v4 s3 h => ?_) (Nat.le_refl _) (Nat.le_refl _)
        obtain ⟨hFs3, h⟩ := h
        have hKs3 : kd s3 = kd σ := hFs3.1.trans hKs1
        have hLs3 : Lay s3 := hLs1.fr hFs3
        exact x_iret (ty := .int) rfl rfl (dxX11_lacking_0 17 rfl) ⟨_, rfl, h⟩
      · replace h := h.2 hc
        refine x_iconst (v := (-1)) (dxX11_lacking_0 9 rfl) rfl ?_
        exact x_iret (ty := .int) rfl rfl (dxX11_lacking_0 10 rfl) ⟨_, rfl, h⟩
theorem vcX11_beyond {g : GV} {d : Nat} {P : Int32 → PS → Prop} {σ : PS} (hL : Lay σ) (p0 : Int32) (p1 : Int32) (p2 : Int32) (h : CX11_isBody g d [.ref 10] σ (fun (v2 : Int32) (s1 : PS) => Fr σ s1 ∧ (v2 = 0 → P (-1) s1) ∧ (¬ v2 = 0 → CX2_hasCell g d [.ref 129, .int p0] s1 (fun (v4 : Int32) (s3 : PS) => Fr s1 s3 ∧ (v4 = 0 → P (-1) s3) ∧ (¬ v4 = 0 → (p1 < 0 → P (-1) s3) ∧ (¬ p1 < 0 → (p1 ≤ 3 → ∀ x5 : Int32, x5 = (p0 * 4) + p1 → (p2 = 0 → vp_in x5 40 ∧ P (mi s3 130 (Int32.toNatClampNeg x5)) s3) ∧ (p2 = 1 → vp_in x5 40 ∧ P (mi s3 131 (Int32.toNatClampNeg x5)) s3) ∧ (p2 = 2 → vp_in x5 40 ∧ P (mi s3 132 (Int32.toNatClampNeg x5)) s3) ∧ (¬ p2 = 0 ∧ ¬ p2 = 1 ∧ ¬ p2 = 2 → P (-1) s3)) ∧ (¬ p1 ≤ 3 → P (-1) s3))))))) : CX11_beyond g (d + 1) [.ref 10, .int p0, .int p1, .int p2] σ P := by
  refine x_entry (L := [some (.ref 10), some (.int p0), some (.int p1), some (.int p2), none]) pn_11 (Nat.le_of_ble_eq_true rfl) ⟨1, rfl⟩ ?_
  show VX11_beyond g (d + 1) P 0 [some (.ref 10), some (.int p0), some (.int p1), some (.int p2), none] [] σ
  refine x_aload_n (i := 0) (dxX11_beyond_0 0 rfl) rfl rfl ?_
  refine cl_11_218 (kd_10 hL) (Nat.le_of_ble_eq_true rfl) (dxX11_beyond_0 1 rfl) h (fun v2 s1 h => ?_) (Nat.le_refl _) (Nat.le_refl _)
  obtain ⟨hFs1, h⟩ := h
  have hKs1 : kd s1 = kd σ := hFs1.1.trans (rfl : kd σ = kd σ)
  have hLs1 : Lay s1 := hL.fr hFs1
  refine x_if_eq (tgt := 27) (dxX11_beyond_0 2 rfl) (by decide) (fun hc => ?_) (fun hc => ?_)
  · replace h := h.1 hc
    refine x_iconst (v := (-1)) (dxX11_beyond_0 13 rfl) rfl ?_
    exact x_iret (ty := .int) rfl rfl (dxX11_beyond_0 14 rfl) ⟨_, rfl, h⟩
  · replace h := h.2 hc
    refine x_aload_n (i := 0) (dxX11_beyond_0 3 rfl) rfl rfl ?_
    refine gf_11_62 (kd_10 hLs1) (rv_10_8 hLs1) (dxX11_beyond_0 4 rfl) ?_
    refine x_iload_n (i := 1) (dxX11_beyond_0 5 rfl) rfl rfl ?_
    refine cl_11_225 (kd_129 hLs1) (Nat.le_of_ble_eq_true rfl) (dxX11_beyond_0 6 rfl) h (fun v4 s3 h => ?_) (Nat.le_refl _) (Nat.le_refl _)
    obtain ⟨hFs3, h⟩ := h
    have hKs3 : kd s3 = kd σ := hFs3.1.trans hKs1
    have hLs3 : Lay s3 := hLs1.fr hFs3
    refine x_if_eq (tgt := 27) (dxX11_beyond_0 7 rfl) (by decide) (fun hc => ?_) (fun hc => ?_)
    · replace h := h.1 hc
      refine x_iconst (v := (-1)) (dxX11_beyond_0 13 rfl) rfl ?_
      exact x_iret (ty := .int) rfl rfl (dxX11_beyond_0 14 rfl) ⟨_, rfl, h⟩
    · replace h := h.2 hc
      refine x_iload_n (i := 2) (dxX11_beyond_0 8 rfl) rfl rfl ?_
      refine x_if_lt (tgt := 27) (dxX11_beyond_0 9 rfl) (by decide) (fun hc => ?_) (fun hc => ?_)
      · replace h := h.1 hc
        refine x_iconst (v := (-1)) (dxX11_beyond_0 13 rfl) rfl ?_
        exact x_iret (ty := .int) rfl rfl (dxX11_beyond_0 14 rfl) ⟨_, rfl, h⟩
      · replace h := h.2 hc
        refine x_iload_n (i := 2) (dxX11_beyond_0 10 rfl) rfl rfl ?_
        refine x_iconst (v := 3) (dxX11_beyond_0 11 rfl) rfl ?_
        refine x_icmp_le (tgt := 29) (dxX11_beyond_0 12 rfl) (by decide) (fun hc => ?_) (fun hc => ?_)
        · replace h := h.1 hc
          refine x_iload_n (i := 1) (dxX11_beyond_0 15 rfl) rfl rfl ?_
          refine x_iconst (v := 4) (dxX11_beyond_0 16 rfl) rfl ?_
          refine x_imul (dxX11_beyond_0 17 rfl) ?_
          refine x_iload_n (i := 2) (dxX11_beyond_0 18 rfl) rfl rfl ?_
          refine x_iadd (dxX11_beyond_0 19 rfl) ?_
          refine x_topi (fun x5 e6 => ?_)
          replace h := h x5 e6
          refine x_istore (dxX11_beyond_0 20 rfl) (Nat.le_of_ble_eq_true rfl) rfl rfl ?_
          refine x_iload_n (i := 3) (dxX11_beyond_0 21 rfl) rfl rfl ?_
          by_cases hx0 : p2 = 0
          · replace h := h.1 hx0
            refine x_tableIn (tgt := 64) (dxX11_beyond_0 22 rfl) (by rw [hx0]; decide) (by rw [hx0]; decide) (by rw [hx0]; rfl) (by decide) ?_
            refine x_aload_n (i := 0) (dxX11_beyond_0 23 rfl) rfl rfl ?_
            refine gf_11_62 (kd_10 hLs3) (rv_10_8 hLs3) (dxX11_beyond_0 24 rfl) ?_
            refine gf_11_226 (kd_129 hLs3) (rv_129_1 hLs3) (dxX11_beyond_0 25 rfl) ?_
            refine x_iload (dxX11_beyond_0 26 rfl) rfl ?_
            obtain ⟨hi7, h⟩ := h
            refine x_iald (kd_130 hLs3) hi7 (dxX11_beyond_0 27 rfl) ?_
            exact x_iret (ty := .int) rfl rfl (dxX11_beyond_0 28 rfl) ⟨_, rfl, h⟩
          by_cases hx1 : p2 = 1
          · replace h := h.2.1 hx1
            refine x_tableIn (tgt := 75) (dxX11_beyond_0 22 rfl) (by rw [hx1]; decide) (by rw [hx1]; decide) (by rw [hx1]; rfl) (by decide) ?_
            refine x_aload_n (i := 0) (dxX11_beyond_0 29 rfl) rfl rfl ?_
            refine gf_11_62 (kd_10 hLs3) (rv_10_8 hLs3) (dxX11_beyond_0 30 rfl) ?_
            refine gf_11_229 (kd_129 hLs3) (rv_129_2 hLs3) (dxX11_beyond_0 31 rfl) ?_
            refine x_iload (dxX11_beyond_1 0 rfl) rfl ?_
            obtain ⟨hi8, h⟩ := h
            refine x_iald (kd_131 hLs3) hi8 (dxX11_beyond_1 1 rfl) ?_
            exact x_iret (ty := .int) rfl rfl (dxX11_beyond_1 2 rfl) ⟨_, rfl, h⟩
          by_cases hx2 : p2 = 2
          · replace h := h.2.2.1 hx2
            refine x_tableIn (tgt := 86) (dxX11_beyond_0 22 rfl) (by rw [hx2]; decide) (by rw [hx2]; decide) (by rw [hx2]; rfl) (by decide) ?_
            refine x_aload_n (i := 0) (dxX11_beyond_1 3 rfl) rfl rfl ?_
            refine gf_11_62 (kd_10 hLs3) (rv_10_8 hLs3) (dxX11_beyond_1 4 rfl) ?_
            refine gf_11_232 (kd_129 hLs3) (rv_129_3 hLs3) (dxX11_beyond_1 5 rfl) ?_
            refine x_iload (dxX11_beyond_1 6 rfl) rfl ?_
            obtain ⟨hi9, h⟩ := h
            refine x_iald (kd_132 hLs3) hi9 (dxX11_beyond_1 7 rfl) ?_
            exact x_iret (ty := .int) rfl rfl (dxX11_beyond_1 8 rfl) ⟨_, rfl, h⟩
          replace h := h.2.2.2 ⟨hx0, hx1, hx2⟩
          refine x_tableOut (tgt := 97) (dxX11_beyond_0 22 rfl) (tab_out (n := 2) (by decide) (fun j hj => by rcases (show j = 0 ∨ j = 1 ∨ j = 2 by omega) with rfl | rfl | rfl <;> assumption)) (by decide) ?_
          refine x_iconst (v := (-1)) (dxX11_beyond_1 9 rfl) rfl ?_
          exact x_iret (ty := .int) rfl rfl (dxX11_beyond_1 10 rfl) ⟨_, rfl, h⟩
        · replace h := h.2 hc
          refine x_iconst (v := (-1)) (dxX11_beyond_0 13 rfl) rfl ?_
          exact x_iret (ty := .int) rfl rfl (dxX11_beyond_0 14 rfl) ⟨_, rfl, h⟩
theorem vcX11_same {g : GV} {d : Nat} {P : Int32 → PS → Prop} {σ : PS} (hL : Lay σ) (p0 : Int32) (p1 : Int32) (h : CX5_has g d [.ref 87, .int p0] σ (fun (v2 : Int32) (s1 : PS) => Fr σ s1 ∧ (v2 = 0 → P (-1) s1) ∧ (¬ v2 = 0 → CX5_has g d [.ref 87, .int p1] s1 (fun (v4 : Int32) (s3 : PS) => Fr s1 s3 ∧ (¬ v4 = 0 → CX1_areAlike g d [.ref 133, .int p0, .int p1] s3 (fun (v6 : Int32) (s5 : PS) => Fr s3 s5 ∧ (v6 = 0 → P 0 s5) ∧ (¬ v6 = 0 → P 1 s5))) ∧ (v4 = 0 → P (-1) s3))))) : CX11_same g (d + 1) [.ref 10, .int p0, .int p1] σ P := by
  refine x_entry (L := [some (.ref 10), some (.int p0), some (.int p1)]) pn_11 (Nat.le_of_ble_eq_true rfl) ⟨0, rfl⟩ ?_
  show VX11_same g (d + 1) P 0 [some (.ref 10), some (.int p0), some (.int p1)] [] σ
  refine x_aload_n (i := 0) (dxX11_same_0 0 rfl) rfl rfl ?_
  refine gf_11_55 (kd_10 hL) (rv_10_7 hL) (dxX11_same_0 1 rfl) ?_
  refine x_iload_n (i := 1) (dxX11_same_0 2 rfl) rfl rfl ?_
  refine cl_11_161 (kd_87 hL) (Nat.le_of_ble_eq_true rfl) (dxX11_same_0 3 rfl) h (fun v2 s1 h => ?_) (Nat.le_refl _) (Nat.le_refl _)
  obtain ⟨hFs1, h⟩ := h
  have hKs1 : kd s1 = kd σ := hFs1.1.trans (rfl : kd σ = kd σ)
  have hLs1 : Lay s1 := hL.fr hFs1
  refine x_if_eq (tgt := 22) (dxX11_same_0 4 rfl) (by decide) (fun hc => ?_) (fun hc => ?_)
  · replace h := h.1 hc
    refine x_iconst (v := (-1)) (dxX11_same_0 10 rfl) rfl ?_
    exact x_iret (ty := .int) rfl rfl (dxX11_same_0 11 rfl) ⟨_, rfl, h⟩
  · replace h := h.2 hc
    refine x_aload_n (i := 0) (dxX11_same_0 5 rfl) rfl rfl ?_
    refine gf_11_55 (kd_10 hLs1) (rv_10_7 hLs1) (dxX11_same_0 6 rfl) ?_
    refine x_iload_n (i := 2) (dxX11_same_0 7 rfl) rfl rfl ?_
    refine cl_11_161 (kd_87 hLs1) (Nat.le_of_ble_eq_true rfl) (dxX11_same_0 8 rfl) h (fun v4 s3 h => ?_) (Nat.le_refl _) (Nat.le_refl _)
    obtain ⟨hFs3, h⟩ := h
    have hKs3 : kd s3 = kd σ := hFs3.1.trans hKs1
    have hLs3 : Lay s3 := hLs1.fr hFs3
    refine x_if_ne (tgt := 24) (dxX11_same_0 9 rfl) (by decide) (fun hc => ?_) (fun hc => ?_)
    · replace h := h.1 hc
      refine x_aload_n (i := 0) (dxX11_same_0 12 rfl) rfl rfl ?_
      refine gf_11_71 (kd_10 hLs3) (rv_10_9 hLs3) (dxX11_same_0 13 rfl) ?_
      refine x_iload_n (i := 1) (dxX11_same_0 14 rfl) rfl rfl ?_
      refine x_iload_n (i := 2) (dxX11_same_0 15 rfl) rfl rfl ?_
      refine cl_11_235 (kd_133 hLs3) (Nat.le_of_ble_eq_true rfl) (dxX11_same_0 16 rfl) h (fun v6 s5 h => ?_) (Nat.le_refl _) (Nat.le_refl _)
      obtain ⟨hFs5, h⟩ := h
      have hKs5 : kd s5 = kd σ := hFs5.1.trans hKs3
      have hLs5 : Lay s5 := hLs3.fr hFs5
      refine x_if_eq (tgt := 40) (dxX11_same_0 17 rfl) (by decide) (fun hc => ?_) (fun hc => ?_)
      · replace h := h.1 hc
        refine x_iconst (v := 0) (dxX11_same_0 20 rfl) rfl ?_
        exact x_iret (ty := .int) rfl rfl (dxX11_same_0 21 rfl) ⟨_, rfl, h⟩
      · replace h := h.2 hc
        refine x_iconst (v := 1) (dxX11_same_0 18 rfl) rfl ?_
        refine x_goto (tgt := 41) (dxX11_same_0 19 rfl) (by decide) ?_
        exact x_iret (ty := .int) rfl rfl (dxX11_same_0 21 rfl) ⟨_, rfl, h⟩
    · replace h := h.2 hc
      refine x_iconst (v := (-1)) (dxX11_same_0 10 rfl) rfl ?_
      exact x_iret (ty := .int) rfl rfl (dxX11_same_0 11 rfl) ⟨_, rfl, h⟩
theorem vcX11_bodyOf {g : GV} {d : Nat} {P : Int32 → PS → Prop} {σ : PS} (hL : Lay σ) (p0 : Int32) (h : CX5_has g d [.ref 87, .int p0] σ (fun (v2 : Int32) (s1 : PS) => Fr σ s1 ∧ (v2 = 0 → P (-1) s1) ∧ (¬ v2 = 0 → CX1_work g d [.ref 133] s1 (fun (v4 : Int32) (s3 : PS) => Fr s1 s3 ∧ (¬ v4 = 0 → CX1_leastAlike g d [.ref 133, .int p0] s3 (fun (v6 : Int32) (s5 : PS) => Fr s3 s5 ∧ P v6 s5)) ∧ (v4 = 0 → P (-1) s3))))) : CX11_bodyOf g (d + 1) [.ref 10, .int p0] σ P := by
  refine x_entry (L := [some (.ref 10), some (.int p0)]) pn_11 (Nat.le_of_ble_eq_true rfl) ⟨0, rfl⟩ ?_
  show VX11_bodyOf g (d + 1) P 0 [some (.ref 10), some (.int p0)] [] σ
  refine x_aload_n (i := 0) (dxX11_bodyOf_0 0 rfl) rfl rfl ?_
  refine gf_11_55 (kd_10 hL) (rv_10_7 hL) (dxX11_bodyOf_0 1 rfl) ?_
  refine x_iload_n (i := 1) (dxX11_bodyOf_0 2 rfl) rfl rfl ?_
  refine cl_11_161 (kd_87 hL) (Nat.le_of_ble_eq_true rfl) (dxX11_bodyOf_0 3 rfl) h (fun v2 s1 h => ?_) (Nat.le_refl _) (Nat.le_refl _)
  obtain ⟨hFs1, h⟩ := h
  have hKs1 : kd s1 = kd σ := hFs1.1.trans (rfl : kd σ = kd σ)
  have hLs1 : Lay s1 := hL.fr hFs1
  refine x_if_eq (tgt := 21) (dxX11_bodyOf_0 4 rfl) (by decide) (fun hc => ?_) (fun hc => ?_)
  · replace h := h.1 hc
    refine x_iconst (v := (-1)) (dxX11_bodyOf_0 9 rfl) rfl ?_
    exact x_iret (ty := .int) rfl rfl (dxX11_bodyOf_0 10 rfl) ⟨_, rfl, h⟩
  · replace h := h.2 hc
    refine x_aload_n (i := 0) (dxX11_bodyOf_0 5 rfl) rfl rfl ?_
    refine gf_11_71 (kd_10 hLs1) (rv_10_9 hLs1) (dxX11_bodyOf_0 6 rfl) ?_
    refine cl_11_238 (kd_133 hLs1) (Nat.le_of_ble_eq_true rfl) (dxX11_bodyOf_0 7 rfl) h (fun v4 s3 h => ?_) (Nat.le_refl _) (Nat.le_refl _)
    obtain ⟨hFs3, h⟩ := h
    have hKs3 : kd s3 = kd σ := hFs3.1.trans hKs1
    have hLs3 : Lay s3 := hLs1.fr hFs3
    refine x_if_ne (tgt := 23) (dxX11_bodyOf_0 8 rfl) (by decide) (fun hc => ?_) (fun hc => ?_)
    · replace h := h.1 hc
      refine x_aload_n (i := 0) (dxX11_bodyOf_0 11 rfl) rfl rfl ?_
      refine gf_11_71 (kd_10 hLs3) (rv_10_9 hLs3) (dxX11_bodyOf_0 12 rfl) ?_
      refine x_iload_n (i := 1) (dxX11_bodyOf_0 13 rfl) rfl rfl ?_
      refine cl_11_240 (kd_133 hLs3) (Nat.le_of_ble_eq_true rfl) (dxX11_bodyOf_0 14 rfl) h (fun v6 s5 h => ?_) (Nat.le_refl _) (Nat.le_refl _)
      obtain ⟨hFs5, h⟩ := h
      have hKs5 : kd s5 = kd σ := hFs5.1.trans hKs3
      have hLs5 : Lay s5 := hLs3.fr hFs5
      exact x_iret (ty := .int) rfl rfl (dxX11_bodyOf_0 15 rfl) ⟨_, rfl, h⟩
    · replace h := h.2 hc
      refine x_iconst (v := (-1)) (dxX11_bodyOf_0 9 rfl) rfl ?_
      exact x_iret (ty := .int) rfl rfl (dxX11_bodyOf_0 10 rfl) ⟨_, rfl, h⟩
theorem vcX11_bodies {g : GV} {d : Nat} {P : Int32 → PS → Prop} {σ : PS} (hL : Lay σ)  (h : CX1_work g d [.ref 133] σ (fun (v2 : Int32) (s1 : PS) => Fr σ s1 ∧ (v2 = 0 → P (-1) s1) ∧ (¬ v2 = 0 → P (mi s1 133 11) s1))) : CX11_bodies g (d + 1) [.ref 10] σ P := by
  refine x_entry (L := [some (.ref 10)]) pn_11 (Nat.le_of_ble_eq_true rfl) ⟨0, rfl⟩ ?_
  show VX11_bodies g (d + 1) P 0 [some (.ref 10)] [] σ
  refine x_aload_n (i := 0) (dxX11_bodies_0 0 rfl) rfl rfl ?_
  refine gf_11_71 (kd_10 hL) (rv_10_9 hL) (dxX11_bodies_0 1 rfl) ?_
  refine cl_11_238 (kd_133 hL) (Nat.le_of_ble_eq_true rfl) (dxX11_bodies_0 2 rfl) h (fun v2 s1 h => ?_) (Nat.le_refl _) (Nat.le_refl _)
  obtain ⟨hFs1, h⟩ := h
  have hKs1 : kd s1 = kd σ := hFs1.1.trans (rfl : kd σ = kd σ)
  have hLs1 : Lay s1 := hL.fr hFs1
  refine x_if_eq (tgt := 20) (dxX11_bodies_0 3 rfl) (by decide) (fun hc => ?_) (fun hc => ?_)
  · replace h := h.1 hc
    refine x_iconst (v := (-1)) (dxX11_bodies_0 8 rfl) rfl ?_
    exact x_iret (ty := .int) rfl rfl (dxX11_bodies_0 9 rfl) ⟨_, rfl, h⟩
  · replace h := h.2 hc
    refine x_aload_n (i := 0) (dxX11_bodies_0 4 rfl) rfl rfl ?_
    refine gf_11_71 (kd_10 hLs1) (rv_10_9 hLs1) (dxX11_bodies_0 5 rfl) ?_
    refine gf_11_243 (kd_133 hLs1) rfl (dxX11_bodies_0 6 rfl) ?_
    refine x_goto (tgt := 21) (dxX11_bodies_0 7 rfl) (by decide) ?_
    exact x_iret (ty := .int) rfl rfl (dxX11_bodies_0 9 rfl) ⟨_, rfl, h⟩
theorem vcX11_way {g : GV} {d : Nat} {P : Int32 → PS → Prop} {σ : PS} (hL : Lay σ) (p0 : Int32) (p1 : Int32) (p2 : Int32) (p3 : Int32) (h : CX11_isBody g d [.ref 10] σ (fun (v2 : Int32) (s1 : PS) => Fr σ s1 ∧ (v2 = 0 → P (-1) s1) ∧ (¬ v2 = 0 → CX2_hasCell g d [.ref 129, .int p0] s1 (fun (v4 : Int32) (s3 : PS) => Fr s1 s3 ∧ (v4 = 0 → P (-1) s3) ∧ (¬ v4 = 0 → CX10_isNear g d [.int p1] s3 (fun (v6 : Int32) (s5 : PS) => Fr s3 s5 ∧ (v6 = 0 → P (-1) s5) ∧ (¬ v6 = 0 → CX10_isNear g d [.int p2] s5 (fun (v8 : Int32) (s7 : PS) => Fr s5 s7 ∧ (¬ v8 = 0 → (p3 < 0 → P (-1) s7) ∧ (¬ p3 < 0 → (1 < p3 → P (-1) s7) ∧ (¬ 1 < p3 → CX10_go g d [.ref 144, .int p0, .int p1, .int p2] s7 (fun (v10 : Int32) (s9 : PS) => Fr s7 s9 ∧ (¬ v10 = 0 → (¬ p3 = 0 → P (mi s9 144 2) s9) ∧ (p3 = 0 → P (mi s9 144 1) s9)) ∧ (v10 = 0 → P (-1) s9))))) ∧ (v8 = 0 → P (-1) s7))))))))) : CX11_way g (d + 1) [.ref 10, .int p0, .int p1, .int p2, .int p3] σ P := by
  refine x_entry (L := [some (.ref 10), some (.int p0), some (.int p1), some (.int p2), some (.int p3)]) pn_11 (Nat.le_of_ble_eq_true rfl) ⟨0, rfl⟩ ?_
  show VX11_way g (d + 1) P 0 [some (.ref 10), some (.int p0), some (.int p1), some (.int p2), some (.int p3)] [] σ
  refine x_aload_n (i := 0) (dxX11_way_0 0 rfl) rfl rfl ?_
  refine cl_11_218 (kd_10 hL) (Nat.le_of_ble_eq_true rfl) (dxX11_way_0 1 rfl) h (fun v2 s1 h => ?_) (Nat.le_refl _) (Nat.le_refl _)
  obtain ⟨hFs1, h⟩ := h
  have hKs1 : kd s1 = kd σ := hFs1.1.trans (rfl : kd σ = kd σ)
  have hLs1 : Lay s1 := hL.fr hFs1
  refine x_if_eq (tgt := 32) (dxX11_way_0 2 rfl) (by decide) (fun hc => ?_) (fun hc => ?_)
  · replace h := h.1 hc
    refine x_iconst (v := (-1)) (dxX11_way_0 14 rfl) rfl ?_
    exact x_iret (ty := .int) rfl rfl (dxX11_way_0 15 rfl) ⟨_, rfl, h⟩
  · replace h := h.2 hc
    refine x_aload_n (i := 0) (dxX11_way_0 3 rfl) rfl rfl ?_
    refine gf_11_62 (kd_10 hLs1) (rv_10_8 hLs1) (dxX11_way_0 4 rfl) ?_
    refine x_iload_n (i := 1) (dxX11_way_0 5 rfl) rfl rfl ?_
    refine cl_11_225 (kd_129 hLs1) (Nat.le_of_ble_eq_true rfl) (dxX11_way_0 6 rfl) h (fun v4 s3 h => ?_) (Nat.le_refl _) (Nat.le_refl _)
    obtain ⟨hFs3, h⟩ := h
    have hKs3 : kd s3 = kd σ := hFs3.1.trans hKs1
    have hLs3 : Lay s3 := hLs1.fr hFs3
    refine x_if_eq (tgt := 32) (dxX11_way_0 7 rfl) (by decide) (fun hc => ?_) (fun hc => ?_)
    · replace h := h.1 hc
      refine x_iconst (v := (-1)) (dxX11_way_0 14 rfl) rfl ?_
      exact x_iret (ty := .int) rfl rfl (dxX11_way_0 15 rfl) ⟨_, rfl, h⟩
    · replace h := h.2 hc
      refine x_iload_n (i := 2) (dxX11_way_0 8 rfl) rfl rfl ?_
      refine cl_11_246 (Nat.le_of_ble_eq_true rfl) (dxX11_way_0 9 rfl) h (fun v6 s5 h => ?_) (Nat.le_refl _) (Nat.le_refl _)
      obtain ⟨hFs5, h⟩ := h
      have hKs5 : kd s5 = kd σ := hFs5.1.trans hKs3
      have hLs5 : Lay s5 := hLs3.fr hFs5
      refine x_if_eq (tgt := 32) (dxX11_way_0 10 rfl) (by decide) (fun hc => ?_) (fun hc => ?_)
      · replace h := h.1 hc
        refine x_iconst (v := (-1)) (dxX11_way_0 14 rfl) rfl ?_
        exact x_iret (ty := .int) rfl rfl (dxX11_way_0 15 rfl) ⟨_, rfl, h⟩
      · replace h := h.2 hc
        refine x_iload_n (i := 3) (dxX11_way_0 11 rfl) rfl rfl ?_
        refine cl_11_246 (Nat.le_of_ble_eq_true rfl) (dxX11_way_0 12 rfl) h (fun v8 s7 h => ?_) (Nat.le_refl _) (Nat.le_refl _)
        obtain ⟨hFs7, h⟩ := h
        have hKs7 : kd s7 = kd σ := hFs7.1.trans hKs5
        have hLs7 : Lay s7 := hLs5.fr hFs7
        refine x_if_ne (tgt := 34) (dxX11_way_0 13 rfl) (by decide) (fun hc => ?_) (fun hc => ?_)
        · replace h := h.1 hc
          refine x_iload (dxX11_way_0 16 rfl) rfl ?_
          refine x_if_lt (tgt := 58) (dxX11_way_0 17 rfl) (by decide) (fun hc => ?_) (fun hc => ?_)
          · replace h := h.1 hc
            refine x_iconst (v := (-1)) (dxX11_way_0 28 rfl) rfl ?_
            exact x_iret (ty := .int) rfl rfl (dxX11_way_0 29 rfl) ⟨_, rfl, h⟩
          · replace h := h.2 hc
            refine x_iload (dxX11_way_0 18 rfl) rfl ?_
            refine x_iconst (v := 1) (dxX11_way_0 19 rfl) rfl ?_
            refine x_icmp_gt (tgt := 58) (dxX11_way_0 20 rfl) (by decide) (fun hc => ?_) (fun hc => ?_)
            · replace h := h.1 hc
              refine x_iconst (v := (-1)) (dxX11_way_0 28 rfl) rfl ?_
              exact x_iret (ty := .int) rfl rfl (dxX11_way_0 29 rfl) ⟨_, rfl, h⟩
            · replace h := h.2 hc
              refine x_aload_n (i := 0) (dxX11_way_0 21 rfl) rfl rfl ?_
              refine gf_11_80 (kd_10 hLs7) (rv_10_10 hLs7) (dxX11_way_0 22 rfl) ?_
              refine x_iload_n (i := 1) (dxX11_way_0 23 rfl) rfl rfl ?_
              refine x_iload_n (i := 2) (dxX11_way_0 24 rfl) rfl rfl ?_
              refine x_iload_n (i := 3) (dxX11_way_0 25 rfl) rfl rfl ?_
              refine cl_11_249 (kd_144 hLs7) (Nat.le_of_ble_eq_true rfl) (dxX11_way_0 26 rfl) h (fun v10 s9 h => ?_) (Nat.le_refl _) (Nat.le_refl _)
              obtain ⟨hFs9, h⟩ := h
              have hKs9 : kd s9 = kd σ := hFs9.1.trans hKs7
              have hLs9 : Lay s9 := hLs7.fr hFs9
              refine x_if_ne (tgt := 60) (dxX11_way_0 27 rfl) (by decide) (fun hc => ?_) (fun hc => ?_)
              · replace h := h.1 hc
                refine x_iload (dxX11_way_0 30 rfl) rfl ?_
                refine x_if_ne (tgt := 75) (dxX11_way_0 31 rfl) (by decide) (fun hc => ?_) (fun hc => ?_)
                · replace h := h.1 hc
                  refine x_aload_n (i := 0) (dxX11_way_1 4 rfl) rfl rfl ?_
                  refine gf_11_80 (kd_10 hLs9) (rv_10_10 hLs9) (dxX11_way_1 5 rfl) ?_
                  refine gf_11_256 (kd_144 hLs9) rfl (dxX11_way_1 6 rfl) ?_
                  exact x_iret (ty := .int) rfl rfl (dxX11_way_1 7 rfl) ⟨_, rfl, h⟩
                · replace h := h.2 hc
                  refine x_aload_n (i := 0) (dxX11_way_1 0 rfl) rfl rfl ?_
                  refine gf_11_80 (kd_10 hLs9) (rv_10_10 hLs9) (dxX11_way_1 1 rfl) ?_
                  refine gf_11_253 (kd_144 hLs9) rfl (dxX11_way_1 2 rfl) ?_
                  refine x_goto (tgt := 82) (dxX11_way_1 3 rfl) (by decide) ?_
                  exact x_iret (ty := .int) rfl rfl (dxX11_way_1 7 rfl) ⟨_, rfl, h⟩
              · replace h := h.2 hc
                refine x_iconst (v := (-1)) (dxX11_way_0 28 rfl) rfl ?_
                exact x_iret (ty := .int) rfl rfl (dxX11_way_0 29 rfl) ⟨_, rfl, h⟩
        · replace h := h.2 hc
          refine x_iconst (v := (-1)) (dxX11_way_0 14 rfl) rfl ?_
          exact x_iret (ty := .int) rfl rfl (dxX11_way_0 15 rfl) ⟨_, rfl, h⟩
-- FAIL ('GluedPaper', 'shortest', '(III)I') Exception(('op', '.new 259', ('GluedPaper', 'shortest', '(III)I'), 38))
-- FAIL ('GluedPaper', 'round', '(II)I') Exception(('op', '.new 259', ('GluedPaper', 'round', '(II)I'), 27))
theorem vcX11_farthest {g : GV} {d : Nat} {P : Int32 → PS → Prop} {σ : PS} (hL : Lay σ) (p0 : Int32) (h : CX11_isBody g d [.ref 10] σ (fun (v2 : Int32) (s1 : PS) => Fr σ s1 ∧ (v2 = 0 → P (-1) s1) ∧ (¬ v2 = 0 → CX2_hasCell g d [.ref 129, .int p0] s1 (fun (v4 : Int32) (s3 : PS) => Fr s1 s3 ∧ (¬ v4 = 0 → CX10_look g d [.ref 144, .int p0] s3 (fun (s5 : PS) => Fr s3 s5 ∧ CX10_farthestEnd g d [.ref 144] s5 (fun (v8 : Int32) (s7 : PS) => Fr s5 s7 ∧ P v8 s7))) ∧ (v4 = 0 → P (-1) s3))))) : CX11_farthest g (d + 1) [.ref 10, .int p0] σ P := by
  refine x_entry (L := [some (.ref 10), some (.int p0)]) pn_11 (Nat.le_of_ble_eq_true rfl) ⟨0, rfl⟩ ?_
  show VX11_farthest g (d + 1) P 0 [some (.ref 10), some (.int p0)] [] σ
  refine x_aload_n (i := 0) (dxX11_farthest_0 0 rfl) rfl rfl ?_
  refine cl_11_218 (kd_10 hL) (Nat.le_of_ble_eq_true rfl) (dxX11_farthest_0 1 rfl) h (fun v2 s1 h => ?_) (Nat.le_refl _) (Nat.le_refl _)
  obtain ⟨hFs1, h⟩ := h
  have hKs1 : kd s1 = kd σ := hFs1.1.trans (rfl : kd σ = kd σ)
  have hLs1 : Lay s1 := hL.fr hFs1
  refine x_if_eq (tgt := 18) (dxX11_farthest_0 2 rfl) (by decide) (fun hc => ?_) (fun hc => ?_)
  · replace h := h.1 hc
    refine x_iconst (v := (-1)) (dxX11_farthest_0 8 rfl) rfl ?_
    exact x_iret (ty := .int) rfl rfl (dxX11_farthest_0 9 rfl) ⟨_, rfl, h⟩
  · replace h := h.2 hc
    refine x_aload_n (i := 0) (dxX11_farthest_0 3 rfl) rfl rfl ?_
    refine gf_11_62 (kd_10 hLs1) (rv_10_8 hLs1) (dxX11_farthest_0 4 rfl) ?_
    refine x_iload_n (i := 1) (dxX11_farthest_0 5 rfl) rfl rfl ?_
    refine cl_11_225 (kd_129 hLs1) (Nat.le_of_ble_eq_true rfl) (dxX11_farthest_0 6 rfl) h (fun v4 s3 h => ?_) (Nat.le_refl _) (Nat.le_refl _)
    obtain ⟨hFs3, h⟩ := h
    have hKs3 : kd s3 = kd σ := hFs3.1.trans hKs1
    have hLs3 : Lay s3 := hLs1.fr hFs3
    refine x_if_ne (tgt := 20) (dxX11_farthest_0 7 rfl) (by decide) (fun hc => ?_) (fun hc => ?_)
    · replace h := h.1 hc
      refine x_aload_n (i := 0) (dxX11_farthest_0 10 rfl) rfl rfl ?_
      refine gf_11_80 (kd_10 hLs3) (rv_10_10 hLs3) (dxX11_farthest_0 11 rfl) ?_
      refine x_iload_n (i := 1) (dxX11_farthest_0 12 rfl) rfl rfl ?_
      refine cl_11_266 (kd_144 hLs3) (Nat.le_of_ble_eq_true rfl) (dxX11_farthest_0 13 rfl) h (fun s5 h => ?_) (Nat.le_refl _) (Nat.le_refl _)
      obtain ⟨hFs5, h⟩ := h
      have hKs5 : kd s5 = kd σ := hFs5.1.trans hKs3
      have hLs5 : Lay s5 := hLs3.fr hFs5
      refine x_aload_n (i := 0) (dxX11_farthest_0 14 rfl) rfl rfl ?_
      refine gf_11_80 (kd_10 hLs5) (rv_10_10 hLs5) (dxX11_farthest_0 15 rfl) ?_
      refine cl_11_280 (kd_144 hLs5) (Nat.le_of_ble_eq_true rfl) (dxX11_farthest_0 16 rfl) h (fun v8 s7 h => ?_) (Nat.le_refl _) (Nat.le_refl _)
      obtain ⟨hFs7, h⟩ := h
      have hKs7 : kd s7 = kd σ := hFs7.1.trans hKs5
      have hLs7 : Lay s7 := hLs5.fr hFs7
      exact x_iret (ty := .int) rfl rfl (dxX11_farthest_0 17 rfl) ⟨_, rfl, h⟩
    · replace h := h.2 hc
      refine x_iconst (v := (-1)) (dxX11_farthest_0 8 rfl) rfl ?_
      exact x_iret (ty := .int) rfl rfl (dxX11_farthest_0 9 rfl) ⟨_, rfl, h⟩
theorem vcX11_nets {g : GV} {d : Nat} {P : Int32 → PS → Prop} {σ : PS} (hL : Lay σ) (p0 : Int32) (h : CX11_isBody g d [.ref 10] σ (fun (v2 : Int32) (s1 : PS) => Fr σ s1 ∧ (v2 = 0 → P (-1) s1) ∧ (¬ v2 = 0 → (p0 < 0 → P (-1) s1) ∧ (¬ p0 < 0 → (2 < p0 → P (-1) s1) ∧ (¬ 2 < p0 → ((mi s1 129 0) ≤ 8 → CX9_work g d [.ref 149] s1 (fun (s3 : PS) => Fr s1 s3 ∧ (¬ p0 = 0 → (¬ p0 = 1 → P (mi s3 149 4) s3) ∧ (p0 = 1 → P (mi s3 149 3) s3)) ∧ (p0 = 0 → P (mi s3 149 2) s3))) ∧ (¬ (mi s1 129 0) ≤ 8 → P (-1) s1)))))) : CX11_nets g (d + 1) [.ref 10, .int p0] σ P := by
  refine x_entry (L := [some (.ref 10), some (.int p0)]) pn_11 (Nat.le_of_ble_eq_true rfl) ⟨0, rfl⟩ ?_
  show VX11_nets g (d + 1) P 0 [some (.ref 10), some (.int p0)] [] σ
  refine x_aload_n (i := 0) (dxX11_nets_0 0 rfl) rfl rfl ?_
  refine cl_11_218 (kd_10 hL) (Nat.le_of_ble_eq_true rfl) (dxX11_nets_0 1 rfl) h (fun v2 s1 h => ?_) (Nat.le_refl _) (Nat.le_refl _)
  obtain ⟨hFs1, h⟩ := h
  have hKs1 : kd s1 = kd σ := hFs1.1.trans (rfl : kd σ = kd σ)
  have hLs1 : Lay s1 := hL.fr hFs1
  refine x_if_eq (tgt := 28) (dxX11_nets_0 2 rfl) (by decide) (fun hc => ?_) (fun hc => ?_)
  · replace h := h.1 hc
    refine x_iconst (v := (-1)) (dxX11_nets_0 13 rfl) rfl ?_
    exact x_iret (ty := .int) rfl rfl (dxX11_nets_0 14 rfl) ⟨_, rfl, h⟩
  · replace h := h.2 hc
    refine x_iload_n (i := 1) (dxX11_nets_0 3 rfl) rfl rfl ?_
    refine x_if_lt (tgt := 28) (dxX11_nets_0 4 rfl) (by decide) (fun hc => ?_) (fun hc => ?_)
    · replace h := h.1 hc
      refine x_iconst (v := (-1)) (dxX11_nets_0 13 rfl) rfl ?_
      exact x_iret (ty := .int) rfl rfl (dxX11_nets_0 14 rfl) ⟨_, rfl, h⟩
    · replace h := h.2 hc
      refine x_iload_n (i := 1) (dxX11_nets_0 5 rfl) rfl rfl ?_
      refine x_iconst (v := 2) (dxX11_nets_0 6 rfl) rfl ?_
      refine x_icmp_gt (tgt := 28) (dxX11_nets_0 7 rfl) (by decide) (fun hc => ?_) (fun hc => ?_)
      · replace h := h.1 hc
        refine x_iconst (v := (-1)) (dxX11_nets_0 13 rfl) rfl ?_
        exact x_iret (ty := .int) rfl rfl (dxX11_nets_0 14 rfl) ⟨_, rfl, h⟩
      · replace h := h.2 hc
        refine x_aload_n (i := 0) (dxX11_nets_0 8 rfl) rfl rfl ?_
        refine gf_11_62 (kd_10 hLs1) (rv_10_8 hLs1) (dxX11_nets_0 9 rfl) ?_
        refine gf_11_284 (kd_129 hLs1) rfl (dxX11_nets_0 10 rfl) ?_
        refine x_bipush (v := 8) (dxX11_nets_0 11 rfl) rfl ?_
        refine x_icmp_le (tgt := 30) (dxX11_nets_0 12 rfl) (by decide) (fun hc => ?_) (fun hc => ?_)
        · replace h := h.1 hc
          refine x_aload_n (i := 0) (dxX11_nets_0 15 rfl) rfl rfl ?_
          refine gf_11_87 (kd_10 hLs1) (rv_10_11 hLs1) (dxX11_nets_0 16 rfl) ?_
          refine cl_11_287 (kd_149 hLs1) (Nat.le_of_ble_eq_true rfl) (dxX11_nets_0 17 rfl) h (fun s3 h => ?_) (Nat.le_refl _) (Nat.le_refl _)
          obtain ⟨hFs3, h⟩ := h
          have hKs3 : kd s3 = kd σ := hFs3.1.trans hKs1
          have hLs3 : Lay s3 := hLs1.fr hFs3
          refine x_iload_n (i := 1) (dxX11_nets_0 18 rfl) rfl rfl ?_
          refine x_if_ne (tgt := 49) (dxX11_nets_0 19 rfl) (by decide) (fun hc => ?_) (fun hc => ?_)
          · replace h := h.1 hc
            refine x_iload_n (i := 1) (dxX11_nets_0 24 rfl) rfl rfl ?_
            refine x_iconst (v := 1) (dxX11_nets_0 25 rfl) rfl ?_
            refine x_icmp_ne (tgt := 64) (dxX11_nets_0 26 rfl) (by decide) (fun hc => ?_) (fun hc => ?_)
            · replace h := h.1 hc
              refine x_aload_n (i := 0) (dxX11_nets_0 31 rfl) rfl rfl ?_
              refine gf_11_87 (kd_10 hLs3) (rv_10_11 hLs3) (dxX11_nets_1 0 rfl) ?_
              refine gf_11_294 (kd_149 hLs3) rfl (dxX11_nets_1 1 rfl) ?_
              exact x_iret (ty := .int) rfl rfl (dxX11_nets_1 2 rfl) ⟨_, rfl, h⟩
            · replace h := h.2 hc
              refine x_aload_n (i := 0) (dxX11_nets_0 27 rfl) rfl rfl ?_
              refine gf_11_87 (kd_10 hLs3) (rv_10_11 hLs3) (dxX11_nets_0 28 rfl) ?_
              refine gf_11_291 (kd_149 hLs3) rfl (dxX11_nets_0 29 rfl) ?_
              refine x_goto (tgt := 71) (dxX11_nets_0 30 rfl) (by decide) ?_
              exact x_iret (ty := .int) rfl rfl (dxX11_nets_1 2 rfl) ⟨_, rfl, h⟩
          · replace h := h.2 hc
            refine x_aload_n (i := 0) (dxX11_nets_0 20 rfl) rfl rfl ?_
            refine gf_11_87 (kd_10 hLs3) (rv_10_11 hLs3) (dxX11_nets_0 21 rfl) ?_
            refine gf_11_288 (kd_149 hLs3) rfl (dxX11_nets_0 22 rfl) ?_
            exact x_iret (ty := .int) rfl rfl (dxX11_nets_0 23 rfl) ⟨_, rfl, h⟩
        · replace h := h.2 hc
          refine x_iconst (v := (-1)) (dxX11_nets_0 13 rfl) rfl ?_
          exact x_iret (ty := .int) rfl rfl (dxX11_nets_0 14 rfl) ⟨_, rfl, h⟩
theorem vcX11_mark {g : GV} {d : Nat} {P : Int32 → PS → Prop} {σ : PS} (hL : Lay σ) (p0 : Int32) (p1 : Int32) (h : (p0 < 0 → P 0 σ) ∧ (¬ p0 < 0 → (p0 < 4 → (¬ p1 = 0 → vp_in p0 4 ∧ (¬ (mi σ 168 (Int32.toNatClampNeg p0)) = 0 → vp_in p0 4 ∧ ∃ a3 : Nat, mr σ 169 (Int32.toNatClampNeg p0) = some a3 ∧ CX11_takeFigure g d [.ref 10, .ref a3] σ (fun (s5 : PS) => Fr σ s5 ∧ vp_in p0 4 ∧ ∃ a8 : Nat, mr s5 174 (Int32.toNatClampNeg p0) = some a8 ∧ CX0_mates g d [.ref 38] s5 (fun (v11 : Nat) (s10 : PS) => Fr s5 s10 ∧ ∃ n12, kd s10 a8 = some (.inr (0, n12)) ∧ ∃ n14, kd s10 v11 = some (.inr (0, n14)) ∧ (¬ (0 : Int32) < 0 ∧ ¬ (0 : Int32) < 0 ∧ ¬ (22 : Int32) < 0 ∧ Int32.toNatClampNeg (0 : Int32) + Int32.toNatClampNeg (22 : Int32) ≤ n12 ∧ Int32.toNatClampNeg (0 : Int32) + Int32.toNatClampNeg (22 : Int32) ≤ n14) ∧ ∀ s17 : PS, s17 = sa s10 v11 (va_cpy (mi s10 a8) (mi s10 v11) (Int32.toNatClampNeg (0 : Int32)) (Int32.toNatClampNeg (0 : Int32)) (Int32.toNatClampNeg (22 : Int32))) → CX11_settle g d [.ref 10] s17 (fun (s19 : PS) => Fr s17 s19 ∧ P 1 s19)))) ∧ ((mi σ 168 (Int32.toNatClampNeg p0)) = 0 → P 0 σ)) ∧ (p1 = 0 → CX0_mates g d [.ref 38] σ (fun (v22 : Nat) (s21 : PS) => Fr σ s21 ∧ CX6_lay g d [.ref 167, .int p0, .ref 21, .ref v22] s21 (fun (s23 : PS) => Fr s21 s23 ∧ P 1 s23)))) ∧ (¬ p0 < 4 → P 0 σ))) : CX11_mark g (d + 1) [.ref 10, .int p0, .int p1] σ P := by
  refine x_entry (L := [some (.ref 10), some (.int p0), some (.int p1)]) pn_11 (Nat.le_of_ble_eq_true rfl) ⟨0, rfl⟩ ?_
  show VX11_mark g (d + 1) P 0 [some (.ref 10), some (.int p0), some (.int p1)] [] σ
  refine x_iload_n (i := 1) (dxX11_mark_0 0 rfl) rfl rfl ?_
  refine x_if_lt (tgt := 9) (dxX11_mark_0 1 rfl) (by decide) (fun hc => ?_) (fun hc => ?_)
  · replace h := h.1 hc
    refine x_iconst (v := 0) (dxX11_mark_0 5 rfl) rfl ?_
    exact x_iret (ty := .boolean) rfl rfl (dxX11_mark_0 6 rfl) ⟨_, rfl, h⟩
  · replace h := h.2 hc
    refine x_iload_n (i := 1) (dxX11_mark_0 2 rfl) rfl rfl ?_
    refine x_iconst (v := 4) (dxX11_mark_0 3 rfl) rfl ?_
    refine x_icmp_lt (tgt := 11) (dxX11_mark_0 4 rfl) (by decide) (fun hc => ?_) (fun hc => ?_)
    · replace h := h.1 hc
      refine x_iload_n (i := 2) (dxX11_mark_0 7 rfl) rfl rfl ?_
      refine x_if_ne (tgt := 39) (dxX11_mark_0 8 rfl) (by decide) (fun hc => ?_) (fun hc => ?_)
      · replace h := h.1 hc
        refine x_aload_n (i := 0) (dxX11_mark_0 21 rfl) rfl rfl ?_
        refine gf_11_94 (kd_10 hL) (rv_10_12 hL) (dxX11_mark_0 22 rfl) ?_
        refine gf_11_301 (kd_167 hL) (rv_167_0 hL) (dxX11_mark_0 23 rfl) ?_
        refine x_iload_n (i := 1) (dxX11_mark_0 24 rfl) rfl rfl ?_
        obtain ⟨hi1, h⟩ := h
        refine x_zald (kd_168 hL) hi1 (dxX11_mark_0 25 rfl) ?_
        refine x_if_ne (tgt := 53) (dxX11_mark_0 26 rfl) (by decide) (fun hc => ?_) (fun hc => ?_)
        · replace h := h.1 hc
          refine x_aload_n (i := 0) (dxX11_mark_0 29 rfl) rfl rfl ?_
          refine x_aload_n (i := 0) (dxX11_mark_0 30 rfl) rfl rfl ?_
          refine gf_11_94 (kd_10 hL) (rv_10_12 hL) (dxX11_mark_0 31 rfl) ?_
          refine gf_11_305 (kd_167 hL) (rv_167_1 hL) (dxX11_mark_1 0 rfl) ?_
          refine x_iload_n (i := 1) (dxX11_mark_1 1 rfl) rfl rfl ?_
          obtain ⟨hi2, h⟩ := h
          obtain ⟨a3, ha4, h⟩ := h
          refine x_aald (Or.inl rfl) (kd_169 hL) hi2 ha4 (dxX11_mark_1 2 rfl) ?_
          refine cl_11_102 (kd_10 hL) (Nat.le_of_ble_eq_true rfl) (dxX11_mark_1 3 rfl) h (fun s5 h => ?_) (Nat.le_refl _) (Nat.le_refl _)
          obtain ⟨hFs5, h⟩ := h
          have hKs5 : kd s5 = kd σ := hFs5.1.trans (rfl : kd σ = kd σ)
          have hLs5 : Lay s5 := hL.fr hFs5
          refine x_aload_n (i := 0) (dxX11_mark_1 4 rfl) rfl rfl ?_
          refine gf_11_94 (kd_10 hLs5) (rv_10_12 hLs5) (dxX11_mark_1 5 rfl) ?_
          refine gf_11_308 (kd_167 hLs5) (rv_167_2 hLs5) (dxX11_mark_1 6 rfl) ?_
          refine x_iload_n (i := 1) (dxX11_mark_1 7 rfl) rfl rfl ?_
          obtain ⟨hi7, h⟩ := h
          obtain ⟨a8, ha9, h⟩ := h
          refine x_aald (Or.inl rfl) (kd_174 hLs5) hi7 ha9 (dxX11_mark_1 8 rfl) ?_
          refine x_iconst (v := 0) (dxX11_mark_1 9 rfl) rfl ?_
          refine x_aload_n (i := 0) (dxX11_mark_1 10 rfl) rfl rfl ?_
          refine gf_11_36 (kd_10 hLs5) (rv_10_4 hLs5) (dxX11_mark_1 11 rfl) ?_
          refine cl_11_147 (kd_38 hLs5) (Nat.le_of_ble_eq_true rfl) (dxX11_mark_1 12 rfl) h (fun v11 s10 h => ?_) (Nat.le_refl _) (Nat.le_refl _)
          obtain ⟨hFs10, h⟩ := h
          have hKs10 : kd s10 = kd σ := hFs10.1.trans hKs5
          have hLs10 : Lay s10 := hLs5.fr hFs10
          refine x_iconst (v := 0) (dxX11_mark_1 13 rfl) rfl ?_
          refine x_bipush (v := 22) (dxX11_mark_1 14 rfl) rfl ?_
          obtain ⟨n12, hk13, h⟩ := h
          obtain ⟨n14, hk15, h⟩ := h
          obtain ⟨hc16, h⟩ := h
          refine cl_11_198 ((congrFun hKs10 _).trans ((congrFun hKs10 _).symm.trans hk13)) ((congrFun hKs10 _).trans ((congrFun hKs10 _).symm.trans hk15)) hc16.1 hc16.2.1 hc16.2.2.1 hc16.2.2.2.1 hc16.2.2.2.2 (Nat.le_of_ble_eq_true rfl) (dxX11_mark_1 15 rfl) ?_
          refine x_sto (fun s17 e18 => ?_)
          replace h := h s17 e18
          have hKs17 : kd s17 = kd σ := by rw [e18]; exact hKs10
          have hLs17 : Lay s17 := by rw [e18]; exact hLs10.sa
          refine x_aload_n (i := 0) (dxX11_mark_1 16 rfl) rfl rfl ?_
          refine cl_11_195 (kd_10 hLs17) (Nat.le_of_ble_eq_true rfl) (dxX11_mark_1 17 rfl) h (fun s19 h => ?_) (Nat.le_refl _) (Nat.le_refl _)
          obtain ⟨hFs19, h⟩ := h
          have hKs19 : kd s19 = kd σ := hFs19.1.trans hKs17
          have hLs19 : Lay s19 := hLs17.fr hFs19
          refine x_iconst (v := 1) (dxX11_mark_1 18 rfl) rfl ?_
          exact x_iret (ty := .boolean) rfl rfl (dxX11_mark_1 19 rfl) ⟨_, rfl, h⟩
        · replace h := h.2 hc
          refine x_iconst (v := 0) (dxX11_mark_0 27 rfl) rfl ?_
          exact x_iret (ty := .boolean) rfl rfl (dxX11_mark_0 28 rfl) ⟨_, rfl, h⟩
      · replace h := h.2 hc
        refine x_aload_n (i := 0) (dxX11_mark_0 9 rfl) rfl rfl ?_
        refine gf_11_94 (kd_10 hL) (rv_10_12 hL) (dxX11_mark_0 10 rfl) ?_
        refine x_iload_n (i := 1) (dxX11_mark_0 11 rfl) rfl rfl ?_
        refine x_aload_n (i := 0) (dxX11_mark_0 12 rfl) rfl rfl ?_
        refine gf_11_26 (kd_10 hL) (rv_10_2 hL) (dxX11_mark_0 13 rfl) ?_
        refine gf_11_297 (kd_20 hL) (rv_20_0 hL) (dxX11_mark_0 14 rfl) ?_
        refine x_aload_n (i := 0) (dxX11_mark_0 15 rfl) rfl rfl ?_
        refine gf_11_36 (kd_10 hL) (rv_10_4 hL) (dxX11_mark_0 16 rfl) ?_
        refine cl_11_147 (kd_38 hL) (Nat.le_of_ble_eq_true rfl) (dxX11_mark_0 17 rfl) h (fun v22 s21 h => ?_) (Nat.le_refl _) (Nat.le_refl _)
        obtain ⟨hFs21, h⟩ := h
        have hKs21 : kd s21 = kd σ := hFs21.1.trans (rfl : kd σ = kd σ)
        have hLs21 : Lay s21 := hL.fr hFs21
        refine cl_11_298 (kd_167 hLs21) (Nat.le_of_ble_eq_true rfl) (dxX11_mark_0 18 rfl) h (fun s23 h => ?_) (Nat.le_refl _) (Nat.le_refl _)
        obtain ⟨hFs23, h⟩ := h
        have hKs23 : kd s23 = kd σ := hFs23.1.trans hKs21
        have hLs23 : Lay s23 := hLs21.fr hFs23
        refine x_iconst (v := 1) (dxX11_mark_0 19 rfl) rfl ?_
        exact x_iret (ty := .boolean) rfl rfl (dxX11_mark_0 20 rfl) ⟨_, rfl, h⟩
    · replace h := h.2 hc
      refine x_iconst (v := 0) (dxX11_mark_0 5 rfl) rfl ?_
      exact x_iret (ty := .boolean) rfl rfl (dxX11_mark_0 6 rfl) ⟨_, rfl, h⟩
theorem vcX11_count {g : GV} {d : Nat} {P : Int32 → PS → Prop} {σ : PS} (hL : Lay σ) (p0 : Int32) (h : (p0 = 0 → P (mi σ 20 3) σ) ∧ (p0 = 1 → P (mi σ 20 6) σ) ∧ (p0 = 2 → P (mi σ 10 13) σ) ∧ (p0 = 3 → P (mi σ 38 1) σ) ∧ (p0 = 4 → P ((mi σ 38 2) - (mi σ 38 1)) σ) ∧ (p0 = 5 → CX11_isBody g d [.ref 10] σ (fun (v2 : Int32) (s1 : PS) => Fr σ s1 ∧ (v2 = 0 → P 0 s1) ∧ (¬ v2 = 0 → P 1 s1))) ∧ (p0 = 6 → P (mi σ 11 1) σ) ∧ (¬ p0 = 0 ∧ ¬ p0 = 1 ∧ ¬ p0 = 2 ∧ ¬ p0 = 3 ∧ ¬ p0 = 4 ∧ ¬ p0 = 5 ∧ ¬ p0 = 6 → P (-1) σ)) : CX11_count g (d + 1) [.ref 10, .int p0] σ P := by
  refine x_entry (L := [some (.ref 10), some (.int p0)]) pn_11 (Nat.le_of_ble_eq_true rfl) ⟨0, rfl⟩ ?_
  show VX11_count g (d + 1) P 0 [some (.ref 10), some (.int p0)] [] σ
  refine x_iload_n (i := 1) (dxX11_count_0 0 rfl) rfl rfl ?_
  by_cases hx0 : p0 = 0
  · replace h := h.1 hx0
    refine x_tableIn (tgt := 44) (dxX11_count_0 1 rfl) (by rw [hx0]; decide) (by rw [hx0]; decide) (by rw [hx0]; rfl) (by decide) ?_
    refine x_aload_n (i := 0) (dxX11_count_0 2 rfl) rfl rfl ?_
    refine gf_11_26 (kd_10 hL) (rv_10_2 hL) (dxX11_count_0 3 rfl) ?_
    refine gf_11_310 (kd_20 hL) rfl (dxX11_count_0 4 rfl) ?_
    exact x_iret (ty := .int) rfl rfl (dxX11_count_0 5 rfl) ⟨_, rfl, h⟩
  by_cases hx1 : p0 = 1
  · replace h := h.2.1 hx1
    refine x_tableIn (tgt := 52) (dxX11_count_0 1 rfl) (by rw [hx1]; decide) (by rw [hx1]; decide) (by rw [hx1]; rfl) (by decide) ?_
    refine x_aload_n (i := 0) (dxX11_count_0 6 rfl) rfl rfl ?_
    refine gf_11_26 (kd_10 hL) (rv_10_2 hL) (dxX11_count_0 7 rfl) ?_
    refine gf_11_311 (kd_20 hL) rfl (dxX11_count_0 8 rfl) ?_
    exact x_iret (ty := .int) rfl rfl (dxX11_count_0 9 rfl) ⟨_, rfl, h⟩
  by_cases hx2 : p0 = 2
  · replace h := h.2.2.1 hx2
    refine x_tableIn (tgt := 60) (dxX11_count_0 1 rfl) (by rw [hx2]; decide) (by rw [hx2]; decide) (by rw [hx2]; rfl) (by decide) ?_
    refine x_aload_n (i := 0) (dxX11_count_0 10 rfl) rfl rfl ?_
    refine gf_11_314 (kd_10 hL) rfl (dxX11_count_0 11 rfl) ?_
    exact x_iret (ty := .int) rfl rfl (dxX11_count_0 12 rfl) ⟨_, rfl, h⟩
  by_cases hx3 : p0 = 3
  · replace h := h.2.2.2.1 hx3
    refine x_tableIn (tgt := 65) (dxX11_count_0 1 rfl) (by rw [hx3]; decide) (by rw [hx3]; decide) (by rw [hx3]; rfl) (by decide) ?_
    refine x_aload_n (i := 0) (dxX11_count_0 13 rfl) rfl rfl ?_
    refine gf_11_36 (kd_10 hL) (rv_10_4 hL) (dxX11_count_0 14 rfl) ?_
    refine gf_11_204 (kd_38 hL) rfl (dxX11_count_0 15 rfl) ?_
    exact x_iret (ty := .int) rfl rfl (dxX11_count_0 16 rfl) ⟨_, rfl, h⟩
  by_cases hx4 : p0 = 4
  · replace h := h.2.2.2.2.1 hx4
    refine x_tableIn (tgt := 73) (dxX11_count_0 1 rfl) (by rw [hx4]; decide) (by rw [hx4]; decide) (by rw [hx4]; rfl) (by decide) ?_
    refine x_aload_n (i := 0) (dxX11_count_0 17 rfl) rfl rfl ?_
    refine gf_11_36 (kd_10 hL) (rv_10_4 hL) (dxX11_count_0 18 rfl) ?_
    refine gf_11_207 (kd_38 hL) rfl (dxX11_count_0 19 rfl) ?_
    refine x_aload_n (i := 0) (dxX11_count_0 20 rfl) rfl rfl ?_
    refine gf_11_36 (kd_10 hL) (rv_10_4 hL) (dxX11_count_0 21 rfl) ?_
    refine gf_11_204 (kd_38 hL) rfl (dxX11_count_0 22 rfl) ?_
    refine x_isub (dxX11_count_0 23 rfl) ?_
    exact x_iret (ty := .int) rfl rfl (dxX11_count_0 24 rfl) ⟨_, rfl, h⟩
  by_cases hx5 : p0 = 5
  · replace h := h.2.2.2.2.2.1 hx5
    refine x_tableIn (tgt := 89) (dxX11_count_0 1 rfl) (by rw [hx5]; decide) (by rw [hx5]; decide) (by rw [hx5]; rfl) (by decide) ?_
    refine x_aload_n (i := 0) (dxX11_count_0 25 rfl) rfl rfl ?_
    refine cl_11_218 (kd_10 hL) (Nat.le_of_ble_eq_true rfl) (dxX11_count_0 26 rfl) h (fun v2 s1 h => ?_) (Nat.le_refl _) (Nat.le_refl _)
    obtain ⟨hFs1, h⟩ := h
    have hKs1 : kd s1 = kd σ := hFs1.1.trans (rfl : kd σ = kd σ)
    have hLs1 : Lay s1 := hL.fr hFs1
    refine x_if_eq (tgt := 100) (dxX11_count_0 27 rfl) (by decide) (fun hc => ?_) (fun hc => ?_)
    · replace h := h.1 hc
      refine x_iconst (v := 0) (dxX11_count_0 30 rfl) rfl ?_
      exact x_iret (ty := .int) rfl rfl (dxX11_count_0 31 rfl) ⟨_, rfl, h⟩
    · replace h := h.2 hc
      refine x_iconst (v := 1) (dxX11_count_0 28 rfl) rfl ?_
      refine x_goto (tgt := 101) (dxX11_count_0 29 rfl) (by decide) ?_
      exact x_iret (ty := .int) rfl rfl (dxX11_count_0 31 rfl) ⟨_, rfl, h⟩
  by_cases hx6 : p0 = 6
  · replace h := h.2.2.2.2.2.2.1 hx6
    refine x_tableIn (tgt := 102) (dxX11_count_0 1 rfl) (by rw [hx6]; decide) (by rw [hx6]; decide) (by rw [hx6]; rfl) (by decide) ?_
    refine x_aload_n (i := 0) (dxX11_count_1 0 rfl) rfl rfl ?_
    refine gf_11_10 (kd_10 hL) (rv_10_0 hL) (dxX11_count_1 1 rfl) ?_
    refine gf_11_110 (kd_11 hL) rfl (dxX11_count_1 2 rfl) ?_
    exact x_iret (ty := .int) rfl rfl (dxX11_count_1 3 rfl) ⟨_, rfl, h⟩
  replace h := h.2.2.2.2.2.2.2 ⟨hx0, hx1, hx2, hx3, hx4, hx5, hx6⟩
  refine x_tableOut (tgt := 110) (dxX11_count_0 1 rfl) (tab_out (n := 6) (by decide) (fun j hj => by rcases (show j = 0 ∨ j = 1 ∨ j = 2 ∨ j = 3 ∨ j = 4 ∨ j = 5 ∨ j = 6 by omega) with rfl | rfl | rfl | rfl | rfl | rfl | rfl <;> assumption)) (by decide) ?_
  refine x_iconst (v := (-1)) (dxX11_count_1 4 rfl) rfl ?_
  exact x_iret (ty := .int) rfl rfl (dxX11_count_1 5 rfl) ⟨_, rfl, h⟩
theorem vcX11_takeFigure {g : GV} {d : Nat} {P : PS → Prop} {σ : PS} (hL : Lay σ) (p0 np0 : Nat) (kp0 : kd σ p0 = some (.inr (0, np0))) (h : CX4_lay g d [.ref 20, .ref p0] σ (fun (v2 : Int32) (s1 : PS) => Fr σ s1 ∧ CX0_forget g d [.ref 38] s1 (fun (s3 : PS) => Fr s1 s3 ∧ ∀ s5 : PS, s5 = si s3 87 1 0 → ∀ s7 : PS, s7 = si s5 133 9 0 → CX11_settle g d [.ref 10] s7 (fun (s9 : PS) => Fr s7 s9 ∧ P s9)))) : CX11_takeFigure g (d + 1) [.ref 10, .ref p0] σ P := by
  refine x_entry (L := [some (.ref 10), some (.ref p0)]) pn_11 (Nat.le_of_ble_eq_true rfl) ⟨0, rfl⟩ ?_
  show VX11_takeFigure g (d + 1) P 0 [some (.ref 10), some (.ref p0)] [] σ
  refine x_aload_n (i := 0) (dxX11_takeFigure_0 0 rfl) rfl rfl ?_
  refine gf_11_26 (kd_10 hL) (rv_10_2 hL) (dxX11_takeFigure_0 1 rfl) ?_
  refine x_aload_n (i := 1) (dxX11_takeFigure_0 2 rfl) rfl rfl ?_
  refine cl_11_118 (kd_20 hL) (Nat.le_of_ble_eq_true rfl) (dxX11_takeFigure_0 3 rfl) h (fun v2 s1 h => ?_) (Nat.le_refl _) (Nat.le_refl _)
  obtain ⟨hFs1, h⟩ := h
  have hKs1 : kd s1 = kd σ := hFs1.1.trans (rfl : kd σ = kd σ)
  have hLs1 : Lay s1 := hL.fr hFs1
  refine x_pop (dxX11_takeFigure_0 4 rfl) rfl ?_
  refine x_aload_n (i := 0) (dxX11_takeFigure_0 5 rfl) rfl rfl ?_
  refine gf_11_36 (kd_10 hLs1) (rv_10_4 hLs1) (dxX11_takeFigure_0 6 rfl) ?_
  refine cl_11_317 (kd_38 hLs1) (Nat.le_of_ble_eq_true rfl) (dxX11_takeFigure_0 7 rfl) h (fun s3 h => ?_) (Nat.le_refl _) (Nat.le_refl _)
  obtain ⟨hFs3, h⟩ := h
  have hKs3 : kd s3 = kd σ := hFs3.1.trans hKs1
  have hLs3 : Lay s3 := hLs1.fr hFs3
  refine x_aload_n (i := 0) (dxX11_takeFigure_0 8 rfl) rfl rfl ?_
  refine gf_11_55 (kd_10 hLs3) (rv_10_7 hLs3) (dxX11_takeFigure_0 9 rfl) ?_
  refine x_iconst (v := 0) (dxX11_takeFigure_0 10 rfl) rfl ?_
  refine pf_11_320 (Or.inl rfl) (kd_87 hLs3) (dxX11_takeFigure_0 11 rfl) ?_
  refine x_sto (fun s5 e6 => ?_)
  replace h := h s5 e6
  have hKs5 : kd s5 = kd σ := by rw [e6]; exact hKs3
  have hLs5 : Lay s5 := by rw [e6]; exact hLs3.si
  refine x_aload_n (i := 0) (dxX11_takeFigure_0 12 rfl) rfl rfl ?_
  refine gf_11_71 (kd_10 hLs5) (rv_10_9 hLs5) (dxX11_takeFigure_0 13 rfl) ?_
  refine x_iconst (v := 0) (dxX11_takeFigure_0 14 rfl) rfl ?_
  refine pf_11_323 (Or.inl rfl) (kd_133 hLs5) (dxX11_takeFigure_0 15 rfl) ?_
  refine x_sto (fun s7 e8 => ?_)
  replace h := h s7 e8
  have hKs7 : kd s7 = kd σ := by rw [e8]; exact hKs5
  have hLs7 : Lay s7 := by rw [e8]; exact hLs5.si
  refine x_aload_n (i := 0) (dxX11_takeFigure_0 16 rfl) rfl rfl ?_
  refine cl_11_195 (kd_10 hLs7) (Nat.le_of_ble_eq_true rfl) (dxX11_takeFigure_0 17 rfl) h (fun s9 h => ?_) (Nat.le_refl _) (Nat.le_refl _)
  obtain ⟨hFs9, h⟩ := h
  have hKs9 : kd s9 = kd σ := hFs9.1.trans hKs7
  have hLs9 : Lay s9 := hLs7.fr hFs9
  exact x_vret rfl (dxX11_takeFigure_0 18 rfl) ⟨rfl, h⟩
theorem vcX11_settle {g : GV} {d : Nat} {P : PS → Prop} {σ : PS} (hL : Lay σ)  (h : CX0_mates g d [.ref 38] σ (fun (v2 : Nat) (s1 : PS) => Fr σ s1 ∧ CX3_start g d [.ref 81, .ref 20] s1 (fun (s3 : PS) => Fr s1 s3 ∧ ∀ s5 : PS, s5 = si s3 10 13 0 → VX11_settle g (d + 1) P 26 [some (.ref 10), some (.ref v2), some (.int 0)] [] s5))) : CX11_settle g (d + 1) [.ref 10] σ P := by
  refine x_entry (L := [some (.ref 10), none, none]) pn_11 (Nat.le_of_ble_eq_true rfl) ⟨2, rfl⟩ ?_
  show VX11_settle g (d + 1) P 0 [some (.ref 10), none, none] [] σ
  refine x_aload_n (i := 0) (dxX11_settle_0 0 rfl) rfl rfl ?_
  refine gf_11_36 (kd_10 hL) (rv_10_4 hL) (dxX11_settle_0 1 rfl) ?_
  refine cl_11_147 (kd_38 hL) (Nat.le_of_ble_eq_true rfl) (dxX11_settle_0 2 rfl) h (fun v2 s1 h => ?_) (Nat.le_refl _) (Nat.le_refl _)
  obtain ⟨hFs1, h⟩ := h
  have hKs1 : kd s1 = kd σ := hFs1.1.trans (rfl : kd σ = kd σ)
  have hLs1 : Lay s1 := hL.fr hFs1
  refine x_astore_n (i := 1) (dxX11_settle_0 3 rfl) rfl (Nat.le_of_ble_eq_true rfl) rfl rfl ?_
  refine x_aload_n (i := 0) (dxX11_settle_0 4 rfl) rfl rfl ?_
  refine gf_11_43 (kd_10 hLs1) (rv_10_5 hLs1) (dxX11_settle_0 5 rfl) ?_
  refine x_aload_n (i := 0) (dxX11_settle_0 6 rfl) rfl rfl ?_
  refine gf_11_26 (kd_10 hLs1) (rv_10_2 hLs1) (dxX11_settle_0 7 rfl) ?_
  refine cl_11_324 (kd_81 hLs1) (Nat.le_of_ble_eq_true rfl) (dxX11_settle_0 8 rfl) h (fun s3 h => ?_) (Nat.le_refl _) (Nat.le_refl _)
  obtain ⟨hFs3, h⟩ := h
  have hKs3 : kd s3 = kd σ := hFs3.1.trans hKs1
  have hLs3 : Lay s3 := hLs1.fr hFs3
  refine x_aload_n (i := 0) (dxX11_settle_0 9 rfl) rfl rfl ?_
  refine x_iconst (v := 0) (dxX11_settle_0 10 rfl) rfl ?_
  refine pf_11_314 (kd_10 hLs3) (dxX11_settle_0 11 rfl) ?_
  refine x_sto (fun s5 e6 => ?_)
  replace h := h s5 e6
  have hKs5 : kd s5 = kd σ := by rw [e6]; exact hKs3
  have hLs5 : Lay s5 := by rw [e6]; exact hLs3.si
  refine x_iconst (v := 0) (dxX11_settle_0 12 rfl) rfl ?_
  refine x_istore_n (i := 2) (dxX11_settle_0 13 rfl) rfl (Nat.le_of_ble_eq_true rfl) rfl rfl ?_
  exact h
theorem vcX11_settle_26 {g : GV} {d : Nat} {P : PS → Prop} {σ : PS} (hL : Lay σ) (l1 nl1 : Nat) (kl1 : kd σ l1 = some (.inr (0, nl1))) (l2 : Int32) (h : ((mi σ 20 6) ≤ l2 → CX11_isBody g d [.ref 10] σ (fun (v8 : Int32) (s7 : PS) => Fr σ s7 ∧ (v8 = 0 → ∀ s9 : PS, s9 = si s7 144 3 (-1) → ∀ s11 : PS, s11 = si s9 149 1 0 → P s11) ∧ (¬ v8 = 0 → CX2_fold g d [.ref 129, .ref 20, .ref l1] s7 (fun (s13 : PS) => Fr s7 s13 ∧ ∀ s15 : PS, s15 = si s13 144 3 (-1) → ∀ s17 : PS, s17 = si s15 149 1 0 → P s17)))) ∧ (¬ (mi σ 20 6) ≤ l2 → vp_in l2 nl1 ∧ ((mi σ l1 (Int32.toNatClampNeg l2)) ≤ l2 → ∀ x20 : Int32, x20 = l2 + 1 → VX11_settle g (d + 1) P 26 [some (.ref 10), some (.ref l1), some (.int x20)] [] σ) ∧ (¬ (mi σ l1 (Int32.toNatClampNeg l2)) ≤ l2 → vp_in l2 nl1 ∧ CX3_pair g d [.ref 81, .int l2, .int (mi σ l1 (Int32.toNatClampNeg l2))] σ (fun (v24 : Int32) (s23 : PS) => Fr σ s23 ∧ ∀ s25 : PS, s25 = si s23 10 13 ((mi s23 10 13) + 1) → ∀ x27 : Int32, x27 = l2 + 1 → VX11_settle g (d + 1) P 26 [some (.ref 10), some (.ref l1), some (.int x27)] [] s25)))) : VX11_settle g (d + 1) P 26 [some (.ref 10), some (.ref l1), some (.int l2)] [] σ := by
  refine x_iload_n (i := 2) (dxX11_settle_0 14 rfl) rfl rfl ?_
  refine x_aload_n (i := 0) (dxX11_settle_0 15 rfl) rfl rfl ?_
  refine gf_11_26 (kd_10 hL) (rv_10_2 hL) (dxX11_settle_0 16 rfl) ?_
  refine gf_11_311 (kd_20 hL) rfl (dxX11_settle_0 17 rfl) ?_
  refine x_icmp_ge (tgt := 72) (dxX11_settle_0 18 rfl) (by decide) (fun hc => ?_) (fun hc => ?_)
  · replace h := h.1 hc
    refine x_aload_n (i := 0) (dxX11_settle_1 8 rfl) rfl rfl ?_
    refine cl_11_218 (kd_10 hL) (Nat.le_of_ble_eq_true rfl) (dxX11_settle_1 9 rfl) h (fun v8 s7 h => ?_) (Nat.le_refl _) (Nat.le_refl _)
    obtain ⟨hFs7, h⟩ := h
    have hKs7 : kd s7 = kd σ := hFs7.1.trans (rfl : kd σ = kd σ)
    have hLs7 : Lay s7 := hL.fr hFs7
    refine x_if_eq (tgt := 91) (dxX11_settle_1 10 rfl) (by decide) (fun hc => ?_) (fun hc => ?_)
    · replace h := h.1 hc
      refine x_aload_n (i := 0) (dxX11_settle_1 17 rfl) rfl rfl ?_
      refine gf_11_80 (kd_10 hLs7) (rv_10_10 hLs7) (dxX11_settle_1 18 rfl) ?_
      refine x_iconst (v := (-1)) (dxX11_settle_1 19 rfl) rfl ?_
      refine pf_11_331 (kd_144 hLs7) (dxX11_settle_1 20 rfl) ?_
      refine x_sto (fun s9 e10 => ?_)
      replace h := h s9 e10
      have hKs9 : kd s9 = kd σ := by rw [e10]; exact hKs7
      have hLs9 : Lay s9 := by rw [e10]; exact hLs7.si
      refine x_aload_n (i := 0) (dxX11_settle_1 21 rfl) rfl rfl ?_
      refine gf_11_87 (kd_10 hLs9) (rv_10_11 hLs9) (dxX11_settle_1 22 rfl) ?_
      refine x_iconst (v := 0) (dxX11_settle_1 23 rfl) rfl ?_
      refine pf_11_334 (Or.inl rfl) (kd_149 hLs9) (dxX11_settle_1 24 rfl) ?_
      refine x_sto (fun s11 e12 => ?_)
      replace h := h s11 e12
      have hKs11 : kd s11 = kd σ := by rw [e12]; exact hKs9
      have hLs11 : Lay s11 := by rw [e12]; exact hLs9.si
      exact x_vret rfl (dxX11_settle_1 25 rfl) ⟨rfl, h⟩
    · replace h := h.2 hc
      refine x_aload_n (i := 0) (dxX11_settle_1 11 rfl) rfl rfl ?_
      refine gf_11_62 (kd_10 hLs7) (rv_10_8 hLs7) (dxX11_settle_1 12 rfl) ?_
      refine x_aload_n (i := 0) (dxX11_settle_1 13 rfl) rfl rfl ?_
      refine gf_11_26 (kd_10 hLs7) (rv_10_2 hLs7) (dxX11_settle_1 14 rfl) ?_
      refine x_aload_n (i := 1) (dxX11_settle_1 15 rfl) rfl rfl ?_
      refine cl_11_327 (kd_129 hLs7) (Nat.le_of_ble_eq_true rfl) (dxX11_settle_1 16 rfl) h (fun s13 h => ?_) (Nat.le_refl _) (Nat.le_refl _)
      obtain ⟨hFs13, h⟩ := h
      have hKs13 : kd s13 = kd σ := hFs13.1.trans hKs7
      have hLs13 : Lay s13 := hLs7.fr hFs13
      refine x_aload_n (i := 0) (dxX11_settle_1 17 rfl) rfl rfl ?_
      refine gf_11_80 (kd_10 hLs13) (rv_10_10 hLs13) (dxX11_settle_1 18 rfl) ?_
      refine x_iconst (v := (-1)) (dxX11_settle_1 19 rfl) rfl ?_
      refine pf_11_331 (kd_144 hLs13) (dxX11_settle_1 20 rfl) ?_
      refine x_sto (fun s15 e16 => ?_)
      replace h := h s15 e16
      have hKs15 : kd s15 = kd σ := by rw [e16]; exact hKs13
      have hLs15 : Lay s15 := by rw [e16]; exact hLs13.si
      refine x_aload_n (i := 0) (dxX11_settle_1 21 rfl) rfl rfl ?_
      refine gf_11_87 (kd_10 hLs15) (rv_10_11 hLs15) (dxX11_settle_1 22 rfl) ?_
      refine x_iconst (v := 0) (dxX11_settle_1 23 rfl) rfl ?_
      refine pf_11_334 (Or.inl rfl) (kd_149 hLs15) (dxX11_settle_1 24 rfl) ?_
      refine x_sto (fun s17 e18 => ?_)
      replace h := h s17 e18
      have hKs17 : kd s17 = kd σ := by rw [e18]; exact hKs15
      have hLs17 : Lay s17 := by rw [e18]; exact hLs15.si
      exact x_vret rfl (dxX11_settle_1 25 rfl) ⟨rfl, h⟩
  · replace h := h.2 hc
    refine x_aload_n (i := 1) (dxX11_settle_0 19 rfl) rfl rfl ?_
    refine x_iload_n (i := 2) (dxX11_settle_0 20 rfl) rfl rfl ?_
    obtain ⟨hi19, h⟩ := h
    refine x_iald ((congrFun (rfl : kd σ = kd σ) _).trans kl1) hi19 (dxX11_settle_0 21 rfl) ?_
    refine x_iload_n (i := 2) (dxX11_settle_0 22 rfl) rfl rfl ?_
    refine x_icmp_le (tgt := 66) (dxX11_settle_0 23 rfl) (by decide) (fun hc => ?_) (fun hc => ?_)
    · replace h := h.1 hc
      obtain ⟨x20, e21⟩ : ∃ y : Int32, y = l2 + 1 := ⟨_, rfl⟩
      replace h := h x20 e21
      refine x_iinc (v := x20) (dxX11_settle_1 6 rfl) (i := 2) rfl (by rw [e21]; rfl) (Nat.le_of_ble_eq_true rfl) rfl rfl ?_
      refine x_goto (tgt := 26) (dxX11_settle_1 7 rfl) (by decide) ?_
      exact h
    · replace h := h.2 hc
      refine x_aload_n (i := 0) (dxX11_settle_0 24 rfl) rfl rfl ?_
      refine gf_11_43 (kd_10 hL) (rv_10_5 hL) (dxX11_settle_0 25 rfl) ?_
      refine x_iload_n (i := 2) (dxX11_settle_0 26 rfl) rfl rfl ?_
      refine x_aload_n (i := 1) (dxX11_settle_0 27 rfl) rfl rfl ?_
      refine x_iload_n (i := 2) (dxX11_settle_0 28 rfl) rfl rfl ?_
      obtain ⟨hi22, h⟩ := h
      refine x_iald ((congrFun (rfl : kd σ = kd σ) _).trans kl1) hi22 (dxX11_settle_0 29 rfl) ?_
      refine cl_11_188 (kd_81 hL) (Nat.le_of_ble_eq_true rfl) (dxX11_settle_0 30 rfl) h (fun v24 s23 h => ?_) (Nat.le_refl _) (Nat.le_refl _)
      obtain ⟨hFs23, h⟩ := h
      have hKs23 : kd s23 = kd σ := hFs23.1.trans (rfl : kd σ = kd σ)
      have hLs23 : Lay s23 := hL.fr hFs23
      refine x_pop (dxX11_settle_0 31 rfl) rfl ?_
      refine x_aload_n (i := 0) (dxX11_settle_1 0 rfl) rfl rfl ?_
      refine x_dup (dxX11_settle_1 1 rfl) rfl ?_
      refine gf_11_314 (kd_10 hLs23) rfl (dxX11_settle_1 2 rfl) ?_
      refine x_iconst (v := 1) (dxX11_settle_1 3 rfl) rfl ?_
      refine x_iadd (dxX11_settle_1 4 rfl) ?_
      refine pf_11_314 (kd_10 hLs23) (dxX11_settle_1 5 rfl) ?_
      refine x_sto (fun s25 e26 => ?_)
      replace h := h s25 e26
      have hKs25 : kd s25 = kd σ := by rw [e26]; exact hKs23
      have hLs25 : Lay s25 := by rw [e26]; exact hLs23.si
      obtain ⟨x27, e28⟩ : ∃ y : Int32, y = l2 + 1 := ⟨_, rfl⟩
      replace h := h x27 e28
      refine x_iinc (v := x27) (dxX11_settle_1 6 rfl) (i := 2) rfl (by rw [e28]; rfl) (Nat.le_of_ble_eq_true rfl) rfl rfl ?_
      refine x_goto (tgt := 26) (dxX11_settle_1 7 rfl) (by decide) ?_
      exact h
theorem vcX11_isBody {g : GV} {d : Nat} {P : Int32 → PS → Prop} {σ : PS} (hL : Lay σ)  (h : (¬ ((mi σ 10 13) * 2) = (mi σ 20 6) → P 0 σ) ∧ (((mi σ 10 13) * 2) = (mi σ 20 6) → P 1 σ)) : CX11_isBody g d [.ref 10] σ P := by
  refine x_entry (L := [some (.ref 10)]) pn_11 (Nat.le_of_ble_eq_true rfl) ⟨0, rfl⟩ ?_
  show VX11_isBody g d P 0 [some (.ref 10)] [] σ
  refine x_aload_n (i := 0) (dxX11_isBody_0 0 rfl) rfl rfl ?_
  refine gf_11_314 (kd_10 hL) rfl (dxX11_isBody_0 1 rfl) ?_
  refine x_iconst (v := 2) (dxX11_isBody_0 2 rfl) rfl ?_
  refine x_imul (dxX11_isBody_0 3 rfl) ?_
  refine x_aload_n (i := 0) (dxX11_isBody_0 4 rfl) rfl rfl ?_
  refine gf_11_26 (kd_10 hL) (rv_10_2 hL) (dxX11_isBody_0 5 rfl) ?_
  refine gf_11_311 (kd_20 hL) rfl (dxX11_isBody_0 6 rfl) ?_
  refine x_icmp_ne (tgt := 20) (dxX11_isBody_0 7 rfl) (by decide) (fun hc => ?_) (fun hc => ?_)
  · replace h := h.1 hc
    refine x_iconst (v := 0) (dxX11_isBody_0 10 rfl) rfl ?_
    exact x_iret (ty := .boolean) rfl rfl (dxX11_isBody_0 11 rfl) ⟨_, rfl, h⟩
  · replace h := h.2 hc
    refine x_iconst (v := 1) (dxX11_isBody_0 8 rfl) rfl ?_
    refine x_goto (tgt := 21) (dxX11_isBody_0 9 rfl) (by decide) ?_
    exact x_iret (ty := .boolean) rfl rfl (dxX11_isBody_0 11 rfl) ⟨_, rfl, h⟩
theorem vcX11_crosses {g : GV} {d : Nat} {P : Int32 → PS → Prop} {σ : PS} (hL : Lay σ) (p0 np0 : Nat) (kp0 : kd σ p0 = some (.inr (0, np0))) (p1 : Int32) (p2 : Int32) (h : ∀ x1 : Int32, x1 = p1 + 1 → VX11_crosses g d P 5 [none, some (.ref p0), some (.int p1), some (.int p2), some (.int x1)] [] σ) : CX11_crosses g d [.ref 10, .ref p0, .int p1, .int p2] σ P := by
  refine x_entry (L := [some (.ref 10), some (.ref p0), some (.int p1), some (.int p2), none]) pn_11 (Nat.le_of_ble_eq_true rfl) ⟨1, rfl⟩ ?_
  show VX11_crosses g d P 0 [some (.ref 10), some (.ref p0), some (.int p1), some (.int p2), none] [] σ
  refine x_iload_n (i := 2) (dxX11_crosses_0 0 rfl) rfl rfl ?_
  refine x_iconst (v := 1) (dxX11_crosses_0 1 rfl) rfl ?_
  refine x_iadd (dxX11_crosses_0 2 rfl) ?_
  refine x_topi (fun x1 e2 => ?_)
  replace h := h x1 e2
  refine x_istore (dxX11_crosses_0 3 rfl) (Nat.le_of_ble_eq_true rfl) rfl rfl ?_
  refine x_mask [false, true, true, true, true] (L1 := [none, some (.ref p0), some (.int p1), some (.int p2), some (.int x1)]) rfl ?_
  exact h
theorem vcX11_crosses_5 {g : GV} {d : Nat} {P : Int32 → PS → Prop} {σ : PS} (hL : Lay σ) (l1 nl1 : Nat) (kl1 : kd σ l1 = some (.inr (0, nl1))) (l2 : Int32) (l3 : Int32) (l4 : Int32) (h : (l3 ≤ l4 → P 0 σ) ∧ (¬ l3 ≤ l4 → vp_in l4 nl1 ∧ ((mi σ l1 (Int32.toNatClampNeg l4)) = (-1) → ∀ x4 : Int32, x4 = l4 + 1 → VX11_crosses g d P 5 [none, some (.ref l1), some (.int l2), some (.int l3), some (.int x4)] [] σ) ∧ (¬ (mi σ l1 (Int32.toNatClampNeg l4)) = (-1) → vp_in l4 nl1 ∧ ((mi σ l1 (Int32.toNatClampNeg l4)) < l2 → P 1 σ) ∧ (¬ (mi σ l1 (Int32.toNatClampNeg l4)) < l2 → vp_in l4 nl1 ∧ ((mi σ l1 (Int32.toNatClampNeg l4)) ≤ l3 → ∀ x8 : Int32, x8 = l4 + 1 → VX11_crosses g d P 5 [none, some (.ref l1), some (.int l2), some (.int l3), some (.int x8)] [] σ) ∧ (¬ (mi σ l1 (Int32.toNatClampNeg l4)) ≤ l3 → P 1 σ))))) : VX11_crosses g d P 5 [none, some (.ref l1), some (.int l2), some (.int l3), some (.int l4)] [] σ := by
  refine x_iload (dxX11_crosses_0 4 rfl) rfl ?_
  refine x_iload_n (i := 3) (dxX11_crosses_0 5 rfl) rfl rfl ?_
  refine x_icmp_ge (tgt := 43) (dxX11_crosses_0 6 rfl) (by decide) (fun hc => ?_) (fun hc => ?_)
  · replace h := h.1 hc
    refine x_iconst (v := 0) (dxX11_crosses_0 26 rfl) rfl ?_
    exact x_iret (ty := .boolean) rfl rfl (dxX11_crosses_0 27 rfl) ⟨_, rfl, h⟩
  · replace h := h.2 hc
    refine x_aload_n (i := 1) (dxX11_crosses_0 7 rfl) rfl rfl ?_
    refine x_iload (dxX11_crosses_0 8 rfl) rfl ?_
    obtain ⟨hi3, h⟩ := h
    refine x_iald ((congrFun (rfl : kd σ = kd σ) _).trans kl1) hi3 (dxX11_crosses_0 9 rfl) ?_
    refine x_iconst (v := (-1)) (dxX11_crosses_0 10 rfl) rfl ?_
    refine x_icmp_eq (tgt := 37) (dxX11_crosses_0 11 rfl) (by decide) (fun hc => ?_) (fun hc => ?_)
    · replace h := h.1 hc
      obtain ⟨x4, e5⟩ : ∃ y : Int32, y = l4 + 1 := ⟨_, rfl⟩
      replace h := h x4 e5
      refine x_iinc (v := x4) (dxX11_crosses_0 24 rfl) (i := 4) rfl (by rw [e5]; rfl) (Nat.le_of_ble_eq_true rfl) rfl rfl ?_
      refine x_goto (tgt := 5) (dxX11_crosses_0 25 rfl) (by decide) ?_
      exact h
    · replace h := h.2 hc
      refine x_aload_n (i := 1) (dxX11_crosses_0 12 rfl) rfl rfl ?_
      refine x_iload (dxX11_crosses_0 13 rfl) rfl ?_
      obtain ⟨hi6, h⟩ := h
      refine x_iald ((congrFun (rfl : kd σ = kd σ) _).trans kl1) hi6 (dxX11_crosses_0 14 rfl) ?_
      refine x_iload_n (i := 2) (dxX11_crosses_0 15 rfl) rfl rfl ?_
      refine x_icmp_lt (tgt := 35) (dxX11_crosses_0 16 rfl) (by decide) (fun hc => ?_) (fun hc => ?_)
      · replace h := h.1 hc
        refine x_iconst (v := 1) (dxX11_crosses_0 22 rfl) rfl ?_
        exact x_iret (ty := .boolean) rfl rfl (dxX11_crosses_0 23 rfl) ⟨_, rfl, h⟩
      · replace h := h.2 hc
        refine x_aload_n (i := 1) (dxX11_crosses_0 17 rfl) rfl rfl ?_
        refine x_iload (dxX11_crosses_0 18 rfl) rfl ?_
        obtain ⟨hi7, h⟩ := h
        refine x_iald ((congrFun (rfl : kd σ = kd σ) _).trans kl1) hi7 (dxX11_crosses_0 19 rfl) ?_
        refine x_iload_n (i := 3) (dxX11_crosses_0 20 rfl) rfl rfl ?_
        refine x_icmp_le (tgt := 37) (dxX11_crosses_0 21 rfl) (by decide) (fun hc => ?_) (fun hc => ?_)
        · replace h := h.1 hc
          obtain ⟨x8, e9⟩ : ∃ y : Int32, y = l4 + 1 := ⟨_, rfl⟩
          replace h := h x8 e9
          refine x_iinc (v := x8) (dxX11_crosses_0 24 rfl) (i := 4) rfl (by rw [e9]; rfl) (Nat.le_of_ble_eq_true rfl) rfl rfl ?_
          refine x_goto (tgt := 5) (dxX11_crosses_0 25 rfl) (by decide) ?_
          exact h
        · replace h := h.2 hc
          refine x_iconst (v := 1) (dxX11_crosses_0 22 rfl) rfl ?_
          exact x_iret (ty := .boolean) rfl rfl (dxX11_crosses_0 23 rfl) ⟨_, rfl, h⟩
