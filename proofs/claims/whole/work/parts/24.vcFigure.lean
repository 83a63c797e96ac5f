theorem vcX4_hasCell {g : GV} {d : Nat} {P : Int32 → PS → Prop} {σ : PS} (hL : Lay σ) (o : Nat) (io : isF o) (p0 : Int32) (h : (p0 < 0 → P 0 σ) ∧ (¬ p0 < 0 → ((mi σ o 3) ≤ p0 → P 0 σ) ∧ (¬ (mi σ o 3) ≤ p0 → P 1 σ))) : CX4_hasCell g d [.ref o, .int p0] σ P := by
  refine x_entry (L := [some (.ref o), some (.int p0)]) pn_4 (Nat.le_of_ble_eq_true rfl) ⟨0, rfl⟩ ?_
  show VX4_hasCell g d P 0 [some (.ref o), some (.int p0)] [] σ
  refine x_iload_n (i := 1) (dxX4_hasCell_0 0 rfl) rfl rfl ?_
  refine x_if_lt (tgt := 16) (dxX4_hasCell_0 1 rfl) (by decide) (fun hc => ?_) (fun hc => ?_)
  · replace h := h.1 hc
    refine x_iconst (v := 0) (dxX4_hasCell_0 8 rfl) rfl ?_
    exact x_iret (ty := .boolean) rfl rfl (dxX4_hasCell_0 9 rfl) ⟨_, rfl, h⟩
  · replace h := h.2 hc
    refine x_iload_n (i := 1) (dxX4_hasCell_0 2 rfl) rfl rfl ?_
    refine x_aload_n (i := 0) (dxX4_hasCell_0 3 rfl) rfl rfl ?_
    refine gf_4_38 (kisF hL io) rfl (dxX4_hasCell_0 4 rfl) ?_
    refine x_icmp_ge (tgt := 16) (dxX4_hasCell_0 5 rfl) (by decide) (fun hc => ?_) (fun hc => ?_)
    · replace h := h.1 hc
      refine x_iconst (v := 0) (dxX4_hasCell_0 8 rfl) rfl ?_
      exact x_iret (ty := .boolean) rfl rfl (dxX4_hasCell_0 9 rfl) ⟨_, rfl, h⟩
    · replace h := h.2 hc
      refine x_iconst (v := 1) (dxX4_hasCell_0 6 rfl) rfl ?_
      refine x_goto (tgt := 17) (dxX4_hasCell_0 7 rfl) (by decide) ?_
      exact x_iret (ty := .boolean) rfl rfl (dxX4_hasCell_0 9 rfl) ⟨_, rfl, h⟩
theorem vcX4_hasEdge {g : GV} {d : Nat} {P : Int32 → PS → Prop} {σ : PS} (hL : Lay σ) (o : Nat) (io : isF o) (p0 : Int32) (h : (p0 < 0 → P 0 σ) ∧ (¬ p0 < 0 → ((mi σ o 6) ≤ p0 → P 0 σ) ∧ (¬ (mi σ o 6) ≤ p0 → P 1 σ))) : CX4_hasEdge g d [.ref o, .int p0] σ P := by
  refine x_entry (L := [some (.ref o), some (.int p0)]) pn_4 (Nat.le_of_ble_eq_true rfl) ⟨0, rfl⟩ ?_
  show VX4_hasEdge g d P 0 [some (.ref o), some (.int p0)] [] σ
  refine x_iload_n (i := 1) (dxX4_hasEdge_0 0 rfl) rfl rfl ?_
  refine x_if_lt (tgt := 16) (dxX4_hasEdge_0 1 rfl) (by decide) (fun hc => ?_) (fun hc => ?_)
  · replace h := h.1 hc
    refine x_iconst (v := 0) (dxX4_hasEdge_0 8 rfl) rfl ?_
    exact x_iret (ty := .boolean) rfl rfl (dxX4_hasEdge_0 9 rfl) ⟨_, rfl, h⟩
  · replace h := h.2 hc
    refine x_iload_n (i := 1) (dxX4_hasEdge_0 2 rfl) rfl rfl ?_
    refine x_aload_n (i := 0) (dxX4_hasEdge_0 3 rfl) rfl rfl ?_
    refine gf_4_42 (kisF hL io) rfl (dxX4_hasEdge_0 4 rfl) ?_
    refine x_icmp_ge (tgt := 16) (dxX4_hasEdge_0 5 rfl) (by decide) (fun hc => ?_) (fun hc => ?_)
    · replace h := h.1 hc
      refine x_iconst (v := 0) (dxX4_hasEdge_0 8 rfl) rfl ?_
      exact x_iret (ty := .boolean) rfl rfl (dxX4_hasEdge_0 9 rfl) ⟨_, rfl, h⟩
    · replace h := h.2 hc
      refine x_iconst (v := 1) (dxX4_hasEdge_0 6 rfl) rfl ?_
      refine x_goto (tgt := 17) (dxX4_hasEdge_0 7 rfl) (by decide) ?_
      exact x_iret (ty := .boolean) rfl rfl (dxX4_hasEdge_0 9 rfl) ⟨_, rfl, h⟩
theorem vcX4_lay {g : GV} {d : Nat} {P : Int32 → PS → Prop} {σ : PS} (hL : Lay σ) (o : Nat) (io : isF o) (p0 np0 : Nat) (kp0 : kd σ p0 = some (.inr (0, np0))) (h : (¬ (0 : Int32) < 0 ∧ ¬ (0 : Int32) < 0 ∧ ¬ (16 : Int32) < 0 ∧ Int32.toNatClampNeg (0 : Int32) + Int32.toNatClampNeg (16 : Int32) ≤ np0 ∧ Int32.toNatClampNeg (0 : Int32) + Int32.toNatClampNeg (16 : Int32) ≤ 16) ∧ ∀ s2 : PS, s2 = sa σ (o + 1) (va_cpy (mi σ p0) (mi σ (o + 1)) (Int32.toNatClampNeg (0 : Int32)) (Int32.toNatClampNeg (0 : Int32)) (Int32.toNatClampNeg (16 : Int32))) → CX4_numberCells g d [.ref o] s2 (fun (s4 : PS) => Fr s2 s4 ∧ (¬ (mi s4 o 3) = 0 → CX4_linkCells g d [.ref o] s4 (fun (v7 : Int32) (s6 : PS) => Fr s4 s6 ∧ CX4_hangsTogether g d [.ref o] s6 (fun (v9 : Int32) (s8 : PS) => Fr s6 s8 ∧ (¬ v9 = 0 → CX4_traceRim g d [.ref o] s8 (fun (s10 : PS) => Fr s8 s10 ∧ (¬ (mi s10 o 6) = v7 → P 10 s10) ∧ ((mi s10 o 6) = v7 → P 0 s10))) ∧ (v9 = 0 → P 9 s8)))) ∧ ((mi s4 o 3) = 0 → P 8 s4))) : CX4_lay g (d + 1) [.ref o, .ref p0] σ P := by
  refine x_entry (L := [some (.ref o), some (.ref p0), none]) pn_4 (Nat.le_of_ble_eq_true rfl) ⟨1, rfl⟩ ?_
  show VX4_lay g (d + 1) P 0 [some (.ref o), some (.ref p0), none] [] σ
  refine x_aload_n (i := 1) (dxX4_lay_0 0 rfl) rfl rfl ?_
  refine x_iconst (v := 0) (dxX4_lay_0 1 rfl) rfl ?_
  refine x_aload_n (i := 0) (dxX4_lay_0 2 rfl) rfl rfl ?_
  refine gf_4_11 (kisF hL io) (risF_0 hL io) (dxX4_lay_0 3 rfl) ?_
  refine x_iconst (v := 0) (dxX4_lay_0 4 rfl) rfl ?_
  refine x_bipush (v := 16) (dxX4_lay_0 5 rfl) rfl ?_
  obtain ⟨hc1, h⟩ := h
  refine cl_4_45 ((congrFun (rfl : kd σ = kd σ) _).trans kp0) (kisF_0 hL io) hc1.1 hc1.2.1 hc1.2.2.1 hc1.2.2.2.1 hc1.2.2.2.2 (Nat.le_of_ble_eq_true rfl) (dxX4_lay_0 6 rfl) ?_
  refine x_sto (fun s2 e3 => ?_)
  replace h := h s2 e3
  have hKs2 : kd s2 = kd σ := by rw [e3]; exact (rfl : kd σ = kd σ)
  have hLs2 : Lay s2 := by rw [e3]; exact hL.sa
  refine x_aload_n (i := 0) (dxX4_lay_0 7 rfl) rfl rfl ?_
  refine cl_4_51 (kisF hLs2 io) (Nat.le_of_ble_eq_true rfl) (dxX4_lay_0 8 rfl) h (fun s4 h => ?_) (Nat.le_refl _) (Nat.le_refl _)
  obtain ⟨hFs4, h⟩ := h
  have hKs4 : kd s4 = kd σ := hFs4.1.trans hKs2
  have hLs4 : Lay s4 := hLs2.fr hFs4
  refine x_aload_n (i := 0) (dxX4_lay_0 9 rfl) rfl rfl ?_
  refine gf_4_38 (kisF hLs4 io) rfl (dxX4_lay_0 10 rfl) ?_
  refine x_if_ne (tgt := 26) (dxX4_lay_0 11 rfl) (by decide) (fun hc => ?_) (fun hc => ?_)
  · replace h := h.1 hc
    refine x_aload_n (i := 0) (dxX4_lay_0 14 rfl) rfl rfl ?_
    refine cl_4_54 (kisF hLs4 io) (Nat.le_of_ble_eq_true rfl) (dxX4_lay_0 15 rfl) h (fun v7 s6 h => ?_) (Nat.le_refl _) (Nat.le_refl _)
    obtain ⟨hFs6, h⟩ := h
    have hKs6 : kd s6 = kd σ := hFs6.1.trans hKs4
    have hLs6 : Lay s6 := hLs4.fr hFs6
    refine x_istore_n (i := 2) (dxX4_lay_0 16 rfl) rfl (Nat.le_of_ble_eq_true rfl) rfl rfl ?_
    refine x_aload_n (i := 0) (dxX4_lay_0 17 rfl) rfl rfl ?_
    refine cl_4_58 (kisF hLs6 io) (Nat.le_of_ble_eq_true rfl) (dxX4_lay_0 18 rfl) h (fun v9 s8 h => ?_) (Nat.le_refl _) (Nat.le_refl _)
    obtain ⟨hFs8, h⟩ := h
    have hKs8 : kd s8 = kd σ := hFs8.1.trans hKs6
    have hLs8 : Lay s8 := hLs6.fr hFs8
    refine x_if_ne (tgt := 41) (dxX4_lay_0 19 rfl) (by decide) (fun hc => ?_) (fun hc => ?_)
    · replace h := h.1 hc
      refine x_aload_n (i := 0) (dxX4_lay_0 22 rfl) rfl rfl ?_
      refine cl_4_62 (kisF hLs8 io) (Nat.le_of_ble_eq_true rfl) (dxX4_lay_0 23 rfl) h (fun s10 h => ?_) (Nat.le_refl _) (Nat.le_refl _)
      obtain ⟨hFs10, h⟩ := h
      have hKs10 : kd s10 = kd σ := hFs10.1.trans hKs8
      have hLs10 : Lay s10 := hLs8.fr hFs10
      refine x_aload_n (i := 0) (dxX4_lay_0 24 rfl) rfl rfl ?_
      refine gf_4_42 (kisF hLs10 io) rfl (dxX4_lay_0 25 rfl) ?_
      refine x_iload_n (i := 2) (dxX4_lay_0 26 rfl) rfl rfl ?_
      refine x_icmp_ne (tgt := 57) (dxX4_lay_0 27 rfl) (by decide) (fun hc => ?_) (fun hc => ?_)
      · replace h := h.1 hc
        refine x_bipush (v := 10) (dxX4_lay_0 30 rfl) rfl ?_
        exact x_iret (ty := .int) rfl rfl (dxX4_lay_0 31 rfl) ⟨_, rfl, h⟩
      · replace h := h.2 hc
        refine x_iconst (v := 0) (dxX4_lay_0 28 rfl) rfl ?_
        refine x_goto (tgt := 59) (dxX4_lay_0 29 rfl) (by decide) ?_
        exact x_iret (ty := .int) rfl rfl (dxX4_lay_0 31 rfl) ⟨_, rfl, h⟩
    · replace h := h.2 hc
      refine x_bipush (v := 9) (dxX4_lay_0 20 rfl) rfl ?_
      exact x_iret (ty := .int) rfl rfl (dxX4_lay_0 21 rfl) ⟨_, rfl, h⟩
  · replace h := h.2 hc
    refine x_bipush (v := 8) (dxX4_lay_0 12 rfl) rfl ?_
    exact x_iret (ty := .int) rfl rfl (dxX4_lay_0 13 rfl) ⟨_, rfl, h⟩
theorem vcX4_numberCells {g : GV} {d : Nat} {P : PS → Prop} {σ : PS} (hL : Lay σ) (o : Nat) (io : isF o) (h : ∀ s1 : PS, s1 = si σ o 3 0 → VX4_numberCells g d P 7 [some (.ref o), some (.int 0), none] [] s1) : CX4_numberCells g d [.ref o] σ P := by
  refine x_entry (L := [some (.ref o), none, none]) pn_4 (Nat.le_of_ble_eq_true rfl) ⟨2, rfl⟩ ?_
  show VX4_numberCells g d P 0 [some (.ref o), none, none] [] σ
  refine x_aload_n (i := 0) (dxX4_numberCells_0 0 rfl) rfl rfl ?_
  refine x_iconst (v := 0) (dxX4_numberCells_0 1 rfl) rfl ?_
  refine pf_4_38 (kisF hL io) (dxX4_numberCells_0 2 rfl) ?_
  refine x_sto (fun s1 e2 => ?_)
  replace h := h s1 e2
  have hKs1 : kd s1 = kd σ := by rw [e2]; exact (rfl : kd σ = kd σ)
  have hLs1 : Lay s1 := by rw [e2]; exact hL.si
  refine x_iconst (v := 0) (dxX4_numberCells_0 3 rfl) rfl ?_
  refine x_istore_n (i := 1) (dxX4_numberCells_0 4 rfl) rfl (Nat.le_of_ble_eq_true rfl) rfl rfl ?_
  exact h
theorem vcX4_numberCells_7 {g : GV} {d : Nat} {P : PS → Prop} {σ : PS} (hL : Lay σ) (l0 : Nat) (il0 : isF l0) (l1 : Int32) (h : (16 ≤ l1 → P σ) ∧ (¬ 16 ≤ l1 → VX4_numberCells g d P 15 [some (.ref l0), some (.int l1), some (.int 0)] [] σ)) : VX4_numberCells g d P 7 [some (.ref l0), some (.int l1), none] [] σ := by
  refine x_iload_n (i := 1) (dxX4_numberCells_0 5 rfl) rfl rfl ?_
  refine x_bipush (v := 16) (dxX4_numberCells_0 6 rfl) rfl ?_
  refine x_icmp_ge (tgt := 85) (dxX4_numberCells_0 7 rfl) (by decide) (fun hc => ?_) (fun hc => ?_)
  · replace h := h.1 hc
    exact x_vret rfl (dxX4_numberCells_1 16 rfl) ⟨rfl, h⟩
  · replace h := h.2 hc
    refine x_iconst (v := 0) (dxX4_numberCells_0 8 rfl) rfl ?_
    refine x_istore_n (i := 2) (dxX4_numberCells_0 9 rfl) rfl (Nat.le_of_ble_eq_true rfl) rfl rfl ?_
    exact h
theorem vcX4_numberCells_15 {g : GV} {d : Nat} {P : PS → Prop} {σ : PS} (hL : Lay σ) (l0 : Nat) (il0 : isF l0) (l1 : Int32) (l2 : Int32) (h : (16 ≤ l2 → ∀ x3 : Int32, x3 = l1 + 1 → VX4_numberCells g d P 7 [some (.ref l0), some (.int x3), none] [] σ) ∧ (¬ 16 ≤ l2 → vp_in l1 16 ∧ (((jshr (mi σ (l0 + 1) (Int32.toNatClampNeg l1)) l2) &&& 1) = 0 → ∀ x6 : Int32, x6 = l2 + 1 → VX4_numberCells g d P 15 [some (.ref l0), some (.int l1), some (.int x6)] [] σ) ∧ (¬ ((jshr (mi σ (l0 + 1) (Int32.toNatClampNeg l1)) l2) &&& 1) = 0 → (10 ≤ (mi σ l0 3) → ∀ x8 : Int32, x8 = l2 + 1 → VX4_numberCells g d P 15 [some (.ref l0), some (.int l1), some (.int x8)] [] σ) ∧ (¬ 10 ≤ (mi σ l0 3) → vp_in (mi σ l0 3) 10 ∧ ∀ s11 : PS, s11 = si σ (l0 + 2) (Int32.toNatClampNeg (mi σ l0 3)) l2 → vp_in (mi s11 l0 3) 10 ∧ ∀ s14 : PS, s14 = si s11 (l0 + 3) (Int32.toNatClampNeg (mi s11 l0 3)) l1 → ∀ s16 : PS, s16 = si s14 l0 3 ((mi s14 l0 3) + 1) → ∀ x18 : Int32, x18 = l2 + 1 → VX4_numberCells g d P 15 [some (.ref l0), some (.int l1), some (.int x18)] [] s16)))) : VX4_numberCells g d P 15 [some (.ref l0), some (.int l1), some (.int l2)] [] σ := by
  refine x_iload_n (i := 2) (dxX4_numberCells_0 10 rfl) rfl rfl ?_
  refine x_bipush (v := 16) (dxX4_numberCells_0 11 rfl) rfl ?_
  refine x_icmp_ge (tgt := 79) (dxX4_numberCells_0 12 rfl) (by decide) (fun hc => ?_) (fun hc => ?_)
  · replace h := h.1 hc
    obtain ⟨x3, e4⟩ : ∃ y : Int32, y = l1 + 1 := ⟨_, rfl⟩
    replace h := h x3 e4
    refine x_iinc (v := x3) (dxX4_numberCells_1 14 rfl) (i := 1) rfl (by rw [e4]; rfl) (Nat.le_of_ble_eq_true rfl) rfl rfl ?_
    refine x_goto (tgt := 7) (dxX4_numberCells_1 15 rfl) (by decide) ?_
    refine x_mask [true, true, false] (L1 := [some (.ref l0), some (.int x3), none]) rfl ?_
    exact h
  · replace h := h.2 hc
    refine x_aload_n (i := 0) (dxX4_numberCells_0 13 rfl) rfl rfl ?_
    refine gf_4_11 (kisF hL il0) (risF_0 hL il0) (dxX4_numberCells_0 14 rfl) ?_
    refine x_iload_n (i := 1) (dxX4_numberCells_0 15 rfl) rfl rfl ?_
    obtain ⟨hi5, h⟩ := h
    refine x_iald (kisF_0 hL il0) hi5 (dxX4_numberCells_0 16 rfl) ?_
    refine x_iload_n (i := 2) (dxX4_numberCells_0 17 rfl) rfl rfl ?_
    refine x_ishr (dxX4_numberCells_0 18 rfl) ?_
    refine x_iconst (v := 1) (dxX4_numberCells_0 19 rfl) rfl ?_
    refine x_iand (dxX4_numberCells_0 20 rfl) ?_
    refine x_if_eq (tgt := 73) (dxX4_numberCells_0 21 rfl) (by decide) (fun hc => ?_) (fun hc => ?_)
    · replace h := h.1 hc
      obtain ⟨x6, e7⟩ : ∃ y : Int32, y = l2 + 1 := ⟨_, rfl⟩
      replace h := h x6 e7
      refine x_iinc (v := x6) (dxX4_numberCells_1 12 rfl) (i := 2) rfl (by rw [e7]; rfl) (Nat.le_of_ble_eq_true rfl) rfl rfl ?_
      refine x_goto (tgt := 15) (dxX4_numberCells_1 13 rfl) (by decide) ?_
      exact h
    · replace h := h.2 hc
      refine x_aload_n (i := 0) (dxX4_numberCells_0 22 rfl) rfl rfl ?_
      refine gf_4_38 (kisF hL il0) rfl (dxX4_numberCells_0 23 rfl) ?_
      refine x_bipush (v := 10) (dxX4_numberCells_0 24 rfl) rfl ?_
      refine x_icmp_ge (tgt := 73) (dxX4_numberCells_0 25 rfl) (by decide) (fun hc => ?_) (fun hc => ?_)
      · replace h := h.1 hc
        obtain ⟨x8, e9⟩ : ∃ y : Int32, y = l2 + 1 := ⟨_, rfl⟩
        replace h := h x8 e9
        refine x_iinc (v := x8) (dxX4_numberCells_1 12 rfl) (i := 2) rfl (by rw [e9]; rfl) (Nat.le_of_ble_eq_true rfl) rfl rfl ?_
        refine x_goto (tgt := 15) (dxX4_numberCells_1 13 rfl) (by decide) ?_
        exact h
      · replace h := h.2 hc
        refine x_aload_n (i := 0) (dxX4_numberCells_0 26 rfl) rfl rfl ?_
        refine gf_4_17 (kisF hL il0) (risF_1 hL il0) (dxX4_numberCells_0 27 rfl) ?_
        refine x_aload_n (i := 0) (dxX4_numberCells_0 28 rfl) rfl rfl ?_
        refine gf_4_38 (kisF hL il0) rfl (dxX4_numberCells_0 29 rfl) ?_
        refine x_iload_n (i := 2) (dxX4_numberCells_0 30 rfl) rfl rfl ?_
        obtain ⟨hi10, h⟩ := h
        refine x_iast (kisF_1 hL il0) hi10 (dxX4_numberCells_0 31 rfl) ?_
        refine x_sto (fun s11 e12 => ?_)
        replace h := h s11 e12
        have hKs11 : kd s11 = kd σ := by rw [e12]; exact (rfl : kd σ = kd σ)
        have hLs11 : Lay s11 := by rw [e12]; exact hL.si
        refine x_aload_n (i := 0) (dxX4_numberCells_1 0 rfl) rfl rfl ?_
        refine gf_4_20 (kisF hLs11 il0) (risF_2 hLs11 il0) (dxX4_numberCells_1 1 rfl) ?_
        refine x_aload_n (i := 0) (dxX4_numberCells_1 2 rfl) rfl rfl ?_
        refine gf_4_38 (kisF hLs11 il0) rfl (dxX4_numberCells_1 3 rfl) ?_
        refine x_iload_n (i := 1) (dxX4_numberCells_1 4 rfl) rfl rfl ?_
        obtain ⟨hi13, h⟩ := h
        refine x_iast (kisF_2 hLs11 il0) hi13 (dxX4_numberCells_1 5 rfl) ?_
        refine x_sto (fun s14 e15 => ?_)
        replace h := h s14 e15
        have hKs14 : kd s14 = kd σ := by rw [e15]; exact hKs11
        have hLs14 : Lay s14 := by rw [e15]; exact hLs11.si
        refine x_aload_n (i := 0) (dxX4_numberCells_1 6 rfl) rfl rfl ?_
        refine x_dup (dxX4_numberCells_1 7 rfl) rfl ?_
        refine gf_4_38 (kisF hLs14 il0) rfl (dxX4_numberCells_1 8 rfl) ?_
        refine x_iconst (v := 1) (dxX4_numberCells_1 9 rfl) rfl ?_
        refine x_iadd (dxX4_numberCells_1 10 rfl) ?_
        refine pf_4_38 (kisF hLs14 il0) (dxX4_numberCells_1 11 rfl) ?_
        refine x_sto (fun s16 e17 => ?_)
        replace h := h s16 e17
        have hKs16 : kd s16 = kd σ := by rw [e17]; exact hKs14
        have hLs16 : Lay s16 := by rw [e17]; exact hLs14.si
        obtain ⟨x18, e19⟩ : ∃ y : Int32, y = l2 + 1 := ⟨_, rfl⟩
        replace h := h x18 e19
        refine x_iinc (v := x18) (dxX4_numberCells_1 12 rfl) (i := 2) rfl (by rw [e19]; rfl) (Nat.le_of_ble_eq_true rfl) rfl rfl ?_
        refine x_goto (tgt := 15) (dxX4_numberCells_1 13 rfl) (by decide) ?_
        exact h
theorem vcX4_linkCells {g : GV} {d : Nat} {P : Int32 → PS → Prop} {σ : PS} (hL : Lay σ) (o : Nat) (io : isF o) (h : VX4_linkCells g (d + 1) P 4 [some (.ref o), some (.int 0), some (.int 0), none, none] [] σ) : CX4_linkCells g (d + 1) [.ref o] σ P := by
  refine x_entry (L := [some (.ref o), none, none, none, none]) pn_4 (Nat.le_of_ble_eq_true rfl) ⟨4, rfl⟩ ?_
  show VX4_linkCells g (d + 1) P 0 [some (.ref o), none, none, none, none] [] σ
  refine x_iconst (v := 0) (dxX4_linkCells_0 0 rfl) rfl ?_
  refine x_istore_n (i := 1) (dxX4_linkCells_0 1 rfl) rfl (Nat.le_of_ble_eq_true rfl) rfl rfl ?_
  refine x_iconst (v := 0) (dxX4_linkCells_0 2 rfl) rfl ?_
  refine x_istore_n (i := 2) (dxX4_linkCells_0 3 rfl) rfl (Nat.le_of_ble_eq_true rfl) rfl rfl ?_
  exact h
theorem vcX4_linkCells_4 {g : GV} {d : Nat} {P : Int32 → PS → Prop} {σ : PS} (hL : Lay σ) (l0 : Nat) (il0 : isF l0) (l1 : Int32) (l2 : Int32) (h : ((mi σ l0 3) ≤ l2 → P l1 σ) ∧ (¬ (mi σ l0 3) ≤ l2 → VX4_linkCells g (d + 1) P 14 [some (.ref l0), some (.int l1), some (.int l2), some (.int 0), none] [] σ)) : VX4_linkCells g (d + 1) P 4 [some (.ref l0), some (.int l1), some (.int l2), none, none] [] σ := by
  refine x_iload_n (i := 2) (dxX4_linkCells_0 4 rfl) rfl rfl ?_
  refine x_aload_n (i := 0) (dxX4_linkCells_0 5 rfl) rfl rfl ?_
  refine gf_4_38 (kisF hL il0) rfl (dxX4_linkCells_0 6 rfl) ?_
  refine x_icmp_ge (tgt := 98) (dxX4_linkCells_0 7 rfl) (by decide) (fun hc => ?_) (fun hc => ?_)
  · replace h := h.1 hc
    refine x_iload_n (i := 1) (dxX4_linkCells_1 31 rfl) rfl rfl ?_
    exact x_iret (ty := .int) rfl rfl (dxX4_linkCells_2 0 rfl) ⟨_, rfl, h⟩
  · replace h := h.2 hc
    refine x_iconst (v := 0) (dxX4_linkCells_0 8 rfl) rfl ?_
    refine x_istore_n (i := 3) (dxX4_linkCells_0 9 rfl) rfl (Nat.le_of_ble_eq_true rfl) rfl rfl ?_
    exact h
theorem vcX4_linkCells_14 {g : GV} {d : Nat} {P : Int32 → PS → Prop} {σ : PS} (hL : Lay σ) (l0 : Nat) (il0 : isF l0) (l1 : Int32) (l2 : Int32) (l3 : Int32) (h : (4 ≤ l3 → ∀ x1 : Int32, x1 = l2 + 1 → VX4_linkCells g (d + 1) P 4 [some (.ref l0), some (.int l1), some (.int x1), none, none] [] σ) ∧ (¬ 4 ≤ l3 → vp_in l2 10 ∧ vp_in l3 4 ∧ vp_in l2 10 ∧ vp_in l3 4 ∧ CX4_cellAt g d [.ref l0, .int ((mi σ (l0 + 2) (Int32.toNatClampNeg l2)) + (stepX (Int32.toNatClampNeg l3))), .int ((mi σ (l0 + 3) (Int32.toNatClampNeg l2)) + (stepY (Int32.toNatClampNeg l3)))] σ (fun (v8 : Int32) (s7 : PS) => Fr σ s7 ∧ vp_in ((l2 * 4) + l3) 40 ∧ ∀ s10 : PS, s10 = si s7 (l0 + 4) (Int32.toNatClampNeg ((l2 * 4) + l3)) v8 → vp_in ((l2 * 4) + l3) 40 ∧ ∀ s13 : PS, s13 = si s10 (l0 + 5) (Int32.toNatClampNeg ((l2 * 4) + l3)) (-1) → (¬ v8 = (-1) → ∀ x15 : Int32, x15 = l1 + 0 → ∀ x17 : Int32, x17 = l3 + 1 → VX4_linkCells g (d + 1) P 14 [some (.ref l0), some (.int x15), some (.int l2), some (.int x17), none] [] s13) ∧ (v8 = (-1) → ∀ x19 : Int32, x19 = l1 + 1 → ∀ x21 : Int32, x21 = l3 + 1 → VX4_linkCells g (d + 1) P 14 [some (.ref l0), some (.int x19), some (.int l2), some (.int x21), none] [] s13)))) : VX4_linkCells g (d + 1) P 14 [some (.ref l0), some (.int l1), some (.int l2), some (.int l3), none] [] σ := by
  refine x_iload_n (i := 3) (dxX4_linkCells_0 10 rfl) rfl rfl ?_
  refine x_iconst (v := 4) (dxX4_linkCells_0 11 rfl) rfl ?_
  refine x_icmp_ge (tgt := 92) (dxX4_linkCells_0 12 rfl) (by decide) (fun hc => ?_) (fun hc => ?_)
  · replace h := h.1 hc
    obtain ⟨x1, e2⟩ : ∃ y : Int32, y = l2 + 1 := ⟨_, rfl⟩
    replace h := h x1 e2
    refine x_iinc (v := x1) (dxX4_linkCells_1 29 rfl) (i := 2) rfl (by rw [e2]; rfl) (Nat.le_of_ble_eq_true rfl) rfl rfl ?_
    refine x_goto (tgt := 4) (dxX4_linkCells_1 30 rfl) (by decide) ?_
    refine x_mask [true, true, true, false, false] (L1 := [some (.ref l0), some (.int l1), some (.int x1), none, none]) rfl ?_
    exact h
  · replace h := h.2 hc
    refine x_aload_n (i := 0) (dxX4_linkCells_0 13 rfl) rfl rfl ?_
    refine x_aload_n (i := 0) (dxX4_linkCells_0 14 rfl) rfl rfl ?_
    refine gf_4_17 (kisF hL il0) (risF_1 hL il0) (dxX4_linkCells_0 15 rfl) ?_
    refine x_iload_n (i := 2) (dxX4_linkCells_0 16 rfl) rfl rfl ?_
    obtain ⟨hi3, h⟩ := h
    refine x_iald (kisF_1 hL il0) hi3 (dxX4_linkCells_0 17 rfl) ?_
    refine x_getsN (Or.inl ⟨rfl, rfl⟩) (by decide +kernel) (dxX4_linkCells_0 18 rfl) ?_
    refine x_iload_n (i := 3) (dxX4_linkCells_0 19 rfl) rfl rfl ?_
    obtain ⟨hi4, h⟩ := h
    refine x_ti hi4 (dxX4_linkCells_0 20 rfl) ?_
    refine x_iadd (dxX4_linkCells_0 21 rfl) ?_
    refine x_aload_n (i := 0) (dxX4_linkCells_0 22 rfl) rfl rfl ?_
    refine gf_4_20 (kisF hL il0) (risF_2 hL il0) (dxX4_linkCells_0 23 rfl) ?_
    refine x_iload_n (i := 2) (dxX4_linkCells_0 24 rfl) rfl rfl ?_
    obtain ⟨hi5, h⟩ := h
    refine x_iald (kisF_2 hL il0) hi5 (dxX4_linkCells_0 25 rfl) ?_
    refine x_getsN (Or.inr ⟨rfl, rfl⟩) (by decide +kernel) (dxX4_linkCells_0 26 rfl) ?_
    refine x_iload_n (i := 3) (dxX4_linkCells_0 27 rfl) rfl rfl ?_
    obtain ⟨hi6, h⟩ := h
    refine x_ti2 hi6 (dxX4_linkCells_0 28 rfl) ?_
    refine x_iadd (dxX4_linkCells_0 29 rfl) ?_
    refine cl_4_71 (kisF hL il0) (Nat.le_of_ble_eq_true rfl) (dxX4_linkCells_0 30 rfl) h (fun v8 s7 h => ?_) (Nat.le_refl _) (Nat.le_refl _)
    obtain ⟨hFs7, h⟩ := h
    have hKs7 : kd s7 = kd σ := hFs7.1.trans (rfl : kd σ = kd σ)
    have hLs7 : Lay s7 := hL.fr hFs7
    refine x_istore (dxX4_linkCells_0 31 rfl) (Nat.le_of_ble_eq_true rfl) rfl rfl ?_
    refine x_aload_n (i := 0) (dxX4_linkCells_1 0 rfl) rfl rfl ?_
    refine gf_4_23 (kisF hLs7 il0) (risF_4 hLs7 il0) (dxX4_linkCells_1 1 rfl) ?_
    refine x_iload_n (i := 2) (dxX4_linkCells_1 2 rfl) rfl rfl ?_
    refine x_iconst (v := 4) (dxX4_linkCells_1 3 rfl) rfl ?_
    refine x_imul (dxX4_linkCells_1 4 rfl) ?_
    refine x_iload_n (i := 3) (dxX4_linkCells_1 5 rfl) rfl rfl ?_
    refine x_iadd (dxX4_linkCells_1 6 rfl) ?_
    refine x_iload (dxX4_linkCells_1 7 rfl) rfl ?_
    obtain ⟨hi9, h⟩ := h
    refine x_iast (kisF_4 hLs7 il0) hi9 (dxX4_linkCells_1 8 rfl) ?_
    refine x_sto (fun s10 e11 => ?_)
    replace h := h s10 e11
    have hKs10 : kd s10 = kd σ := by rw [e11]; exact hKs7
    have hLs10 : Lay s10 := by rw [e11]; exact hLs7.si
    refine x_aload_n (i := 0) (dxX4_linkCells_1 9 rfl) rfl rfl ?_
    refine gf_4_26 (kisF hLs10 il0) (risF_5 hLs10 il0) (dxX4_linkCells_1 10 rfl) ?_
    refine x_iload_n (i := 2) (dxX4_linkCells_1 11 rfl) rfl rfl ?_
    refine x_iconst (v := 4) (dxX4_linkCells_1 12 rfl) rfl ?_
    refine x_imul (dxX4_linkCells_1 13 rfl) ?_
    refine x_iload_n (i := 3) (dxX4_linkCells_1 14 rfl) rfl rfl ?_
    refine x_iadd (dxX4_linkCells_1 15 rfl) ?_
    refine x_iconst (v := (-1)) (dxX4_linkCells_1 16 rfl) rfl ?_
    obtain ⟨hi12, h⟩ := h
    refine x_iast (kisF_5 hLs10 il0) hi12 (dxX4_linkCells_1 17 rfl) ?_
    refine x_sto (fun s13 e14 => ?_)
    replace h := h s13 e14
    have hKs13 : kd s13 = kd σ := by rw [e14]; exact hKs10
    have hLs13 : Lay s13 := by rw [e14]; exact hLs10.si
    refine x_iload_n (i := 1) (dxX4_linkCells_1 18 rfl) rfl rfl ?_
    refine x_iload (dxX4_linkCells_1 19 rfl) rfl ?_
    refine x_iconst (v := (-1)) (dxX4_linkCells_1 20 rfl) rfl ?_
    refine x_icmp_ne (tgt := 83) (dxX4_linkCells_1 21 rfl) (by decide) (fun hc => ?_) (fun hc => ?_)
    · replace h := h.1 hc
      refine x_iconst (v := 0) (dxX4_linkCells_1 24 rfl) rfl ?_
      refine x_iadd (dxX4_linkCells_1 25 rfl) ?_
      refine x_topi (fun x15 e16 => ?_)
      replace h := h x15 e16
      refine x_istore_n (i := 1) (dxX4_linkCells_1 26 rfl) rfl (Nat.le_of_ble_eq_true rfl) rfl rfl ?_
      obtain ⟨x17, e18⟩ : ∃ y : Int32, y = l3 + 1 := ⟨_, rfl⟩
      replace h := h x17 e18
      refine x_iinc (v := x17) (dxX4_linkCells_1 27 rfl) (i := 3) rfl (by rw [e18]; rfl) (Nat.le_of_ble_eq_true rfl) rfl rfl ?_
      refine x_goto (tgt := 14) (dxX4_linkCells_1 28 rfl) (by decide) ?_
      refine x_mask [true, true, true, true, false] (L1 := [some (.ref l0), some (.int x15), some (.int l2), some (.int x17), none]) rfl ?_
      exact h
    · replace h := h.2 hc
      refine x_iconst (v := 1) (dxX4_linkCells_1 22 rfl) rfl ?_
      refine x_goto (tgt := 84) (dxX4_linkCells_1 23 rfl) (by decide) ?_
      refine x_iadd (dxX4_linkCells_1 25 rfl) ?_
      refine x_topi (fun x19 e20 => ?_)
      replace h := h x19 e20
      refine x_istore_n (i := 1) (dxX4_linkCells_1 26 rfl) rfl (Nat.le_of_ble_eq_true rfl) rfl rfl ?_
      obtain ⟨x21, e22⟩ : ∃ y : Int32, y = l3 + 1 := ⟨_, rfl⟩
      replace h := h x21 e22
      refine x_iinc (v := x21) (dxX4_linkCells_1 27 rfl) (i := 3) rfl (by rw [e22]; rfl) (Nat.le_of_ble_eq_true rfl) rfl rfl ?_
      refine x_goto (tgt := 14) (dxX4_linkCells_1 28 rfl) (by decide) ?_
      refine x_mask [true, true, true, true, false] (L1 := [some (.ref l0), some (.int x19), some (.int l2), some (.int x21), none]) rfl ?_
      exact h
theorem vcX4_cellAt {g : GV} {d : Nat} {P : Int32 → PS → Prop} {σ : PS} (hL : Lay σ) (o : Nat) (io : isF o) (p0 : Int32) (p1 : Int32) (h : VX4_cellAt g d P 2 [some (.ref o), some (.int p0), some (.int p1), some (.int 0)] [] σ) : CX4_cellAt g d [.ref o, .int p0, .int p1] σ P := by
  refine x_entry (L := [some (.ref o), some (.int p0), some (.int p1), none]) pn_4 (Nat.le_of_ble_eq_true rfl) ⟨1, rfl⟩ ?_
  show VX4_cellAt g d P 0 [some (.ref o), some (.int p0), some (.int p1), none] [] σ
  refine x_iconst (v := 0) (dxX4_cellAt_0 0 rfl) rfl ?_
  refine x_istore_n (i := 3) (dxX4_cellAt_0 1 rfl) rfl (Nat.le_of_ble_eq_true rfl) rfl rfl ?_
  exact h
theorem vcX4_cellAt_2 {g : GV} {d : Nat} {P : Int32 → PS → Prop} {σ : PS} (hL : Lay σ) (l0 : Nat) (il0 : isF l0) (l1 : Int32) (l2 : Int32) (l3 : Int32) (h : ((mi σ l0 3) ≤ l3 → P (-1) σ) ∧ (¬ (mi σ l0 3) ≤ l3 → vp_in l3 10 ∧ (¬ (mi σ (l0 + 2) (Int32.toNatClampNeg l3)) = l1 → ∀ x2 : Int32, x2 = l3 + 1 → VX4_cellAt g d P 2 [some (.ref l0), some (.int l1), some (.int l2), some (.int x2)] [] σ) ∧ ((mi σ (l0 + 2) (Int32.toNatClampNeg l3)) = l1 → vp_in l3 10 ∧ (¬ (mi σ (l0 + 3) (Int32.toNatClampNeg l3)) = l2 → ∀ x5 : Int32, x5 = l3 + 1 → VX4_cellAt g d P 2 [some (.ref l0), some (.int l1), some (.int l2), some (.int x5)] [] σ) ∧ ((mi σ (l0 + 3) (Int32.toNatClampNeg l3)) = l2 → P l3 σ)))) : VX4_cellAt g d P 2 [some (.ref l0), some (.int l1), some (.int l2), some (.int l3)] [] σ := by
  refine x_iload_n (i := 3) (dxX4_cellAt_0 2 rfl) rfl rfl ?_
  refine x_aload_n (i := 0) (dxX4_cellAt_0 3 rfl) rfl rfl ?_
  refine gf_4_38 (kisF hL il0) rfl (dxX4_cellAt_0 4 rfl) ?_
  refine x_icmp_ge (tgt := 38) (dxX4_cellAt_0 5 rfl) (by decide) (fun hc => ?_) (fun hc => ?_)
  · replace h := h.1 hc
    refine x_iconst (v := (-1)) (dxX4_cellAt_0 22 rfl) rfl ?_
    exact x_iret (ty := .int) rfl rfl (dxX4_cellAt_0 23 rfl) ⟨_, rfl, h⟩
  · replace h := h.2 hc
    refine x_aload_n (i := 0) (dxX4_cellAt_0 6 rfl) rfl rfl ?_
    refine gf_4_17 (kisF hL il0) (risF_1 hL il0) (dxX4_cellAt_0 7 rfl) ?_
    refine x_iload_n (i := 3) (dxX4_cellAt_0 8 rfl) rfl rfl ?_
    obtain ⟨hi1, h⟩ := h
    refine x_iald (kisF_1 hL il0) hi1 (dxX4_cellAt_0 9 rfl) ?_
    refine x_iload_n (i := 1) (dxX4_cellAt_0 10 rfl) rfl rfl ?_
    refine x_icmp_ne (tgt := 32) (dxX4_cellAt_0 11 rfl) (by decide) (fun hc => ?_) (fun hc => ?_)
    · replace h := h.1 hc
      obtain ⟨x2, e3⟩ : ∃ y : Int32, y = l3 + 1 := ⟨_, rfl⟩
      replace h := h x2 e3
      refine x_iinc (v := x2) (dxX4_cellAt_0 20 rfl) (i := 3) rfl (by rw [e3]; rfl) (Nat.le_of_ble_eq_true rfl) rfl rfl ?_
      refine x_goto (tgt := 2) (dxX4_cellAt_0 21 rfl) (by decide) ?_
      exact h
    · replace h := h.2 hc
      refine x_aload_n (i := 0) (dxX4_cellAt_0 12 rfl) rfl rfl ?_
      refine gf_4_20 (kisF hL il0) (risF_2 hL il0) (dxX4_cellAt_0 13 rfl) ?_
      refine x_iload_n (i := 3) (dxX4_cellAt_0 14 rfl) rfl rfl ?_
      obtain ⟨hi4, h⟩ := h
      refine x_iald (kisF_2 hL il0) hi4 (dxX4_cellAt_0 15 rfl) ?_
      refine x_iload_n (i := 2) (dxX4_cellAt_0 16 rfl) rfl rfl ?_
      refine x_icmp_ne (tgt := 32) (dxX4_cellAt_0 17 rfl) (by decide) (fun hc => ?_) (fun hc => ?_)
      · replace h := h.1 hc
        obtain ⟨x5, e6⟩ : ∃ y : Int32, y = l3 + 1 := ⟨_, rfl⟩
        replace h := h x5 e6
        refine x_iinc (v := x5) (dxX4_cellAt_0 20 rfl) (i := 3) rfl (by rw [e6]; rfl) (Nat.le_of_ble_eq_true rfl) rfl rfl ?_
        refine x_goto (tgt := 2) (dxX4_cellAt_0 21 rfl) (by decide) ?_
        exact h
      · replace h := h.2 hc
        refine x_iload_n (i := 3) (dxX4_cellAt_0 18 rfl) rfl rfl ?_
        exact x_iret (ty := .int) rfl rfl (dxX4_cellAt_0 19 rfl) ⟨_, rfl, h⟩
theorem vcX4_hangsTogether {g : GV} {d : Nat} {P : Int32 → PS → Prop} {σ : PS} (hL : Lay σ) (o : Nat) (io : isF o) (h : VX4_hangsTogether g d P 4 [some (.ref o), some (.int 1), some (.int 0), none] [] σ) : CX4_hangsTogether g d [.ref o] σ P := by
  refine x_entry (L := [some (.ref o), none, none, none]) pn_4 (Nat.le_of_ble_eq_true rfl) ⟨3, rfl⟩ ?_
  show VX4_hangsTogether g d P 0 [some (.ref o), none, none, none] [] σ
  refine x_iconst (v := 1) (dxX4_hangsTogether_0 0 rfl) rfl ?_
  refine x_istore_n (i := 1) (dxX4_hangsTogether_0 1 rfl) rfl (Nat.le_of_ble_eq_true rfl) rfl rfl ?_
  refine x_iconst (v := 0) (dxX4_hangsTogether_0 2 rfl) rfl ?_
  refine x_istore_n (i := 2) (dxX4_hangsTogether_0 3 rfl) rfl (Nat.le_of_ble_eq_true rfl) rfl rfl ?_
  exact h
theorem vcX4_hangsTogether_4 {g : GV} {d : Nat} {P : Int32 → PS → Prop} {σ : PS} (hL : Lay σ) (l0 : Nat) (il0 : isF l0) (l1 : Int32) (l2 : Int32) (h : ((mi σ l0 3) ≤ l2 → (¬ l1 = ((jshl 1 (mi σ l0 3)) - 1) → P 0 σ) ∧ (l1 = ((jshl 1 (mi σ l0 3)) - 1) → P 1 σ)) ∧ (¬ (mi σ l0 3) ≤ l2 → VX4_hangsTogether g d P 14 [some (.ref l0), some (.int l1), some (.int l2), some (.int 0)] [] σ)) : VX4_hangsTogether g d P 4 [some (.ref l0), some (.int l1), some (.int l2), none] [] σ := by
  refine x_iload_n (i := 2) (dxX4_hangsTogether_0 4 rfl) rfl rfl ?_
  refine x_aload_n (i := 0) (dxX4_hangsTogether_0 5 rfl) rfl rfl ?_
  refine gf_4_38 (kisF hL il0) rfl (dxX4_hangsTogether_0 6 rfl) ?_
  refine x_icmp_ge (tgt := 67) (dxX4_hangsTogether_0 7 rfl) (by decide) (fun hc => ?_) (fun hc => ?_)
  · replace h := h.1 hc
    refine x_iload_n (i := 1) (dxX4_hangsTogether_1 11 rfl) rfl rfl ?_
    refine x_iconst (v := 1) (dxX4_hangsTogether_1 12 rfl) rfl ?_
    refine x_aload_n (i := 0) (dxX4_hangsTogether_1 13 rfl) rfl rfl ?_
    refine gf_4_38 (kisF hL il0) rfl (dxX4_hangsTogether_1 14 rfl) ?_
    refine x_ishl (dxX4_hangsTogether_1 15 rfl) ?_
    refine x_iconst (v := 1) (dxX4_hangsTogether_1 16 rfl) rfl ?_
    refine x_isub (dxX4_hangsTogether_1 17 rfl) ?_
    refine x_icmp_ne (tgt := 83) (dxX4_hangsTogether_1 18 rfl) (by decide) (fun hc => ?_) (fun hc => ?_)
    · replace h := h.1 hc
      refine x_iconst (v := 0) (dxX4_hangsTogether_1 21 rfl) rfl ?_
      exact x_iret (ty := .boolean) rfl rfl (dxX4_hangsTogether_1 22 rfl) ⟨_, rfl, h⟩
    · replace h := h.2 hc
      refine x_iconst (v := 1) (dxX4_hangsTogether_1 19 rfl) rfl ?_
      refine x_goto (tgt := 84) (dxX4_hangsTogether_1 20 rfl) (by decide) ?_
      exact x_iret (ty := .boolean) rfl rfl (dxX4_hangsTogether_1 22 rfl) ⟨_, rfl, h⟩
  · replace h := h.2 hc
    refine x_iconst (v := 0) (dxX4_hangsTogether_0 8 rfl) rfl ?_
    refine x_istore_n (i := 3) (dxX4_hangsTogether_0 9 rfl) rfl (Nat.le_of_ble_eq_true rfl) rfl rfl ?_
    exact h
theorem vcX4_hangsTogether_14 {g : GV} {d : Nat} {P : Int32 → PS → Prop} {σ : PS} (hL : Lay σ) (l0 : Nat) (il0 : isF l0) (l1 : Int32) (l2 : Int32) (l3 : Int32) (h : (((mi σ l0 3) * 4) ≤ l3 → ∀ x1 : Int32, x1 = l2 + 1 → VX4_hangsTogether g d P 4 [some (.ref l0), some (.int l1), some (.int x1), none] [] σ) ∧ (¬ ((mi σ l0 3) * 4) ≤ l3 → (((jshr l1 (l3 / 4)) &&& 1) = 0 → ∀ x3 : Int32, x3 = l3 + 1 → VX4_hangsTogether g d P 14 [some (.ref l0), some (.int l1), some (.int l2), some (.int x3)] [] σ) ∧ (¬ ((jshr l1 (l3 / 4)) &&& 1) = 0 → vp_in l3 40 ∧ ((mi σ (l0 + 4) (Int32.toNatClampNeg l3)) = (-1) → ∀ x6 : Int32, x6 = l3 + 1 → VX4_hangsTogether g d P 14 [some (.ref l0), some (.int l1), some (.int l2), some (.int x6)] [] σ) ∧ (¬ (mi σ (l0 + 4) (Int32.toNatClampNeg l3)) = (-1) → vp_in l3 40 ∧ ∀ x9 : Int32, x9 = l1 ||| (jshl 1 (mi σ (l0 + 4) (Int32.toNatClampNeg l3))) → ∀ x11 : Int32, x11 = l3 + 1 → VX4_hangsTogether g d P 14 [some (.ref l0), some (.int x9), some (.int l2), some (.int x11)] [] σ)))) : VX4_hangsTogether g d P 14 [some (.ref l0), some (.int l1), some (.int l2), some (.int l3)] [] σ := by
  refine x_iload_n (i := 3) (dxX4_hangsTogether_0 10 rfl) rfl rfl ?_
  refine x_aload_n (i := 0) (dxX4_hangsTogether_0 11 rfl) rfl rfl ?_
  refine gf_4_38 (kisF hL il0) rfl (dxX4_hangsTogether_0 12 rfl) ?_
  refine x_iconst (v := 4) (dxX4_hangsTogether_0 13 rfl) rfl ?_
  refine x_imul (dxX4_hangsTogether_0 14 rfl) ?_
  refine x_icmp_ge (tgt := 61) (dxX4_hangsTogether_0 15 rfl) (by decide) (fun hc => ?_) (fun hc => ?_)
  · replace h := h.1 hc
    obtain ⟨x1, e2⟩ : ∃ y : Int32, y = l2 + 1 := ⟨_, rfl⟩
    replace h := h x1 e2
    refine x_iinc (v := x1) (dxX4_hangsTogether_1 9 rfl) (i := 2) rfl (by rw [e2]; rfl) (Nat.le_of_ble_eq_true rfl) rfl rfl ?_
    refine x_goto (tgt := 4) (dxX4_hangsTogether_1 10 rfl) (by decide) ?_
    refine x_mask [true, true, true, false] (L1 := [some (.ref l0), some (.int l1), some (.int x1), none]) rfl ?_
    exact h
  · replace h := h.2 hc
    refine x_iload_n (i := 1) (dxX4_hangsTogether_0 16 rfl) rfl rfl ?_
    refine x_iload_n (i := 3) (dxX4_hangsTogether_0 17 rfl) rfl rfl ?_
    refine x_iconst (v := 4) (dxX4_hangsTogether_0 18 rfl) rfl ?_
    refine x_idiv (dxX4_hangsTogether_0 19 rfl) (by decide) ?_
    refine x_ishr (dxX4_hangsTogether_0 20 rfl) ?_
    refine x_iconst (v := 1) (dxX4_hangsTogether_0 21 rfl) rfl ?_
    refine x_iand (dxX4_hangsTogether_0 22 rfl) ?_
    refine x_if_eq (tgt := 55) (dxX4_hangsTogether_0 23 rfl) (by decide) (fun hc => ?_) (fun hc => ?_)
    · replace h := h.1 hc
      obtain ⟨x3, e4⟩ : ∃ y : Int32, y = l3 + 1 := ⟨_, rfl⟩
      replace h := h x3 e4
      refine x_iinc (v := x3) (dxX4_hangsTogether_1 7 rfl) (i := 3) rfl (by rw [e4]; rfl) (Nat.le_of_ble_eq_true rfl) rfl rfl ?_
      refine x_goto (tgt := 14) (dxX4_hangsTogether_1 8 rfl) (by decide) ?_
      exact h
    · replace h := h.2 hc
      refine x_aload_n (i := 0) (dxX4_hangsTogether_0 24 rfl) rfl rfl ?_
      refine gf_4_23 (kisF hL il0) (risF_4 hL il0) (dxX4_hangsTogether_0 25 rfl) ?_
      refine x_iload_n (i := 3) (dxX4_hangsTogether_0 26 rfl) rfl rfl ?_
      obtain ⟨hi5, h⟩ := h
      refine x_iald (kisF_4 hL il0) hi5 (dxX4_hangsTogether_0 27 rfl) ?_
      refine x_iconst (v := (-1)) (dxX4_hangsTogether_0 28 rfl) rfl ?_
      refine x_icmp_eq (tgt := 55) (dxX4_hangsTogether_0 29 rfl) (by decide) (fun hc => ?_) (fun hc => ?_)
      · replace h := h.1 hc
        obtain ⟨x6, e7⟩ : ∃ y : Int32, y = l3 + 1 := ⟨_, rfl⟩
        replace h := h x6 e7
        refine x_iinc (v := x6) (dxX4_hangsTogether_1 7 rfl) (i := 3) rfl (by rw [e7]; rfl) (Nat.le_of_ble_eq_true rfl) rfl rfl ?_
        refine x_goto (tgt := 14) (dxX4_hangsTogether_1 8 rfl) (by decide) ?_
        exact h
      · replace h := h.2 hc
        refine x_iload_n (i := 1) (dxX4_hangsTogether_0 30 rfl) rfl rfl ?_
        refine x_iconst (v := 1) (dxX4_hangsTogether_0 31 rfl) rfl ?_
        refine x_aload_n (i := 0) (dxX4_hangsTogether_1 0 rfl) rfl rfl ?_
        refine gf_4_23 (kisF hL il0) (risF_4 hL il0) (dxX4_hangsTogether_1 1 rfl) ?_
        refine x_iload_n (i := 3) (dxX4_hangsTogether_1 2 rfl) rfl rfl ?_
        obtain ⟨hi8, h⟩ := h
        refine x_iald (kisF_4 hL il0) hi8 (dxX4_hangsTogether_1 3 rfl) ?_
        refine x_ishl (dxX4_hangsTogether_1 4 rfl) ?_
        refine x_ior (dxX4_hangsTogether_1 5 rfl) ?_
        refine x_topi (fun x9 e10 => ?_)
        replace h := h x9 e10
        refine x_istore_n (i := 1) (dxX4_hangsTogether_1 6 rfl) rfl (Nat.le_of_ble_eq_true rfl) rfl rfl ?_
        obtain ⟨x11, e12⟩ : ∃ y : Int32, y = l3 + 1 := ⟨_, rfl⟩
        replace h := h x11 e12
        refine x_iinc (v := x11) (dxX4_hangsTogether_1 7 rfl) (i := 3) rfl (by rw [e12]; rfl) (Nat.le_of_ble_eq_true rfl) rfl rfl ?_
        refine x_goto (tgt := 14) (dxX4_hangsTogether_1 8 rfl) (by decide) ?_
        exact h
theorem vcX4_traceRim {g : GV} {d : Nat} {P : PS → Prop} {σ : PS} (hL : Lay σ) (o : Nat) (io : isF o) (h : ∀ s1 : PS, s1 = si σ o 6 0 → VX4_traceRim g d P 14 [some (.ref o), some (.int 0), some (.int 0), some (.int 0), some (.int 0), none, none, none] [] s1) : CX4_traceRim g d [.ref o] σ P := by
  refine x_entry (L := [some (.ref o), none, none, none, none, none, none, none]) pn_4 (Nat.le_of_ble_eq_true rfl) ⟨7, rfl⟩ ?_
  show VX4_traceRim g d P 0 [some (.ref o), none, none, none, none, none, none, none] [] σ
  refine x_aload_n (i := 0) (dxX4_traceRim_0 0 rfl) rfl rfl ?_
  refine x_iconst (v := 0) (dxX4_traceRim_0 1 rfl) rfl ?_
  refine pf_4_42 (kisF hL io) (dxX4_traceRim_0 2 rfl) ?_
  refine x_sto (fun s1 e2 => ?_)
  replace h := h s1 e2
  have hKs1 : kd s1 = kd σ := by rw [e2]; exact (rfl : kd σ = kd σ)
  have hLs1 : Lay s1 := by rw [e2]; exact hL.si
  refine x_iconst (v := 0) (dxX4_traceRim_0 3 rfl) rfl ?_
  refine x_istore_n (i := 1) (dxX4_traceRim_0 4 rfl) rfl (Nat.le_of_ble_eq_true rfl) rfl rfl ?_
  refine x_iconst (v := 0) (dxX4_traceRim_0 5 rfl) rfl ?_
  refine x_istore_n (i := 2) (dxX4_traceRim_0 6 rfl) rfl (Nat.le_of_ble_eq_true rfl) rfl rfl ?_
  refine x_iconst (v := 0) (dxX4_traceRim_0 7 rfl) rfl ?_
  refine x_istore_n (i := 3) (dxX4_traceRim_0 8 rfl) rfl (Nat.le_of_ble_eq_true rfl) rfl rfl ?_
  refine x_iconst (v := 0) (dxX4_traceRim_0 9 rfl) rfl ?_
  refine x_istore (dxX4_traceRim_0 10 rfl) (Nat.le_of_ble_eq_true rfl) rfl rfl ?_
  exact h
theorem vcX4_traceRim_14 {g : GV} {d : Nat} {P : PS → Prop} {σ : PS} (hL : Lay σ) (l0 : Nat) (il0 : isF l0) (l1 : Int32) (l2 : Int32) (l3 : Int32) (l4 : Int32) (h : (22 ≤ l4 → ∀ s3 : PS, s3 = si σ (l0 + 8) (Int32.toNatClampNeg 0) l3 → P s3) ∧ (¬ 22 ≤ l4 → vp_in ((l1 * 4) + l2) 40 ∧ (¬ (mi σ (l0 + 5) (Int32.toNatClampNeg ((l1 * 4) + l2))) = (-1) → ∀ s6 : PS, s6 = si σ (l0 + 8) (Int32.toNatClampNeg 0) l3 → P s6) ∧ ((mi σ (l0 + 5) (Int32.toNatClampNeg ((l1 * 4) + l2))) = (-1) → vp_in ((l1 * 4) + l2) 40 ∧ ∀ s9 : PS, s9 = si σ (l0 + 5) (Int32.toNatClampNeg ((l1 * 4) + l2)) l4 → vp_in l4 22 ∧ ∀ s12 : PS, s12 = si s9 (l0 + 6) (Int32.toNatClampNeg l4) l1 → vp_in l4 22 ∧ ∀ s15 : PS, s15 = si s12 (l0 + 7) (Int32.toNatClampNeg l4) l2 → vp_in l4 22 ∧ ∀ s18 : PS, s18 = si s15 (l0 + 8) (Int32.toNatClampNeg l4) l3 → ∀ s20 : PS, s20 = si s18 l0 6 ((mi s18 l0 6) + 1) → ∀ x22 : Int32, x22 = jrem (l2 + 1) 4 → vp_in ((l1 * 4) + x22) 40 ∧ ∀ x25 : Int32, x25 = mi s20 (l0 + 4) (Int32.toNatClampNeg ((l1 * 4) + x22)) → (¬ x25 = (-1) → vp_in ((x25 * 4) + l2) 40 ∧ ∀ x28 : Int32, x28 = mi s20 (l0 + 4) (Int32.toNatClampNeg ((x25 * 4) + l2)) → (¬ x25 = (-1) → (¬ x28 = (-1) → ∀ x30 : Int32, x30 = jrem (l2 + 3) 4 → ∀ x32 : Int32, x32 = l4 + 1 → VX4_traceRim g d P 14 [some (.ref l0), some (.int x28), some (.int x30), some (.int 3), some (.int x32), none, none, none] [] s20) ∧ (x28 = (-1) → ∀ x34 : Int32, x34 = l4 + 1 → VX4_traceRim g d P 14 [some (.ref l0), some (.int x25), some (.int l2), some (.int 2), some (.int x34), none, none, none] [] s20)) ∧ (x25 = (-1) → ∀ x36 : Int32, x36 = l4 + 1 → VX4_traceRim g d P 14 [some (.ref l0), some (.int l1), some (.int x22), some (.int 1), some (.int x36), none, none, none] [] s20)) ∧ (x25 = (-1) → (¬ x25 = (-1) → ∀ x38 : Int32, x38 = l4 + 1 → VX4_traceRim g d P 14 [some (.ref l0), some (.int x25), some (.int l2), some (.int 2), some (.int x38), none, none, none] [] s20) ∧ (x25 = (-1) → ∀ x40 : Int32, x40 = l4 + 1 → VX4_traceRim g d P 14 [some (.ref l0), some (.int l1), some (.int x22), some (.int 1), some (.int x40), none, none, none] [] s20))))) : VX4_traceRim g d P 14 [some (.ref l0), some (.int l1), some (.int l2), some (.int l3), some (.int l4), none, none, none] [] σ := by
  refine x_iload (dxX4_traceRim_0 11 rfl) rfl ?_
  refine x_bipush (v := 22) (dxX4_traceRim_0 12 rfl) rfl ?_
  refine x_icmp_ge (tgt := 169) (dxX4_traceRim_0 13 rfl) (by decide) (fun hc => ?_) (fun hc => ?_)
  · replace h := h.1 hc
    refine x_aload_n (i := 0) (dxX4_traceRim_3 15 rfl) rfl rfl ?_
    refine gf_4_35 (kisF hL il0) (risF_9 hL il0) (dxX4_traceRim_3 16 rfl) ?_
    refine x_iconst (v := 0) (dxX4_traceRim_3 17 rfl) rfl ?_
    refine x_iload_n (i := 3) (dxX4_traceRim_3 18 rfl) rfl rfl ?_
    refine x_iast (kisF_9 hL il0) (vpl 22 0 rfl) (dxX4_traceRim_3 19 rfl) ?_
    refine x_sto (fun s3 e4 => ?_)
    replace h := h s3 e4
    have hKs3 : kd s3 = kd σ := by rw [e4]; exact (rfl : kd σ = kd σ)
    have hLs3 : Lay s3 := by rw [e4]; exact hL.si
    exact x_vret rfl (dxX4_traceRim_3 20 rfl) ⟨rfl, h⟩
  · replace h := h.2 hc
    refine x_aload_n (i := 0) (dxX4_traceRim_0 14 rfl) rfl rfl ?_
    refine gf_4_26 (kisF hL il0) (risF_5 hL il0) (dxX4_traceRim_0 15 rfl) ?_
    refine x_iload_n (i := 1) (dxX4_traceRim_0 16 rfl) rfl rfl ?_
    refine x_iconst (v := 4) (dxX4_traceRim_0 17 rfl) rfl ?_
    refine x_imul (dxX4_traceRim_0 18 rfl) ?_
    refine x_iload_n (i := 2) (dxX4_traceRim_0 19 rfl) rfl rfl ?_
    refine x_iadd (dxX4_traceRim_0 20 rfl) ?_
    obtain ⟨hi5, h⟩ := h
    refine x_iald (kisF_5 hL il0) hi5 (dxX4_traceRim_0 21 rfl) ?_
    refine x_iconst (v := (-1)) (dxX4_traceRim_0 22 rfl) rfl ?_
    refine x_icmp_ne (tgt := 169) (dxX4_traceRim_0 23 rfl) (by decide) (fun hc => ?_) (fun hc => ?_)
    · replace h := h.1 hc
      refine x_aload_n (i := 0) (dxX4_traceRim_3 15 rfl) rfl rfl ?_
      refine gf_4_35 (kisF hL il0) (risF_9 hL il0) (dxX4_traceRim_3 16 rfl) ?_
      refine x_iconst (v := 0) (dxX4_traceRim_3 17 rfl) rfl ?_
      refine x_iload_n (i := 3) (dxX4_traceRim_3 18 rfl) rfl rfl ?_
      refine x_iast (kisF_9 hL il0) (vpl 22 0 rfl) (dxX4_traceRim_3 19 rfl) ?_
      refine x_sto (fun s6 e7 => ?_)
      replace h := h s6 e7
      have hKs6 : kd s6 = kd σ := by rw [e7]; exact (rfl : kd σ = kd σ)
      have hLs6 : Lay s6 := by rw [e7]; exact hL.si
      exact x_vret rfl (dxX4_traceRim_3 20 rfl) ⟨rfl, h⟩
    · replace h := h.2 hc
      refine x_aload_n (i := 0) (dxX4_traceRim_0 24 rfl) rfl rfl ?_
      refine gf_4_26 (kisF hL il0) (risF_5 hL il0) (dxX4_traceRim_0 25 rfl) ?_
      refine x_iload_n (i := 1) (dxX4_traceRim_0 26 rfl) rfl rfl ?_
      refine x_iconst (v := 4) (dxX4_traceRim_0 27 rfl) rfl ?_
      refine x_imul (dxX4_traceRim_0 28 rfl) ?_
      refine x_iload_n (i := 2) (dxX4_traceRim_0 29 rfl) rfl rfl ?_
      refine x_iadd (dxX4_traceRim_0 30 rfl) ?_
      refine x_iload (dxX4_traceRim_0 31 rfl) rfl ?_
      obtain ⟨hi8, h⟩ := h
      refine x_iast (kisF_5 hL il0) hi8 (dxX4_traceRim_1 0 rfl) ?_
      refine x_sto (fun s9 e10 => ?_)
      replace h := h s9 e10
      have hKs9 : kd s9 = kd σ := by rw [e10]; exact (rfl : kd σ = kd σ)
      have hLs9 : Lay s9 := by rw [e10]; exact hL.si
      refine x_aload_n (i := 0) (dxX4_traceRim_1 1 rfl) rfl rfl ?_
      refine gf_4_29 (kisF hLs9 il0) (risF_7 hLs9 il0) (dxX4_traceRim_1 2 rfl) ?_
      refine x_iload (dxX4_traceRim_1 3 rfl) rfl ?_
      refine x_iload_n (i := 1) (dxX4_traceRim_1 4 rfl) rfl rfl ?_
      obtain ⟨hi11, h⟩ := h
      refine x_iast (kisF_7 hLs9 il0) hi11 (dxX4_traceRim_1 5 rfl) ?_
      refine x_sto (fun s12 e13 => ?_)
      replace h := h s12 e13
      have hKs12 : kd s12 = kd σ := by rw [e13]; exact hKs9
      have hLs12 : Lay s12 := by rw [e13]; exact hLs9.si
      refine x_aload_n (i := 0) (dxX4_traceRim_1 6 rfl) rfl rfl ?_
      refine gf_4_32 (kisF hLs12 il0) (risF_8 hLs12 il0) (dxX4_traceRim_1 7 rfl) ?_
      refine x_iload (dxX4_traceRim_1 8 rfl) rfl ?_
      refine x_iload_n (i := 2) (dxX4_traceRim_1 9 rfl) rfl rfl ?_
      obtain ⟨hi14, h⟩ := h
      refine x_iast (kisF_8 hLs12 il0) hi14 (dxX4_traceRim_1 10 rfl) ?_
      refine x_sto (fun s15 e16 => ?_)
      replace h := h s15 e16
      have hKs15 : kd s15 = kd σ := by rw [e16]; exact hKs12
      have hLs15 : Lay s15 := by rw [e16]; exact hLs12.si
      refine x_aload_n (i := 0) (dxX4_traceRim_1 11 rfl) rfl rfl ?_
      refine gf_4_35 (kisF hLs15 il0) (risF_9 hLs15 il0) (dxX4_traceRim_1 12 rfl) ?_
      refine x_iload (dxX4_traceRim_1 13 rfl) rfl ?_
      refine x_iload_n (i := 3) (dxX4_traceRim_1 14 rfl) rfl rfl ?_
      obtain ⟨hi17, h⟩ := h
      refine x_iast (kisF_9 hLs15 il0) hi17 (dxX4_traceRim_1 15 rfl) ?_
      refine x_sto (fun s18 e19 => ?_)
      replace h := h s18 e19
      have hKs18 : kd s18 = kd σ := by rw [e19]; exact hKs15
      have hLs18 : Lay s18 := by rw [e19]; exact hLs15.si
      refine x_aload_n (i := 0) (dxX4_traceRim_1 16 rfl) rfl rfl ?_
      refine x_dup (dxX4_traceRim_1 17 rfl) rfl ?_
      refine gf_4_42 (kisF hLs18 il0) rfl (dxX4_traceRim_1 18 rfl) ?_
      refine x_iconst (v := 1) (dxX4_traceRim_1 19 rfl) rfl ?_
      refine x_iadd (dxX4_traceRim_1 20 rfl) ?_
      refine pf_4_42 (kisF hLs18 il0) (dxX4_traceRim_1 21 rfl) ?_
      refine x_sto (fun s20 e21 => ?_)
      replace h := h s20 e21
      have hKs20 : kd s20 = kd σ := by rw [e21]; exact hKs18
      have hLs20 : Lay s20 := by rw [e21]; exact hLs18.si
      refine x_iload_n (i := 2) (dxX4_traceRim_1 22 rfl) rfl rfl ?_
      refine x_iconst (v := 1) (dxX4_traceRim_1 23 rfl) rfl ?_
      refine x_iadd (dxX4_traceRim_1 24 rfl) ?_
      refine x_iconst (v := 4) (dxX4_traceRim_1 25 rfl) rfl ?_
      refine x_irem (dxX4_traceRim_1 26 rfl) (by decide) ?_
      refine x_topi (fun x22 e23 => ?_)
      replace h := h x22 e23
      refine x_istore (dxX4_traceRim_1 27 rfl) (Nat.le_of_ble_eq_true rfl) rfl rfl ?_
      refine x_aload_n (i := 0) (dxX4_traceRim_1 28 rfl) rfl rfl ?_
      refine gf_4_23 (kisF hLs20 il0) (risF_4 hLs20 il0) (dxX4_traceRim_1 29 rfl) ?_
      refine x_iload_n (i := 1) (dxX4_traceRim_1 30 rfl) rfl rfl ?_
      refine x_iconst (v := 4) (dxX4_traceRim_1 31 rfl) rfl ?_
      refine x_imul (dxX4_traceRim_2 0 rfl) ?_
      refine x_iload (dxX4_traceRim_2 1 rfl) rfl ?_
      refine x_iadd (dxX4_traceRim_2 2 rfl) ?_
      obtain ⟨hi24, h⟩ := h
      refine x_iald (kisF_4 hLs20 il0) hi24 (dxX4_traceRim_2 3 rfl) ?_
      refine x_topi (fun x25 e26 => ?_)
      replace h := h x25 e26
      refine x_istore (dxX4_traceRim_2 4 rfl) (Nat.le_of_ble_eq_true rfl) rfl rfl ?_
      refine x_iload (dxX4_traceRim_2 5 rfl) rfl ?_
      refine x_iconst (v := (-1)) (dxX4_traceRim_2 6 rfl) rfl ?_
      refine x_icmp_ne (tgt := 111) (dxX4_traceRim_2 7 rfl) (by decide) (fun hc => ?_) (fun hc => ?_)
      · replace h := h.1 hc
        refine x_aload_n (i := 0) (dxX4_traceRim_2 10 rfl) rfl rfl ?_
        refine gf_4_23 (kisF hLs20 il0) (risF_4 hLs20 il0) (dxX4_traceRim_2 11 rfl) ?_
        refine x_iload (dxX4_traceRim_2 12 rfl) rfl ?_
        refine x_iconst (v := 4) (dxX4_traceRim_2 13 rfl) rfl ?_
        refine x_imul (dxX4_traceRim_2 14 rfl) ?_
        refine x_iload_n (i := 2) (dxX4_traceRim_2 15 rfl) rfl rfl ?_
        refine x_iadd (dxX4_traceRim_2 16 rfl) ?_
        obtain ⟨hi27, h⟩ := h
        refine x_iald (kisF_4 hLs20 il0) hi27 (dxX4_traceRim_2 17 rfl) ?_
        refine x_topi (fun x28 e29 => ?_)
        replace h := h x28 e29
        refine x_istore (dxX4_traceRim_2 18 rfl) (Nat.le_of_ble_eq_true rfl) rfl rfl ?_
        refine x_iload (dxX4_traceRim_2 19 rfl) rfl ?_
        refine x_iconst (v := (-1)) (dxX4_traceRim_2 20 rfl) rfl ?_
        refine x_icmp_ne (tgt := 138) (dxX4_traceRim_2 21 rfl) (by decide) (fun hc => ?_) (fun hc => ?_)
        · replace h := h.1 hc
          refine x_iload (dxX4_traceRim_2 27 rfl) rfl ?_
          refine x_iconst (v := (-1)) (dxX4_traceRim_2 28 rfl) rfl ?_
          refine x_icmp_ne (tgt := 152) (dxX4_traceRim_2 29 rfl) (by decide) (fun hc => ?_) (fun hc => ?_)
          · replace h := h.1 hc
            refine x_iload (dxX4_traceRim_3 3 rfl) rfl ?_
            refine x_istore_n (i := 1) (dxX4_traceRim_3 4 rfl) rfl (Nat.le_of_ble_eq_true rfl) rfl rfl ?_
            refine x_iload_n (i := 2) (dxX4_traceRim_3 5 rfl) rfl rfl ?_
            refine x_iconst (v := 3) (dxX4_traceRim_3 6 rfl) rfl ?_
            refine x_iadd (dxX4_traceRim_3 7 rfl) ?_
            refine x_iconst (v := 4) (dxX4_traceRim_3 8 rfl) rfl ?_
            refine x_irem (dxX4_traceRim_3 9 rfl) (by decide) ?_
            refine x_topi (fun x30 e31 => ?_)
            replace h := h x30 e31
            refine x_istore_n (i := 2) (dxX4_traceRim_3 10 rfl) rfl (Nat.le_of_ble_eq_true rfl) rfl rfl ?_
            refine x_iconst (v := 3) (dxX4_traceRim_3 11 rfl) rfl ?_
            refine x_istore_n (i := 3) (dxX4_traceRim_3 12 rfl) rfl (Nat.le_of_ble_eq_true rfl) rfl rfl ?_
            obtain ⟨x32, e33⟩ : ∃ y : Int32, y = l4 + 1 := ⟨_, rfl⟩
            replace h := h x32 e33
            refine x_iinc (v := x32) (dxX4_traceRim_3 13 rfl) (i := 4) rfl (by rw [e33]; rfl) (Nat.le_of_ble_eq_true rfl) rfl rfl ?_
            refine x_goto (tgt := 14) (dxX4_traceRim_3 14 rfl) (by decide) ?_
            refine x_mask [true, true, true, true, true, false, false, false] (L1 := [some (.ref l0), some (.int x28), some (.int x30), some (.int 3), some (.int x32), none, none, none]) rfl ?_
            exact h
          · replace h := h.2 hc
            refine x_iload (dxX4_traceRim_2 30 rfl) rfl ?_
            refine x_istore_n (i := 1) (dxX4_traceRim_2 31 rfl) rfl (Nat.le_of_ble_eq_true rfl) rfl rfl ?_
            refine x_iconst (v := 2) (dxX4_traceRim_3 0 rfl) rfl ?_
            refine x_istore_n (i := 3) (dxX4_traceRim_3 1 rfl) rfl (Nat.le_of_ble_eq_true rfl) rfl rfl ?_
            refine x_goto (tgt := 163) (dxX4_traceRim_3 2 rfl) (by decide) ?_
            obtain ⟨x34, e35⟩ : ∃ y : Int32, y = l4 + 1 := ⟨_, rfl⟩
            replace h := h x34 e35
            refine x_iinc (v := x34) (dxX4_traceRim_3 13 rfl) (i := 4) rfl (by rw [e35]; rfl) (Nat.le_of_ble_eq_true rfl) rfl rfl ?_
            refine x_goto (tgt := 14) (dxX4_traceRim_3 14 rfl) (by decide) ?_
            refine x_mask [true, true, true, true, true, false, false, false] (L1 := [some (.ref l0), some (.int x25), some (.int l2), some (.int 2), some (.int x34), none, none, none]) rfl ?_
            exact h
        · replace h := h.2 hc
          refine x_iload (dxX4_traceRim_2 22 rfl) rfl ?_
          refine x_istore_n (i := 2) (dxX4_traceRim_2 23 rfl) rfl (Nat.le_of_ble_eq_true rfl) rfl rfl ?_
          refine x_iconst (v := 1) (dxX4_traceRim_2 24 rfl) rfl ?_
          refine x_istore_n (i := 3) (dxX4_traceRim_2 25 rfl) rfl (Nat.le_of_ble_eq_true rfl) rfl rfl ?_
          refine x_goto (tgt := 163) (dxX4_traceRim_2 26 rfl) (by decide) ?_
          obtain ⟨x36, e37⟩ : ∃ y : Int32, y = l4 + 1 := ⟨_, rfl⟩
          replace h := h x36 e37
          refine x_iinc (v := x36) (dxX4_traceRim_3 13 rfl) (i := 4) rfl (by rw [e37]; rfl) (Nat.le_of_ble_eq_true rfl) rfl rfl ?_
          refine x_goto (tgt := 14) (dxX4_traceRim_3 14 rfl) (by decide) ?_
          refine x_mask [true, true, true, true, true, false, false, false] (L1 := [some (.ref l0), some (.int l1), some (.int x22), some (.int 1), some (.int x36), none, none, none]) rfl ?_
          exact h
      · replace h := h.2 hc
        refine x_iconst (v := (-1)) (dxX4_traceRim_2 8 rfl) rfl ?_
        refine x_goto (tgt := 122) (dxX4_traceRim_2 9 rfl) (by decide) ?_
        refine x_istore (dxX4_traceRim_2 18 rfl) (Nat.le_of_ble_eq_true rfl) rfl rfl ?_
        refine x_iload (dxX4_traceRim_2 19 rfl) rfl ?_
        refine x_iconst (v := (-1)) (dxX4_traceRim_2 20 rfl) rfl ?_
        refine x_icmp_ne (tgt := 138) (dxX4_traceRim_2 21 rfl) (by decide) (fun hc => ?_) (fun hc => ?_)
        · replace h := h.1 hc
          refine x_iload (dxX4_traceRim_2 27 rfl) rfl ?_
          refine x_iconst (v := (-1)) (dxX4_traceRim_2 28 rfl) rfl ?_
          refine x_icmp_ne (tgt := 152) (dxX4_traceRim_2 29 rfl) (by decide) (fun hc => ?_) (fun hc => ?_)
          · exact absurd hc (by decide)
          · clear hc
            refine x_iload (dxX4_traceRim_2 30 rfl) rfl ?_
            refine x_istore_n (i := 1) (dxX4_traceRim_2 31 rfl) rfl (Nat.le_of_ble_eq_true rfl) rfl rfl ?_
            refine x_iconst (v := 2) (dxX4_traceRim_3 0 rfl) rfl ?_
            refine x_istore_n (i := 3) (dxX4_traceRim_3 1 rfl) rfl (Nat.le_of_ble_eq_true rfl) rfl rfl ?_
            refine x_goto (tgt := 163) (dxX4_traceRim_3 2 rfl) (by decide) ?_
            obtain ⟨x38, e39⟩ : ∃ y : Int32, y = l4 + 1 := ⟨_, rfl⟩
            replace h := h x38 e39
            refine x_iinc (v := x38) (dxX4_traceRim_3 13 rfl) (i := 4) rfl (by rw [e39]; rfl) (Nat.le_of_ble_eq_true rfl) rfl rfl ?_
            refine x_goto (tgt := 14) (dxX4_traceRim_3 14 rfl) (by decide) ?_
            refine x_mask [true, true, true, true, true, false, false, false] (L1 := [some (.ref l0), some (.int x25), some (.int l2), some (.int 2), some (.int x38), none, none, none]) rfl ?_
            exact h
        · replace h := h.2 hc
          refine x_iload (dxX4_traceRim_2 22 rfl) rfl ?_
          refine x_istore_n (i := 2) (dxX4_traceRim_2 23 rfl) rfl (Nat.le_of_ble_eq_true rfl) rfl rfl ?_
          refine x_iconst (v := 1) (dxX4_traceRim_2 24 rfl) rfl ?_
          refine x_istore_n (i := 3) (dxX4_traceRim_2 25 rfl) rfl (Nat.le_of_ble_eq_true rfl) rfl rfl ?_
          refine x_goto (tgt := 163) (dxX4_traceRim_2 26 rfl) (by decide) ?_
          obtain ⟨x40, e41⟩ : ∃ y : Int32, y = l4 + 1 := ⟨_, rfl⟩
          replace h := h x40 e41
          refine x_iinc (v := x40) (dxX4_traceRim_3 13 rfl) (i := 4) rfl (by rw [e41]; rfl) (Nat.le_of_ble_eq_true rfl) rfl rfl ?_
          refine x_goto (tgt := 14) (dxX4_traceRim_3 14 rfl) (by decide) ?_
          refine x_mask [true, true, true, true, true, false, false, false] (L1 := [some (.ref l0), some (.int l1), some (.int x22), some (.int 1), some (.int x40), none, none, none]) rfl ?_
          exact h
