theorem vcJ7_fill_53178 {g : GV} {d : Nat} {P : PS → Prop} {σ : PS} (hL : Lay σ) (p0 np0 : Nat) (kp0 : kd σ p0 = some (.inr (0, np0))) (p1 : Int32) (h : ∀ x1 : Int32, x1 = nI np0 → VJ7_fill_53178 g d P 5 [some (.ref p0), some (.int p1), some (.int 0), some (.int x1)] [] σ) : CJ7_fill_53178 g d [.ref p0, .int p1] σ P := by
  refine x_entry (L := [some (.ref p0), some (.int p1), none, none]) (by decide +kernel) (Nat.le_of_ble_eq_true rfl) ⟨2, rfl⟩ ?_
  show VJ7_fill_53178 g d P 0 [some (.ref p0), some (.int p1), none, none] [] σ
  refine x_iconst (v := 0) (dxJ7_fill_53178_0 0 rfl) rfl ?_
  refine x_istore_n (i := 2) (dxJ7_fill_53178_0 1 rfl) rfl (Nat.le_of_ble_eq_true rfl) rfl rfl ?_
  refine x_aload_n (i := 0) (dxJ7_fill_53178_0 2 rfl) rfl rfl ?_
  refine x_alen (Nat.le_of_ble_eq_true rfl) ((congrFun (rfl : kd σ = kd σ) _).trans kp0) (dxJ7_fill_53178_0 3 rfl) ?_
  refine x_topi (fun x1 e2 => ?_)
  replace h := h x1 e2
  refine x_istore_n (i := 3) (dxJ7_fill_53178_0 4 rfl) rfl (Nat.le_of_ble_eq_true rfl) rfl rfl ?_
  exact h
theorem vcJ7_fill_53178_5 {g : GV} {d : Nat} {P : PS → Prop} {σ : PS} (hL : Lay σ) (l0 nl0 : Nat) (kl0 : kd σ l0 = some (.inr (0, nl0))) (l1 : Int32) (l2 : Int32) (l3 : Int32) (h : (l3 ≤ l2 → P σ) ∧ (¬ l3 ≤ l2 → vp_in l2 nl0 ∧ ∀ s4 : PS, s4 = si σ l0 (Int32.toNatClampNeg l2) l1 → ∀ x6 : Int32, x6 = l2 + 1 → VJ7_fill_53178 g d P 5 [some (.ref l0), some (.int l1), some (.int x6), some (.int l3)] [] s4)) : VJ7_fill_53178 g d P 5 [some (.ref l0), some (.int l1), some (.int l2), some (.int l3)] [] σ := by
  refine x_iload_n (i := 2) (dxJ7_fill_53178_0 5 rfl) rfl rfl ?_
  refine x_iload_n (i := 3) (dxJ7_fill_53178_0 6 rfl) rfl rfl ?_
  refine x_icmp_ge (tgt := 20) (dxJ7_fill_53178_0 7 rfl) (by decide) (fun hc => ?_) (fun hc => ?_)
  · replace h := h.1 hc
    exact x_vret rfl (dxJ7_fill_53178_0 14 rfl) ⟨rfl, h⟩
  · replace h := h.2 hc
    refine x_aload_n (i := 0) (dxJ7_fill_53178_0 8 rfl) rfl rfl ?_
    refine x_iload_n (i := 2) (dxJ7_fill_53178_0 9 rfl) rfl rfl ?_
    refine x_iload_n (i := 1) (dxJ7_fill_53178_0 10 rfl) rfl rfl ?_
    obtain ⟨hi3, h⟩ := h
    refine x_iast ((congrFun (rfl : kd σ = kd σ) _).trans kl0) hi3 (dxJ7_fill_53178_0 11 rfl) ?_
    refine x_sto (fun s4 e5 => ?_)
    replace h := h s4 e5
    have hKs4 : kd s4 = kd σ := by rw [e5]; exact (rfl : kd σ = kd σ)
    have hLs4 : Lay s4 := by rw [e5]; exact hL.si
    obtain ⟨x6, e7⟩ : ∃ y : Int32, y = l2 + 1 := ⟨_, rfl⟩
    replace h := h x6 e7
    refine x_iinc (v := x6) (dxJ7_fill_53178_0 12 rfl) (i := 2) rfl (by rw [e7]; rfl) (Nat.le_of_ble_eq_true rfl) rfl rfl ?_
    refine x_goto (tgt := 5) (dxJ7_fill_53178_0 13 rfl) (by decide) ?_
    exact h
theorem vcJ7_fill_d0a16 {g : GV} {d : Nat} {P : PS → Prop} {σ : PS} (hL : Lay σ) (p0 np0 : Nat) (kp0 : kd σ p0 = some (.inr (1, np0))) (p1 : Int64) (h : ∀ x1 : Int32, x1 = nI np0 → VJ7_fill_d0a16 g d P 6 [some (.ref p0), some (.long p1), none, some (.int 0), some (.int x1)] [] σ) : CJ7_fill_d0a16 g d [.ref p0, .long p1] σ P := by
  refine x_entry (L := [some (.ref p0), some (.long p1), none, none, none]) (by decide +kernel) (Nat.le_of_ble_eq_true rfl) ⟨2, rfl⟩ ?_
  show VJ7_fill_d0a16 g d P 0 [some (.ref p0), some (.long p1), none, none, none] [] σ
  refine x_iconst (v := 0) (dxJ7_fill_d0a16_0 0 rfl) rfl ?_
  refine x_istore_n (i := 3) (dxJ7_fill_d0a16_0 1 rfl) rfl (Nat.le_of_ble_eq_true rfl) rfl rfl ?_
  refine x_aload_n (i := 0) (dxJ7_fill_d0a16_0 2 rfl) rfl rfl ?_
  refine x_alen (Nat.le_of_ble_eq_true rfl) ((congrFun (rfl : kd σ = kd σ) _).trans kp0) (dxJ7_fill_d0a16_0 3 rfl) ?_
  refine x_topi (fun x1 e2 => ?_)
  replace h := h x1 e2
  refine x_istore (dxJ7_fill_d0a16_0 4 rfl) (Nat.le_of_ble_eq_true rfl) rfl rfl ?_
  exact h
theorem vcJ7_fill_d0a16_6 {g : GV} {d : Nat} {P : PS → Prop} {σ : PS} (hL : Lay σ) (l0 nl0 : Nat) (kl0 : kd σ l0 = some (.inr (1, nl0))) (l1 : Int64) (l3 : Int32) (l4 : Int32) (h : (l4 ≤ l3 → P σ) ∧ (¬ l4 ≤ l3 → vp_in l3 nl0 ∧ ∀ s4 : PS, s4 = sj σ l0 (Int32.toNatClampNeg l3) l1 → ∀ x6 : Int32, x6 = l3 + 1 → VJ7_fill_d0a16 g d P 6 [some (.ref l0), some (.long l1), none, some (.int x6), some (.int l4)] [] s4)) : VJ7_fill_d0a16 g d P 6 [some (.ref l0), some (.long l1), none, some (.int l3), some (.int l4)] [] σ := by
  refine x_iload_n (i := 3) (dxJ7_fill_d0a16_0 5 rfl) rfl rfl ?_
  refine x_iload (dxJ7_fill_d0a16_0 6 rfl) rfl ?_
  refine x_icmp_ge (tgt := 22) (dxJ7_fill_d0a16_0 7 rfl) (by decide) (fun hc => ?_) (fun hc => ?_)
  · replace h := h.1 hc
    exact x_vret rfl (dxJ7_fill_d0a16_0 14 rfl) ⟨rfl, h⟩
  · replace h := h.2 hc
    refine x_aload_n (i := 0) (dxJ7_fill_d0a16_0 8 rfl) rfl rfl ?_
    refine x_iload_n (i := 3) (dxJ7_fill_d0a16_0 9 rfl) rfl rfl ?_
    refine x_lload_n (i := 1) (dxJ7_fill_d0a16_0 10 rfl) rfl rfl ?_
    obtain ⟨hi3, h⟩ := h
    refine x_last ((congrFun (rfl : kd σ = kd σ) _).trans kl0) hi3 (dxJ7_fill_d0a16_0 11 rfl) ?_
    refine x_sto (fun s4 e5 => ?_)
    replace h := h s4 e5
    have hKs4 : kd s4 = kd σ := by rw [e5]; exact (rfl : kd σ = kd σ)
    have hLs4 : Lay s4 := by rw [e5]; exact hL.sj
    obtain ⟨x6, e7⟩ : ∃ y : Int32, y = l3 + 1 := ⟨_, rfl⟩
    replace h := h x6 e7
    refine x_iinc (v := x6) (dxJ7_fill_d0a16_0 12 rfl) (i := 3) rfl (by rw [e7]; rfl) (Nat.le_of_ble_eq_true rfl) rfl rfl ?_
    refine x_goto (tgt := 6) (dxJ7_fill_d0a16_0 13 rfl) (by decide) ?_
    exact h
theorem vcJ6_bitCount_0f7a4 {g : GV} {d : Nat} {P : Int32 → PS → Prop} {σ : PS} (hL : Lay σ) (p0 : Int32) (h : ∀ x1 : Int32, x1 = p0 - ((jushr p0 1) &&& 1431655765) → ∀ x3 : Int32, x3 = (x1 &&& 858993459) + ((jushr x1 2) &&& 858993459) → ∀ x5 : Int32, x5 = (x3 + (jushr x3 4)) &&& 252645135 → ∀ x7 : Int32, x7 = x5 + (jushr x5 8) → ∀ x9 : Int32, x9 = x7 + (jushr x7 16) → P (x9 &&& 63) σ) : CJ6_bitCount_0f7a4 g d [.int p0] σ P := by
  refine x_entry (L := [some (.int p0)]) (by decide +kernel) (Nat.le_of_ble_eq_true rfl) ⟨0, rfl⟩ ?_
  show VJ6_bitCount_0f7a4 g d P 0 [some (.int p0)] [] σ
  refine x_iload_n (i := 0) (dxJ6_bitCount_0f7a4_0 0 rfl) rfl rfl ?_
  refine x_iload_n (i := 0) (dxJ6_bitCount_0f7a4_0 1 rfl) rfl rfl ?_
  refine x_iconst (v := 1) (dxJ6_bitCount_0f7a4_0 2 rfl) rfl ?_
  refine x_iushr (dxJ6_bitCount_0f7a4_0 3 rfl) ?_
  refine x_ldcw (dxJ6_bitCount_0f7a4_0 4 rfl) gw_853 ?_
  refine x_iand (dxJ6_bitCount_0f7a4_0 5 rfl) ?_
  refine x_isub (dxJ6_bitCount_0f7a4_0 6 rfl) ?_
  refine x_topi (fun x1 e2 => ?_)
  replace h := h x1 e2
  refine x_istore_n (i := 0) (dxJ6_bitCount_0f7a4_0 7 rfl) rfl (Nat.le_of_ble_eq_true rfl) rfl rfl ?_
  refine x_iload_n (i := 0) (dxJ6_bitCount_0f7a4_0 8 rfl) rfl rfl ?_
  refine x_ldcw (dxJ6_bitCount_0f7a4_0 9 rfl) gw_854 ?_
  refine x_iand (dxJ6_bitCount_0f7a4_0 10 rfl) ?_
  refine x_iload_n (i := 0) (dxJ6_bitCount_0f7a4_0 11 rfl) rfl rfl ?_
  refine x_iconst (v := 2) (dxJ6_bitCount_0f7a4_0 12 rfl) rfl ?_
  refine x_iushr (dxJ6_bitCount_0f7a4_0 13 rfl) ?_
  refine x_ldcw (dxJ6_bitCount_0f7a4_0 14 rfl) gw_854 ?_
  refine x_iand (dxJ6_bitCount_0f7a4_0 15 rfl) ?_
  refine x_iadd (dxJ6_bitCount_0f7a4_0 16 rfl) ?_
  refine x_topi (fun x3 e4 => ?_)
  replace h := h x3 e4
  refine x_istore_n (i := 0) (dxJ6_bitCount_0f7a4_0 17 rfl) rfl (Nat.le_of_ble_eq_true rfl) rfl rfl ?_
  refine x_iload_n (i := 0) (dxJ6_bitCount_0f7a4_0 18 rfl) rfl rfl ?_
  refine x_iload_n (i := 0) (dxJ6_bitCount_0f7a4_0 19 rfl) rfl rfl ?_
  refine x_iconst (v := 4) (dxJ6_bitCount_0f7a4_0 20 rfl) rfl ?_
  refine x_iushr (dxJ6_bitCount_0f7a4_0 21 rfl) ?_
  refine x_iadd (dxJ6_bitCount_0f7a4_0 22 rfl) ?_
  refine x_ldcw (dxJ6_bitCount_0f7a4_0 23 rfl) gw_855 ?_
  refine x_iand (dxJ6_bitCount_0f7a4_0 24 rfl) ?_
  refine x_topi (fun x5 e6 => ?_)
  replace h := h x5 e6
  refine x_istore_n (i := 0) (dxJ6_bitCount_0f7a4_0 25 rfl) rfl (Nat.le_of_ble_eq_true rfl) rfl rfl ?_
  refine x_iload_n (i := 0) (dxJ6_bitCount_0f7a4_0 26 rfl) rfl rfl ?_
  refine x_iload_n (i := 0) (dxJ6_bitCount_0f7a4_0 27 rfl) rfl rfl ?_
  refine x_bipush (v := 8) (dxJ6_bitCount_0f7a4_0 28 rfl) rfl ?_
  refine x_iushr (dxJ6_bitCount_0f7a4_0 29 rfl) ?_
  refine x_iadd (dxJ6_bitCount_0f7a4_0 30 rfl) ?_
  refine x_topi (fun x7 e8 => ?_)
  replace h := h x7 e8
  refine x_istore_n (i := 0) (dxJ6_bitCount_0f7a4_0 31 rfl) rfl (Nat.le_of_ble_eq_true rfl) rfl rfl ?_
  refine x_iload_n (i := 0) (dxJ6_bitCount_0f7a4_1 0 rfl) rfl rfl ?_
  refine x_iload_n (i := 0) (dxJ6_bitCount_0f7a4_1 1 rfl) rfl rfl ?_
  refine x_bipush (v := 16) (dxJ6_bitCount_0f7a4_1 2 rfl) rfl ?_
  refine x_iushr (dxJ6_bitCount_0f7a4_1 3 rfl) ?_
  refine x_iadd (dxJ6_bitCount_0f7a4_1 4 rfl) ?_
  refine x_topi (fun x9 e10 => ?_)
  replace h := h x9 e10
  refine x_istore_n (i := 0) (dxJ6_bitCount_0f7a4_1 5 rfl) rfl (Nat.le_of_ble_eq_true rfl) rfl rfl ?_
  refine x_iload_n (i := 0) (dxJ6_bitCount_0f7a4_1 6 rfl) rfl rfl ?_
  refine x_bipush (v := 63) (dxJ6_bitCount_0f7a4_1 7 rfl) rfl ?_
  refine x_iand (dxJ6_bitCount_0f7a4_1 8 rfl) ?_
  exact x_iret (ty := .int) rfl rfl (dxJ6_bitCount_0f7a4_1 9 rfl) ⟨_, rfl, h⟩
theorem vcJ13_bitCount_95d88 {g : GV} {d : Nat} {P : Int32 → PS → Prop} {σ : PS} (hL : Lay σ) (p0 : Int64) (h : ∀ x1 : Int64, x1 = p0 - ((jlushr p0 1) &&& 6148914691236517205) → ∀ x3 : Int64, x3 = (x1 &&& 3689348814741910323) + ((jlushr x1 2) &&& 3689348814741910323) → ∀ x5 : Int64, x5 = (x3 + (jlushr x3 4)) &&& 1085102592571150095 → ∀ x7 : Int64, x7 = x5 + (jlushr x5 8) → ∀ x9 : Int64, x9 = x7 + (jlushr x7 16) → ∀ x11 : Int64, x11 = x9 + (jlushr x9 32) → P ((Int64.toInt32 x11) &&& 127) σ) : CJ13_bitCount_95d88 g d [.long p0] σ P := by
  refine x_entry (L := [some (.long p0), none]) (by decide +kernel) (Nat.le_of_ble_eq_true rfl) ⟨0, rfl⟩ ?_
  show VJ13_bitCount_95d88 g d P 0 [some (.long p0), none] [] σ
  refine x_lload_n (i := 0) (dxJ13_bitCount_95d88_0 0 rfl) rfl rfl ?_
  refine x_lload_n (i := 0) (dxJ13_bitCount_95d88_0 1 rfl) rfl rfl ?_
  refine x_iconst (v := 1) (dxJ13_bitCount_95d88_0 2 rfl) rfl ?_
  refine x_lushr (dxJ13_bitCount_95d88_0 3 rfl) ?_
  refine x_ldc2 (dxJ13_bitCount_95d88_0 4 rfl) gw_1089 ?_
  refine x_land (dxJ13_bitCount_95d88_0 5 rfl) ?_
  refine x_lsub (dxJ13_bitCount_95d88_0 6 rfl) ?_
  refine x_topl (fun x1 e2 => ?_)
  replace h := h x1 e2
  refine x_lstore_n (i := 0) (dxJ13_bitCount_95d88_0 7 rfl) rfl (Nat.le_of_ble_eq_true rfl) rfl rfl ?_
  refine x_lload_n (i := 0) (dxJ13_bitCount_95d88_0 8 rfl) rfl rfl ?_
  refine x_ldc2 (dxJ13_bitCount_95d88_0 9 rfl) gw_1090 ?_
  refine x_land (dxJ13_bitCount_95d88_0 10 rfl) ?_
  refine x_lload_n (i := 0) (dxJ13_bitCount_95d88_0 11 rfl) rfl rfl ?_
  refine x_iconst (v := 2) (dxJ13_bitCount_95d88_0 12 rfl) rfl ?_
  refine x_lushr (dxJ13_bitCount_95d88_0 13 rfl) ?_
  refine x_ldc2 (dxJ13_bitCount_95d88_0 14 rfl) gw_1090 ?_
  refine x_land (dxJ13_bitCount_95d88_0 15 rfl) ?_
  refine x_ladd (dxJ13_bitCount_95d88_0 16 rfl) ?_
  refine x_topl (fun x3 e4 => ?_)
  replace h := h x3 e4
  refine x_lstore_n (i := 0) (dxJ13_bitCount_95d88_0 17 rfl) rfl (Nat.le_of_ble_eq_true rfl) rfl rfl ?_
  refine x_lload_n (i := 0) (dxJ13_bitCount_95d88_0 18 rfl) rfl rfl ?_
  refine x_lload_n (i := 0) (dxJ13_bitCount_95d88_0 19 rfl) rfl rfl ?_
  refine x_iconst (v := 4) (dxJ13_bitCount_95d88_0 20 rfl) rfl ?_
  refine x_lushr (dxJ13_bitCount_95d88_0 21 rfl) ?_
  refine x_ladd (dxJ13_bitCount_95d88_0 22 rfl) ?_
  refine x_ldc2 (dxJ13_bitCount_95d88_0 23 rfl) gw_1091 ?_
  refine x_land (dxJ13_bitCount_95d88_0 24 rfl) ?_
  refine x_topl (fun x5 e6 => ?_)
  replace h := h x5 e6
  refine x_lstore_n (i := 0) (dxJ13_bitCount_95d88_0 25 rfl) rfl (Nat.le_of_ble_eq_true rfl) rfl rfl ?_
  refine x_lload_n (i := 0) (dxJ13_bitCount_95d88_0 26 rfl) rfl rfl ?_
  refine x_lload_n (i := 0) (dxJ13_bitCount_95d88_0 27 rfl) rfl rfl ?_
  refine x_bipush (v := 8) (dxJ13_bitCount_95d88_0 28 rfl) rfl ?_
  refine x_lushr (dxJ13_bitCount_95d88_0 29 rfl) ?_
  refine x_ladd (dxJ13_bitCount_95d88_0 30 rfl) ?_
  refine x_topl (fun x7 e8 => ?_)
  replace h := h x7 e8
  refine x_lstore_n (i := 0) (dxJ13_bitCount_95d88_0 31 rfl) rfl (Nat.le_of_ble_eq_true rfl) rfl rfl ?_
  refine x_lload_n (i := 0) (dxJ13_bitCount_95d88_1 0 rfl) rfl rfl ?_
  refine x_lload_n (i := 0) (dxJ13_bitCount_95d88_1 1 rfl) rfl rfl ?_
  refine x_bipush (v := 16) (dxJ13_bitCount_95d88_1 2 rfl) rfl ?_
  refine x_lushr (dxJ13_bitCount_95d88_1 3 rfl) ?_
  refine x_ladd (dxJ13_bitCount_95d88_1 4 rfl) ?_
  refine x_topl (fun x9 e10 => ?_)
  replace h := h x9 e10
  refine x_lstore_n (i := 0) (dxJ13_bitCount_95d88_1 5 rfl) rfl (Nat.le_of_ble_eq_true rfl) rfl rfl ?_
  refine x_lload_n (i := 0) (dxJ13_bitCount_95d88_1 6 rfl) rfl rfl ?_
  refine x_lload_n (i := 0) (dxJ13_bitCount_95d88_1 7 rfl) rfl rfl ?_
  refine x_bipush (v := 32) (dxJ13_bitCount_95d88_1 8 rfl) rfl ?_
  refine x_lushr (dxJ13_bitCount_95d88_1 9 rfl) ?_
  refine x_ladd (dxJ13_bitCount_95d88_1 10 rfl) ?_
  refine x_topl (fun x11 e12 => ?_)
  replace h := h x11 e12
  refine x_lstore_n (i := 0) (dxJ13_bitCount_95d88_1 11 rfl) rfl (Nat.le_of_ble_eq_true rfl) rfl rfl ?_
  refine x_lload_n (i := 0) (dxJ13_bitCount_95d88_1 12 rfl) rfl rfl ?_
  refine x_l2i (dxJ13_bitCount_95d88_1 13 rfl) ?_
  refine x_bipush (v := 127) (dxJ13_bitCount_95d88_1 14 rfl) rfl ?_
  refine x_iand (dxJ13_bitCount_95d88_1 15 rfl) ?_
  exact x_iret (ty := .int) rfl rfl (dxJ13_bitCount_95d88_1 16 rfl) ⟨_, rfl, h⟩
