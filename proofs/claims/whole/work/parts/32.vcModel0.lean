theorem vcX12_thrown {g : GV} {d : Nat} {P : Int32 → PS → Prop} {σ : PS} (hL : Lay σ)  (h : P (mi σ 179 0) σ) : CX12_thrown g d [.ref 179] σ P := by
  refine x_entry (L := [some (.ref 179)]) pn_12 (Nat.le_of_ble_eq_true rfl) ⟨0, rfl⟩ ?_
  show VX12_thrown g d P 0 [some (.ref 179)] [] σ
  refine x_aload_n (i := 0) (dxX12_thrown_0 0 rfl) rfl rfl ?_
  refine gf_12_184 (kd_179 hL) rfl (dxX12_thrown_0 1 rfl) ?_
  exact x_iret (ty := .int) rfl rfl (dxX12_thrown_0 2 rfl) ⟨_, rfl, h⟩
theorem vcX12_within {g : GV} {d : Nat} {P : Int32 → PS → Prop} {σ : PS} (hL : Lay σ) (p0 : Int32) (p1 : Int32) (p2 : Int32) (h : (p0 < p1 → P 0 σ) ∧ (¬ p0 < p1 → (p2 < p0 → P 0 σ) ∧ (¬ p2 < p0 → P 1 σ))) : CX12_within g d [.int p0, .int p1, .int p2] σ P := by
  refine x_entry (L := [some (.int p0), some (.int p1), some (.int p2)]) pn_12 (Nat.le_of_ble_eq_true rfl) ⟨0, rfl⟩ ?_
  show VX12_within g d P 0 [some (.int p0), some (.int p1), some (.int p2)] [] σ
  refine x_iload_n (i := 0) (dxX12_within_0 0 rfl) rfl rfl ?_
  refine x_iload_n (i := 1) (dxX12_within_0 1 rfl) rfl rfl ?_
  refine x_icmp_lt (tgt := 14) (dxX12_within_0 2 rfl) (by decide) (fun hc => ?_) (fun hc => ?_)
  · replace h := h.1 hc
    refine x_iconst (v := 0) (dxX12_within_0 8 rfl) rfl ?_
    exact x_iret (ty := .boolean) rfl rfl (dxX12_within_0 9 rfl) ⟨_, rfl, h⟩
  · replace h := h.2 hc
    refine x_iload_n (i := 0) (dxX12_within_0 3 rfl) rfl rfl ?_
    refine x_iload_n (i := 2) (dxX12_within_0 4 rfl) rfl rfl ?_
    refine x_icmp_gt (tgt := 14) (dxX12_within_0 5 rfl) (by decide) (fun hc => ?_) (fun hc => ?_)
    · replace h := h.1 hc
      refine x_iconst (v := 0) (dxX12_within_0 8 rfl) rfl ?_
      exact x_iret (ty := .boolean) rfl rfl (dxX12_within_0 9 rfl) ⟨_, rfl, h⟩
    · replace h := h.2 hc
      refine x_iconst (v := 1) (dxX12_within_0 6 rfl) rfl ?_
      refine x_goto (tgt := 15) (dxX12_within_0 7 rfl) (by decide) ?_
      exact x_iret (ty := .boolean) rfl rfl (dxX12_within_0 9 rfl) ⟨_, rfl, h⟩
theorem vcX12_feed {g : GV} {d : Nat} {P : Int32 → PS → Prop} {σ : PS} (hL : Lay σ) (p0 : Int64) (p1 : Int64) (p2 : Int64) (h : ∀ s1 : PS, s1 = si σ 179 0 0 → VX12_feed g d P 8 [some (.ref 179), some (.long p0), none, some (.long p1), none, some (.long p2), none, some (.int 0), none, none, none] [] s1) : CX12_feed g d [.ref 179, .long p0, .long p1, .long p2] σ P := by
  refine x_entry (L := [some (.ref 179), some (.long p0), none, some (.long p1), none, some (.long p2), none, none, none, none, none]) pn_12 (Nat.le_of_ble_eq_true rfl) ⟨4, rfl⟩ ?_
  show VX12_feed g d P 0 [some (.ref 179), some (.long p0), none, some (.long p1), none, some (.long p2), none, none, none, none, none] [] σ
  refine x_aload_n (i := 0) (dxX12_feed_0 0 rfl) rfl rfl ?_
  refine x_iconst (v := 0) (dxX12_feed_0 1 rfl) rfl ?_
  refine pf_12_184 (kd_179 hL) (dxX12_feed_0 2 rfl) ?_
  refine x_sto (fun s1 e2 => ?_)
  replace h := h s1 e2
  have hKs1 : kd s1 = kd σ := by rw [e2]; exact (rfl : kd σ = kd σ)
  have hLs1 : Lay s1 := by rw [e2]; exact hL.si
  refine x_iconst (v := 0) (dxX12_feed_0 3 rfl) rfl ?_
  refine x_istore (dxX12_feed_0 4 rfl) (Nat.le_of_ble_eq_true rfl) rfl rfl ?_
  exact h
theorem vcX12_feed_8 {g : GV} {d : Nat} {P : Int32 → PS → Prop} {σ : PS} (hL : Lay σ) (l1 : Int64) (l3 : Int64) (l5 : Int64) (l7 : Int32) (h : (24 ≤ l7 → P (mi σ 179 1) σ) ∧ (¬ 24 ≤ l7 → (8 ≤ l7 → (16 ≤ l7 → VX12_feed g d P 39 [some (.ref 179), some (.long l1), none, some (.long l3), none, some (.long l5), none, some (.int l7), none, none, none] [.long l5] σ) ∧ (¬ 16 ≤ l7 → VX12_feed g d P 39 [some (.ref 179), some (.long l1), none, some (.long l3), none, some (.long l5), none, some (.int l7), none, none, none] [.long l3] σ)) ∧ (¬ 8 ≤ l7 → VX12_feed g d P 39 [some (.ref 179), some (.long l1), none, some (.long l3), none, some (.long l5), none, some (.int l7), none, none, none] [.long l1] σ))) : VX12_feed g d P 8 [some (.ref 179), some (.long l1), none, some (.long l3), none, some (.long l5), none, some (.int l7), none, none, none] [] σ := by
  refine x_iload (dxX12_feed_0 5 rfl) rfl ?_
  refine x_bipush (v := 24) (dxX12_feed_0 6 rfl) rfl ?_
  refine x_icmp_ge (tgt := 120) (dxX12_feed_0 7 rfl) (by decide) (fun hc => ?_) (fun hc => ?_)
  · replace h := h.1 hc
    refine x_aload_n (i := 0) (dxX12_feed_1 28 rfl) rfl rfl ?_
    refine gf_12_189 (kd_179 hL) rfl (dxX12_feed_1 29 rfl) ?_
    exact x_iret (ty := .int) rfl rfl (dxX12_feed_1 30 rfl) ⟨_, rfl, h⟩
  · replace h := h.2 hc
    refine x_iload (dxX12_feed_0 8 rfl) rfl ?_
    refine x_bipush (v := 8) (dxX12_feed_0 9 rfl) rfl ?_
    refine x_icmp_ge (tgt := 26) (dxX12_feed_0 10 rfl) (by decide) (fun hc => ?_) (fun hc => ?_)
    · replace h := h.1 hc
      refine x_iload (dxX12_feed_0 13 rfl) rfl ?_
      refine x_bipush (v := 16) (dxX12_feed_0 14 rfl) rfl ?_
      refine x_icmp_ge (tgt := 37) (dxX12_feed_0 15 rfl) (by decide) (fun hc => ?_) (fun hc => ?_)
      · replace h := h.1 hc
        refine x_lload (dxX12_feed_0 18 rfl) rfl ?_
        exact h
      · replace h := h.2 hc
        refine x_lload_n (i := 3) (dxX12_feed_0 16 rfl) rfl rfl ?_
        refine x_goto (tgt := 39) (dxX12_feed_0 17 rfl) (by decide) ?_
        exact h
    · replace h := h.2 hc
      refine x_lload_n (i := 1) (dxX12_feed_0 11 rfl) rfl rfl ?_
      refine x_goto (tgt := 39) (dxX12_feed_0 12 rfl) (by decide) ?_
      exact h
theorem vcX12_feed_39 {g : GV} {d : Nat} {P : Int32 → PS → Prop} {σ : PS} (hL : Lay σ) (l1 : Int64) (l3 : Int64) (l5 : Int64) (l7 : Int32) (t0 : Int64) (h : ∀ x3 : Int32, x3 = Int64.toInt32 ((jlushr t0 (56 - (8 * (l7 &&& 7)))) &&& 255) → (1000 ≤ (mi σ 179 1) → ∀ x5 : Int32, x5 = l7 + 1 → VX12_feed g d P 8 [some (.ref 179), some (.long l1), none, some (.long l3), none, some (.long l5), none, some (.int x5), none, none, none] [] σ) ∧ (¬ 1000 ≤ (mi σ 179 1) → (x3 = 10 → vp_in (mi σ 179 1) 1000 ∧ ∀ s8 : PS, s8 = si σ 180 (Int32.toNatClampNeg (mi σ 179 1)) x3 → ∀ s10 : PS, s10 = si s8 179 1 ((mi s8 179 1) + 1) → ∀ x12 : Int32, x12 = l7 + 1 → VX12_feed g d P 8 [some (.ref 179), some (.long l1), none, some (.long l3), none, some (.long l5), none, some (.int x12), none, none, none] [] s10) ∧ (¬ x3 = 10 → (x3 < 32 → ∀ x14 : Int32, x14 = l7 + 1 → VX12_feed g d P 8 [some (.ref 179), some (.long l1), none, some (.long l3), none, some (.long l5), none, some (.int x14), none, none, none] [] σ) ∧ (¬ x3 < 32 → (126 < x3 → ∀ x16 : Int32, x16 = l7 + 1 → VX12_feed g d P 8 [some (.ref 179), some (.long l1), none, some (.long l3), none, some (.long l5), none, some (.int x16), none, none, none] [] σ) ∧ (¬ 126 < x3 → vp_in (mi σ 179 1) 1000 ∧ ∀ s19 : PS, s19 = si σ 180 (Int32.toNatClampNeg (mi σ 179 1)) x3 → ∀ s21 : PS, s21 = si s19 179 1 ((mi s19 179 1) + 1) → ∀ x23 : Int32, x23 = l7 + 1 → VX12_feed g d P 8 [some (.ref 179), some (.long l1), none, some (.long l3), none, some (.long l5), none, some (.int x23), none, none, none] [] s21))))) : VX12_feed g d P 39 [some (.ref 179), some (.long l1), none, some (.long l3), none, some (.long l5), none, some (.int l7), none, none, none] [.long t0] σ := by
  refine x_lstore (dxX12_feed_0 19 rfl) (Nat.le_of_ble_eq_true rfl) rfl rfl ?_
  refine x_lload (dxX12_feed_0 20 rfl) rfl ?_
  refine x_bipush (v := 56) (dxX12_feed_0 21 rfl) rfl ?_
  refine x_bipush (v := 8) (dxX12_feed_0 22 rfl) rfl ?_
  refine x_iload (dxX12_feed_0 23 rfl) rfl ?_
  refine x_bipush (v := 7) (dxX12_feed_0 24 rfl) rfl ?_
  refine x_iand (dxX12_feed_0 25 rfl) ?_
  refine x_imul (dxX12_feed_0 26 rfl) ?_
  refine x_isub (dxX12_feed_0 27 rfl) ?_
  refine x_lushr (dxX12_feed_0 28 rfl) ?_
  refine x_ldc2 (dxX12_feed_0 29 rfl) gw_1491 ?_
  refine x_land (dxX12_feed_0 30 rfl) ?_
  refine x_l2i (dxX12_feed_0 31 rfl) ?_
  refine x_topi (fun x3 e4 => ?_)
  replace h := h x3 e4
  refine x_istore (dxX12_feed_1 0 rfl) (Nat.le_of_ble_eq_true rfl) rfl rfl ?_
  refine x_aload_n (i := 0) (dxX12_feed_1 1 rfl) rfl rfl ?_
  refine gf_12_189 (kd_179 hL) rfl (dxX12_feed_1 2 rfl) ?_
  refine x_sipush (v := 1000) (dxX12_feed_1 3 rfl) rfl ?_
  refine x_icmp_ge (tgt := 114) (dxX12_feed_1 4 rfl) (by decide) (fun hc => ?_) (fun hc => ?_)
  · replace h := h.1 hc
    obtain ⟨x5, e6⟩ : ∃ y : Int32, y = l7 + 1 := ⟨_, rfl⟩
    replace h := h x5 e6
    refine x_iinc (v := x5) (dxX12_feed_1 26 rfl) (i := 7) rfl (by rw [e6]; rfl) (Nat.le_of_ble_eq_true rfl) rfl rfl ?_
    refine x_goto (tgt := 8) (dxX12_feed_1 27 rfl) (by decide) ?_
    refine x_mask [true, true, false, true, false, true, false, true, false, false, false] (L1 := [some (.ref 179), some (.long l1), none, some (.long l3), none, some (.long l5), none, some (.int x5), none, none, none]) rfl ?_
    exact h
  · replace h := h.2 hc
    refine x_iload (dxX12_feed_1 5 rfl) rfl ?_
    refine x_bipush (v := 10) (dxX12_feed_1 6 rfl) rfl ?_
    refine x_icmp_eq (tgt := 93) (dxX12_feed_1 7 rfl) (by decide) (fun hc => ?_) (fun hc => ?_)
    · replace h := h.1 hc
      refine x_aload_n (i := 0) (dxX12_feed_1 14 rfl) rfl rfl ?_
      refine gf_12_7 (kd_179 hL) (rv_179_2 hL) (dxX12_feed_1 15 rfl) ?_
      refine x_aload_n (i := 0) (dxX12_feed_1 16 rfl) rfl rfl ?_
      refine gf_12_189 (kd_179 hL) rfl (dxX12_feed_1 17 rfl) ?_
      refine x_iload (dxX12_feed_1 18 rfl) rfl ?_
      obtain ⟨hi7, h⟩ := h
      refine x_iast (kd_180 hL) hi7 (dxX12_feed_1 19 rfl) ?_
      refine x_sto (fun s8 e9 => ?_)
      replace h := h s8 e9
      have hKs8 : kd s8 = kd σ := by rw [e9]; exact (rfl : kd σ = kd σ)
      have hLs8 : Lay s8 := by rw [e9]; exact hL.si
      refine x_aload_n (i := 0) (dxX12_feed_1 20 rfl) rfl rfl ?_
      refine x_dup (dxX12_feed_1 21 rfl) rfl ?_
      refine gf_12_189 (kd_179 hLs8) rfl (dxX12_feed_1 22 rfl) ?_
      refine x_iconst (v := 1) (dxX12_feed_1 23 rfl) rfl ?_
      refine x_iadd (dxX12_feed_1 24 rfl) ?_
      refine pf_12_189 (kd_179 hLs8) (dxX12_feed_1 25 rfl) ?_
      refine x_sto (fun s10 e11 => ?_)
      replace h := h s10 e11
      have hKs10 : kd s10 = kd σ := by rw [e11]; exact hKs8
      have hLs10 : Lay s10 := by rw [e11]; exact hLs8.si
      obtain ⟨x12, e13⟩ : ∃ y : Int32, y = l7 + 1 := ⟨_, rfl⟩
      replace h := h x12 e13
      refine x_iinc (v := x12) (dxX12_feed_1 26 rfl) (i := 7) rfl (by rw [e13]; rfl) (Nat.le_of_ble_eq_true rfl) rfl rfl ?_
      refine x_goto (tgt := 8) (dxX12_feed_1 27 rfl) (by decide) ?_
      refine x_mask [true, true, false, true, false, true, false, true, false, false, false] (L1 := [some (.ref 179), some (.long l1), none, some (.long l3), none, some (.long l5), none, some (.int x12), none, none, none]) rfl ?_
      exact h
    · replace h := h.2 hc
      refine x_iload (dxX12_feed_1 8 rfl) rfl ?_
      refine x_bipush (v := 32) (dxX12_feed_1 9 rfl) rfl ?_
      refine x_icmp_lt (tgt := 114) (dxX12_feed_1 10 rfl) (by decide) (fun hc => ?_) (fun hc => ?_)
      · replace h := h.1 hc
        obtain ⟨x14, e15⟩ : ∃ y : Int32, y = l7 + 1 := ⟨_, rfl⟩
        replace h := h x14 e15
        refine x_iinc (v := x14) (dxX12_feed_1 26 rfl) (i := 7) rfl (by rw [e15]; rfl) (Nat.le_of_ble_eq_true rfl) rfl rfl ?_
        refine x_goto (tgt := 8) (dxX12_feed_1 27 rfl) (by decide) ?_
        refine x_mask [true, true, false, true, false, true, false, true, false, false, false] (L1 := [some (.ref 179), some (.long l1), none, some (.long l3), none, some (.long l5), none, some (.int x14), none, none, none]) rfl ?_
        exact h
      · replace h := h.2 hc
        refine x_iload (dxX12_feed_1 11 rfl) rfl ?_
        refine x_bipush (v := 126) (dxX12_feed_1 12 rfl) rfl ?_
        refine x_icmp_gt (tgt := 114) (dxX12_feed_1 13 rfl) (by decide) (fun hc => ?_) (fun hc => ?_)
        · replace h := h.1 hc
          obtain ⟨x16, e17⟩ : ∃ y : Int32, y = l7 + 1 := ⟨_, rfl⟩
          replace h := h x16 e17
          refine x_iinc (v := x16) (dxX12_feed_1 26 rfl) (i := 7) rfl (by rw [e17]; rfl) (Nat.le_of_ble_eq_true rfl) rfl rfl ?_
          refine x_goto (tgt := 8) (dxX12_feed_1 27 rfl) (by decide) ?_
          refine x_mask [true, true, false, true, false, true, false, true, false, false, false] (L1 := [some (.ref 179), some (.long l1), none, some (.long l3), none, some (.long l5), none, some (.int x16), none, none, none]) rfl ?_
          exact h
        · replace h := h.2 hc
          refine x_aload_n (i := 0) (dxX12_feed_1 14 rfl) rfl rfl ?_
          refine gf_12_7 (kd_179 hL) (rv_179_2 hL) (dxX12_feed_1 15 rfl) ?_
          refine x_aload_n (i := 0) (dxX12_feed_1 16 rfl) rfl rfl ?_
          refine gf_12_189 (kd_179 hL) rfl (dxX12_feed_1 17 rfl) ?_
          refine x_iload (dxX12_feed_1 18 rfl) rfl ?_
          obtain ⟨hi18, h⟩ := h
          refine x_iast (kd_180 hL) hi18 (dxX12_feed_1 19 rfl) ?_
          refine x_sto (fun s19 e20 => ?_)
          replace h := h s19 e20
          have hKs19 : kd s19 = kd σ := by rw [e20]; exact (rfl : kd σ = kd σ)
          have hLs19 : Lay s19 := by rw [e20]; exact hL.si
          refine x_aload_n (i := 0) (dxX12_feed_1 20 rfl) rfl rfl ?_
          refine x_dup (dxX12_feed_1 21 rfl) rfl ?_
          refine gf_12_189 (kd_179 hLs19) rfl (dxX12_feed_1 22 rfl) ?_
          refine x_iconst (v := 1) (dxX12_feed_1 23 rfl) rfl ?_
          refine x_iadd (dxX12_feed_1 24 rfl) ?_
          refine pf_12_189 (kd_179 hLs19) (dxX12_feed_1 25 rfl) ?_
          refine x_sto (fun s21 e22 => ?_)
          replace h := h s21 e22
          have hKs21 : kd s21 = kd σ := by rw [e22]; exact hKs19
          have hLs21 : Lay s21 := by rw [e22]; exact hLs19.si
          obtain ⟨x23, e24⟩ : ∃ y : Int32, y = l7 + 1 := ⟨_, rfl⟩
          replace h := h x23 e24
          refine x_iinc (v := x23) (dxX12_feed_1 26 rfl) (i := 7) rfl (by rw [e24]; rfl) (Nat.le_of_ble_eq_true rfl) rfl rfl ?_
          refine x_goto (tgt := 8) (dxX12_feed_1 27 rfl) (by decide) ?_
          refine x_mask [true, true, false, true, false, true, false, true, false, false, false] (L1 := [some (.ref 179), some (.long l1), none, some (.long l3), none, some (.long l5), none, some (.int x23), none, none, none]) rfl ?_
          exact h
theorem vcX12_signAt {g : GV} {d : Nat} {P : Int32 → PS → Prop} {σ : PS} (hL : Lay σ) (p0 : Int32) (h : ((mi σ 179 3) ≤ p0 → P 0 σ) ∧ (¬ (mi σ 179 3) ≤ p0 → vp_in p0 1000 ∧ P (mi σ 180 (Int32.toNatClampNeg p0)) σ)) : CX12_signAt g d [.ref 179, .int p0] σ P := by
  refine x_entry (L := [some (.ref 179), some (.int p0)]) pn_12 (Nat.le_of_ble_eq_true rfl) ⟨0, rfl⟩ ?_
  show VX12_signAt g d P 0 [some (.ref 179), some (.int p0)] [] σ
  refine x_iload_n (i := 1) (dxX12_signAt_0 0 rfl) rfl rfl ?_
  refine x_aload_n (i := 0) (dxX12_signAt_0 1 rfl) rfl rfl ?_
  refine gf_12_192 (kd_179 hL) rfl (dxX12_signAt_0 2 rfl) ?_
  refine x_icmp_ge (tgt := 17) (dxX12_signAt_0 3 rfl) (by decide) (fun hc => ?_) (fun hc => ?_)
  · replace h := h.1 hc
    refine x_iconst (v := 0) (dxX12_signAt_0 9 rfl) rfl ?_
    exact x_iret (ty := .int) rfl rfl (dxX12_signAt_0 10 rfl) ⟨_, rfl, h⟩
  · replace h := h.2 hc
    refine x_aload_n (i := 0) (dxX12_signAt_0 4 rfl) rfl rfl ?_
    refine gf_12_7 (kd_179 hL) (rv_179_2 hL) (dxX12_signAt_0 5 rfl) ?_
    refine x_iload_n (i := 1) (dxX12_signAt_0 6 rfl) rfl rfl ?_
    obtain ⟨hi1, h⟩ := h
    refine x_iald (kd_180 hL) hi1 (dxX12_signAt_0 7 rfl) ?_
    refine x_goto (tgt := 18) (dxX12_signAt_0 8 rfl) (by decide) ?_
    exact x_iret (ty := .int) rfl rfl (dxX12_signAt_0 10 rfl) ⟨_, rfl, h⟩
theorem vcX12_nextToken {g : GV} {d : Nat} {P : PS → Prop} {σ : PS} (hL : Lay σ)  (h : ((mi σ 179 3) ≤ (mi σ 179 4) → ∀ s1 : PS, s1 = si σ 179 5 (mi σ 179 4) → ∀ s3 : PS, s3 = sj s1 179 7 0 → ∀ s5 : PS, s5 = si s3 179 8 0 → (¬ (mi s5 179 4) = (mi s5 179 3) → vp_in (mi s5 179 4) 1000 ∧ ∀ x8 : Int32, x8 = mi s5 180 (Int32.toNatClampNeg (mi s5 179 4)) → (x8 < 97 → (x8 < 48 → VX12_nextToken g (d + 1) P 322 [some (.ref 179), some (.int x8)] [] s5) ∧ (¬ x8 < 48 → (57 < x8 → VX12_nextToken g (d + 1) P 322 [some (.ref 179), some (.int x8)] [] s5) ∧ (¬ 57 < x8 → VX12_nextToken g (d + 1) P 224 [some (.ref 179), none] [] s5))) ∧ (¬ x8 < 97 → (122 < x8 → (x8 < 48 → VX12_nextToken g (d + 1) P 322 [some (.ref 179), some (.int x8)] [] s5) ∧ (¬ x8 < 48 → (57 < x8 → VX12_nextToken g (d + 1) P 322 [some (.ref 179), some (.int x8)] [] s5) ∧ (¬ 57 < x8 → VX12_nextToken g (d + 1) P 224 [some (.ref 179), none] [] s5))) ∧ (¬ 122 < x8 → VX12_nextToken g (d + 1) P 109 [some (.ref 179), none] [] s5))) ∧ ((mi s5 179 4) = (mi s5 179 3) → ∀ s10 : PS, s10 = si s5 179 6 0 → P s10)) ∧ (¬ (mi σ 179 3) ≤ (mi σ 179 4) → vp_in (mi σ 179 4) 1000 ∧ ((mi σ 180 (Int32.toNatClampNeg (mi σ 179 4))) = 32 → ∀ s13 : PS, s13 = si σ 179 4 ((mi σ 179 4) + 1) → VX12_nextToken g (d + 1) P 0 [some (.ref 179), none] [] s13) ∧ (¬ (mi σ 180 (Int32.toNatClampNeg (mi σ 179 4))) = 32 → vp_in (mi σ 179 4) 1000 ∧ (¬ (mi σ 180 (Int32.toNatClampNeg (mi σ 179 4))) = 10 → ∀ s16 : PS, s16 = si σ 179 5 (mi σ 179 4) → ∀ s18 : PS, s18 = sj s16 179 7 0 → ∀ s20 : PS, s20 = si s18 179 8 0 → (¬ (mi s20 179 4) = (mi s20 179 3) → vp_in (mi s20 179 4) 1000 ∧ ∀ x23 : Int32, x23 = mi s20 180 (Int32.toNatClampNeg (mi s20 179 4)) → (x23 < 97 → (x23 < 48 → VX12_nextToken g (d + 1) P 322 [some (.ref 179), some (.int x23)] [] s20) ∧ (¬ x23 < 48 → (57 < x23 → VX12_nextToken g (d + 1) P 322 [some (.ref 179), some (.int x23)] [] s20) ∧ (¬ 57 < x23 → VX12_nextToken g (d + 1) P 224 [some (.ref 179), none] [] s20))) ∧ (¬ x23 < 97 → (122 < x23 → (x23 < 48 → VX12_nextToken g (d + 1) P 322 [some (.ref 179), some (.int x23)] [] s20) ∧ (¬ x23 < 48 → (57 < x23 → VX12_nextToken g (d + 1) P 322 [some (.ref 179), some (.int x23)] [] s20) ∧ (¬ 57 < x23 → VX12_nextToken g (d + 1) P 224 [some (.ref 179), none] [] s20))) ∧ (¬ 122 < x23 → VX12_nextToken g (d + 1) P 109 [some (.ref 179), none] [] s20))) ∧ ((mi s20 179 4) = (mi s20 179 3) → ∀ s25 : PS, s25 = si s20 179 6 0 → P s25)) ∧ ((mi σ 180 (Int32.toNatClampNeg (mi σ 179 4))) = 10 → ∀ s27 : PS, s27 = si σ 179 4 ((mi σ 179 4) + 1) → VX12_nextToken g (d + 1) P 0 [some (.ref 179), none] [] s27)))) : CX12_nextToken g (d + 1) [.ref 179] σ P := by
  refine x_entry (L := [some (.ref 179), none]) pn_12 (Nat.le_of_ble_eq_true rfl) ⟨1, rfl⟩ ?_
  show VX12_nextToken g (d + 1) P 0 [some (.ref 179), none] [] σ
  refine x_aload_n (i := 0) (dxX12_nextToken_0 0 rfl) rfl rfl ?_
  refine gf_12_195 (kd_179 hL) rfl (dxX12_nextToken_0 1 rfl) ?_
  refine x_aload_n (i := 0) (dxX12_nextToken_0 2 rfl) rfl rfl ?_
  refine gf_12_192 (kd_179 hL) rfl (dxX12_nextToken_0 3 rfl) ?_
  refine x_icmp_ge (tgt := 52) (dxX12_nextToken_0 4 rfl) (by decide) (fun hc => ?_) (fun hc => ?_)
  · replace h := h.1 hc
    refine x_aload_n (i := 0) (dxX12_nextToken_0 26 rfl) rfl rfl ?_
    refine x_aload_n (i := 0) (dxX12_nextToken_0 27 rfl) rfl rfl ?_
    refine gf_12_195 (kd_179 hL) rfl (dxX12_nextToken_0 28 rfl) ?_
    refine pf_12_198 (kd_179 hL) (dxX12_nextToken_0 29 rfl) ?_
    refine x_sto (fun s1 e2 => ?_)
    replace h := h s1 e2
    have hKs1 : kd s1 = kd σ := by rw [e2]; exact (rfl : kd σ = kd σ)
    have hLs1 : Lay s1 := by rw [e2]; exact hL.si
    refine x_aload_n (i := 0) (dxX12_nextToken_0 30 rfl) rfl rfl ?_
    refine x_lconst (v := 0) (dxX12_nextToken_0 31 rfl) rfl ?_
    refine pf_12_201 (kd_179 hLs1) (dxX12_nextToken_1 0 rfl) ?_
    refine x_sto (fun s3 e4 => ?_)
    replace h := h s3 e4
    have hKs3 : kd s3 = kd σ := by rw [e4]; exact hKs1
    have hLs3 : Lay s3 := by rw [e4]; exact hLs1.sj
    refine x_aload_n (i := 0) (dxX12_nextToken_1 1 rfl) rfl rfl ?_
    refine x_iconst (v := 0) (dxX12_nextToken_1 2 rfl) rfl ?_
    refine pf_12_205 (kd_179 hLs3) (dxX12_nextToken_1 3 rfl) ?_
    refine x_sto (fun s5 e6 => ?_)
    replace h := h s5 e6
    have hKs5 : kd s5 = kd σ := by rw [e6]; exact hKs3
    have hLs5 : Lay s5 := by rw [e6]; exact hLs3.si
    refine x_aload_n (i := 0) (dxX12_nextToken_1 4 rfl) rfl rfl ?_
    refine gf_12_195 (kd_179 hLs5) rfl (dxX12_nextToken_1 5 rfl) ?_
    refine x_aload_n (i := 0) (dxX12_nextToken_1 6 rfl) rfl rfl ?_
    refine gf_12_192 (kd_179 hLs5) rfl (dxX12_nextToken_1 7 rfl) ?_
    refine x_icmp_ne (tgt := 87) (dxX12_nextToken_1 8 rfl) (by decide) (fun hc => ?_) (fun hc => ?_)
    · replace h := h.1 hc
      refine x_aload_n (i := 0) (dxX12_nextToken_1 13 rfl) rfl rfl ?_
      refine gf_12_7 (kd_179 hLs5) (rv_179_2 hLs5) (dxX12_nextToken_1 14 rfl) ?_
      refine x_aload_n (i := 0) (dxX12_nextToken_1 15 rfl) rfl rfl ?_
      refine gf_12_195 (kd_179 hLs5) rfl (dxX12_nextToken_1 16 rfl) ?_
      obtain ⟨hi7, h⟩ := h
      refine x_iald (kd_180 hLs5) hi7 (dxX12_nextToken_1 17 rfl) ?_
      refine x_topi (fun x8 e9 => ?_)
      replace h := h x8 e9
      refine x_istore_n (i := 1) (dxX12_nextToken_1 18 rfl) rfl (Nat.le_of_ble_eq_true rfl) rfl rfl ?_
      refine x_iload_n (i := 1) (dxX12_nextToken_1 19 rfl) rfl rfl ?_
      refine x_bipush (v := 97) (dxX12_nextToken_1 20 rfl) rfl ?_
      refine x_icmp_lt (tgt := 212) (dxX12_nextToken_1 21 rfl) (by decide) (fun hc => ?_) (fun hc => ?_)
      · replace h := h.1 hc
        refine x_iload_n (i := 1) (dxX12_nextToken_3 14 rfl) rfl rfl ?_
        refine x_bipush (v := 48) (dxX12_nextToken_3 15 rfl) rfl ?_
        refine x_icmp_lt (tgt := 322) (dxX12_nextToken_3 16 rfl) (by decide) (fun hc => ?_) (fun hc => ?_)
        · replace h := h.1 hc
          exact h
        · replace h := h.2 hc
          refine x_iload_n (i := 1) (dxX12_nextToken_3 17 rfl) rfl rfl ?_
          refine x_bipush (v := 57) (dxX12_nextToken_3 18 rfl) rfl ?_
          refine x_icmp_gt (tgt := 322) (dxX12_nextToken_3 19 rfl) (by decide) (fun hc => ?_) (fun hc => ?_)
          · replace h := h.1 hc
            exact h
          · replace h := h.2 hc
            refine x_mask [true, false] (L1 := [some (.ref 179), none]) rfl ?_
            exact h
      · replace h := h.2 hc
        refine x_iload_n (i := 1) (dxX12_nextToken_1 22 rfl) rfl rfl ?_
        refine x_bipush (v := 122) (dxX12_nextToken_1 23 rfl) rfl ?_
        refine x_icmp_gt (tgt := 212) (dxX12_nextToken_1 24 rfl) (by decide) (fun hc => ?_) (fun hc => ?_)
        · replace h := h.1 hc
          refine x_iload_n (i := 1) (dxX12_nextToken_3 14 rfl) rfl rfl ?_
          refine x_bipush (v := 48) (dxX12_nextToken_3 15 rfl) rfl ?_
          refine x_icmp_lt (tgt := 322) (dxX12_nextToken_3 16 rfl) (by decide) (fun hc => ?_) (fun hc => ?_)
          · replace h := h.1 hc
            exact h
          · replace h := h.2 hc
            refine x_iload_n (i := 1) (dxX12_nextToken_3 17 rfl) rfl rfl ?_
            refine x_bipush (v := 57) (dxX12_nextToken_3 18 rfl) rfl ?_
            refine x_icmp_gt (tgt := 322) (dxX12_nextToken_3 19 rfl) (by decide) (fun hc => ?_) (fun hc => ?_)
            · replace h := h.1 hc
              exact h
            · replace h := h.2 hc
              refine x_mask [true, false] (L1 := [some (.ref 179), none]) rfl ?_
              exact h
        · replace h := h.2 hc
          refine x_mask [true, false] (L1 := [some (.ref 179), none]) rfl ?_
          exact h
    · replace h := h.2 hc
      refine x_aload_n (i := 0) (dxX12_nextToken_1 9 rfl) rfl rfl ?_
      refine x_iconst (v := 0) (dxX12_nextToken_1 10 rfl) rfl ?_
      refine pf_12_208 (kd_179 hLs5) (dxX12_nextToken_1 11 rfl) ?_
      refine x_sto (fun s10 e11 => ?_)
      replace h := h s10 e11
      have hKs10 : kd s10 = kd σ := by rw [e11]; exact hKs5
      have hLs10 : Lay s10 := by rw [e11]; exact hLs5.si
      exact x_vret rfl (dxX12_nextToken_1 12 rfl) ⟨rfl, h⟩
  · replace h := h.2 hc
    refine x_aload_n (i := 0) (dxX12_nextToken_0 5 rfl) rfl rfl ?_
    refine gf_12_7 (kd_179 hL) (rv_179_2 hL) (dxX12_nextToken_0 6 rfl) ?_
    refine x_aload_n (i := 0) (dxX12_nextToken_0 7 rfl) rfl rfl ?_
    refine gf_12_195 (kd_179 hL) rfl (dxX12_nextToken_0 8 rfl) ?_
    obtain ⟨hi12, h⟩ := h
    refine x_iald (kd_180 hL) hi12 (dxX12_nextToken_0 9 rfl) ?_
    refine x_bipush (v := 32) (dxX12_nextToken_0 10 rfl) rfl ?_
    refine x_icmp_eq (tgt := 39) (dxX12_nextToken_0 11 rfl) (by decide) (fun hc => ?_) (fun hc => ?_)
    · replace h := h.1 hc
      refine x_aload_n (i := 0) (dxX12_nextToken_0 19 rfl) rfl rfl ?_
      refine x_dup (dxX12_nextToken_0 20 rfl) rfl ?_
      refine gf_12_195 (kd_179 hL) rfl (dxX12_nextToken_0 21 rfl) ?_
      refine x_iconst (v := 1) (dxX12_nextToken_0 22 rfl) rfl ?_
      refine x_iadd (dxX12_nextToken_0 23 rfl) ?_
      refine pf_12_195 (kd_179 hL) (dxX12_nextToken_0 24 rfl) ?_
      refine x_sto (fun s13 e14 => ?_)
      replace h := h s13 e14
      have hKs13 : kd s13 = kd σ := by rw [e14]; exact (rfl : kd σ = kd σ)
      have hLs13 : Lay s13 := by rw [e14]; exact hL.si
      refine x_goto (tgt := 0) (dxX12_nextToken_0 25 rfl) (by decide) ?_
      exact h
    · replace h := h.2 hc
      refine x_aload_n (i := 0) (dxX12_nextToken_0 12 rfl) rfl rfl ?_
      refine gf_12_7 (kd_179 hL) (rv_179_2 hL) (dxX12_nextToken_0 13 rfl) ?_
      refine x_aload_n (i := 0) (dxX12_nextToken_0 14 rfl) rfl rfl ?_
      refine gf_12_195 (kd_179 hL) rfl (dxX12_nextToken_0 15 rfl) ?_
      obtain ⟨hi15, h⟩ := h
      refine x_iald (kd_180 hL) hi15 (dxX12_nextToken_0 16 rfl) ?_
      refine x_bipush (v := 10) (dxX12_nextToken_0 17 rfl) rfl ?_
      refine x_icmp_ne (tgt := 52) (dxX12_nextToken_0 18 rfl) (by decide) (fun hc => ?_) (fun hc => ?_)
      · replace h := h.1 hc
        refine x_aload_n (i := 0) (dxX12_nextToken_0 26 rfl) rfl rfl ?_
        refine x_aload_n (i := 0) (dxX12_nextToken_0 27 rfl) rfl rfl ?_
        refine gf_12_195 (kd_179 hL) rfl (dxX12_nextToken_0 28 rfl) ?_
        refine pf_12_198 (kd_179 hL) (dxX12_nextToken_0 29 rfl) ?_
        refine x_sto (fun s16 e17 => ?_)
        replace h := h s16 e17
        have hKs16 : kd s16 = kd σ := by rw [e17]; exact (rfl : kd σ = kd σ)
        have hLs16 : Lay s16 := by rw [e17]; exact hL.si
        refine x_aload_n (i := 0) (dxX12_nextToken_0 30 rfl) rfl rfl ?_
        refine x_lconst (v := 0) (dxX12_nextToken_0 31 rfl) rfl ?_
        refine pf_12_201 (kd_179 hLs16) (dxX12_nextToken_1 0 rfl) ?_
        refine x_sto (fun s18 e19 => ?_)
        replace h := h s18 e19
        have hKs18 : kd s18 = kd σ := by rw [e19]; exact hKs16
        have hLs18 : Lay s18 := by rw [e19]; exact hLs16.sj
        refine x_aload_n (i := 0) (dxX12_nextToken_1 1 rfl) rfl rfl ?_
        refine x_iconst (v := 0) (dxX12_nextToken_1 2 rfl) rfl ?_
        refine pf_12_205 (kd_179 hLs18) (dxX12_nextToken_1 3 rfl) ?_
        refine x_sto (fun s20 e21 => ?_)
        replace h := h s20 e21
        have hKs20 : kd s20 = kd σ := by rw [e21]; exact hKs18
        have hLs20 : Lay s20 := by rw [e21]; exact hLs18.si
        refine x_aload_n (i := 0) (dxX12_nextToken_1 4 rfl) rfl rfl ?_
        refine gf_12_195 (kd_179 hLs20) rfl (dxX12_nextToken_1 5 rfl) ?_
        refine x_aload_n (i := 0) (dxX12_nextToken_1 6 rfl) rfl rfl ?_
        refine gf_12_192 (kd_179 hLs20) rfl (dxX12_nextToken_1 7 rfl) ?_
        refine x_icmp_ne (tgt := 87) (dxX12_nextToken_1 8 rfl) (by decide) (fun hc => ?_) (fun hc => ?_)
        · replace h := h.1 hc
          refine x_aload_n (i := 0) (dxX12_nextToken_1 13 rfl) rfl rfl ?_
          refine gf_12_7 (kd_179 hLs20) (rv_179_2 hLs20) (dxX12_nextToken_1 14 rfl) ?_
          refine x_aload_n (i := 0) (dxX12_nextToken_1 15 rfl) rfl rfl ?_
          refine gf_12_195 (kd_179 hLs20) rfl (dxX12_nextToken_1 16 rfl) ?_
          obtain ⟨hi22, h⟩ := h
          refine x_iald (kd_180 hLs20) hi22 (dxX12_nextToken_1 17 rfl) ?_
          refine x_topi (fun x23 e24 => ?_)
          replace h := h x23 e24
          refine x_istore_n (i := 1) (dxX12_nextToken_1 18 rfl) rfl (Nat.le_of_ble_eq_true rfl) rfl rfl ?_
          refine x_iload_n (i := 1) (dxX12_nextToken_1 19 rfl) rfl rfl ?_
          refine x_bipush (v := 97) (dxX12_nextToken_1 20 rfl) rfl ?_
          refine x_icmp_lt (tgt := 212) (dxX12_nextToken_1 21 rfl) (by decide) (fun hc => ?_) (fun hc => ?_)
          · replace h := h.1 hc
            refine x_iload_n (i := 1) (dxX12_nextToken_3 14 rfl) rfl rfl ?_
            refine x_bipush (v := 48) (dxX12_nextToken_3 15 rfl) rfl ?_
            refine x_icmp_lt (tgt := 322) (dxX12_nextToken_3 16 rfl) (by decide) (fun hc => ?_) (fun hc => ?_)
            · replace h := h.1 hc
              exact h
            · replace h := h.2 hc
              refine x_iload_n (i := 1) (dxX12_nextToken_3 17 rfl) rfl rfl ?_
              refine x_bipush (v := 57) (dxX12_nextToken_3 18 rfl) rfl ?_
              refine x_icmp_gt (tgt := 322) (dxX12_nextToken_3 19 rfl) (by decide) (fun hc => ?_) (fun hc => ?_)
              · replace h := h.1 hc
                exact h
              · replace h := h.2 hc
                refine x_mask [true, false] (L1 := [some (.ref 179), none]) rfl ?_
                exact h
          · replace h := h.2 hc
            refine x_iload_n (i := 1) (dxX12_nextToken_1 22 rfl) rfl rfl ?_
            refine x_bipush (v := 122) (dxX12_nextToken_1 23 rfl) rfl ?_
            refine x_icmp_gt (tgt := 212) (dxX12_nextToken_1 24 rfl) (by decide) (fun hc => ?_) (fun hc => ?_)
            · replace h := h.1 hc
              refine x_iload_n (i := 1) (dxX12_nextToken_3 14 rfl) rfl rfl ?_
              refine x_bipush (v := 48) (dxX12_nextToken_3 15 rfl) rfl ?_
              refine x_icmp_lt (tgt := 322) (dxX12_nextToken_3 16 rfl) (by decide) (fun hc => ?_) (fun hc => ?_)
              · replace h := h.1 hc
                exact h
              · replace h := h.2 hc
                refine x_iload_n (i := 1) (dxX12_nextToken_3 17 rfl) rfl rfl ?_
                refine x_bipush (v := 57) (dxX12_nextToken_3 18 rfl) rfl ?_
                refine x_icmp_gt (tgt := 322) (dxX12_nextToken_3 19 rfl) (by decide) (fun hc => ?_) (fun hc => ?_)
                · replace h := h.1 hc
                  exact h
                · replace h := h.2 hc
                  refine x_mask [true, false] (L1 := [some (.ref 179), none]) rfl ?_
                  exact h
            · replace h := h.2 hc
              refine x_mask [true, false] (L1 := [some (.ref 179), none]) rfl ?_
              exact h
        · replace h := h.2 hc
          refine x_aload_n (i := 0) (dxX12_nextToken_1 9 rfl) rfl rfl ?_
          refine x_iconst (v := 0) (dxX12_nextToken_1 10 rfl) rfl ?_
          refine pf_12_208 (kd_179 hLs20) (dxX12_nextToken_1 11 rfl) ?_
          refine x_sto (fun s25 e26 => ?_)
          replace h := h s25 e26
          have hKs25 : kd s25 = kd σ := by rw [e26]; exact hKs20
          have hLs25 : Lay s25 := by rw [e26]; exact hLs20.si
          exact x_vret rfl (dxX12_nextToken_1 12 rfl) ⟨rfl, h⟩
      · replace h := h.2 hc
        refine x_aload_n (i := 0) (dxX12_nextToken_0 19 rfl) rfl rfl ?_
        refine x_dup (dxX12_nextToken_0 20 rfl) rfl ?_
        refine gf_12_195 (kd_179 hL) rfl (dxX12_nextToken_0 21 rfl) ?_
        refine x_iconst (v := 1) (dxX12_nextToken_0 22 rfl) rfl ?_
        refine x_iadd (dxX12_nextToken_0 23 rfl) ?_
        refine pf_12_195 (kd_179 hL) (dxX12_nextToken_0 24 rfl) ?_
        refine x_sto (fun s27 e28 => ?_)
        replace h := h s27 e28
        have hKs27 : kd s27 = kd σ := by rw [e28]; exact (rfl : kd σ = kd σ)
        have hLs27 : Lay s27 := by rw [e28]; exact hL.si
        refine x_goto (tgt := 0) (dxX12_nextToken_0 25 rfl) (by decide) ?_
        exact h
theorem vcX12_nextToken_322 {g : GV} {d : Nat} {P : PS → Prop} {σ : PS} (hL : Lay σ) (l1 : Int32) (h : ∀ s29 : PS, s29 = si σ 179 4 ((mi σ 179 4) + 1) → (l1 < 40 → (l1 = 45 → ∀ s31 : PS, s31 = si s29 179 6 3 → P s31) ∧ (¬ l1 = 45 → (l1 < 59 → ∀ s33 : PS, s33 = si s29 179 6 4 → P s33) ∧ (¬ l1 < 59 → (61 < l1 → ∀ s35 : PS, s35 = si s29 179 6 4 → P s35) ∧ (¬ 61 < l1 → ∀ s37 : PS, s37 = si s29 179 6 3 → P s37)))) ∧ (¬ l1 < 40 → (l1 ≤ 43 → ∀ s39 : PS, s39 = si s29 179 6 3 → P s39) ∧ (¬ l1 ≤ 43 → (l1 = 45 → ∀ s41 : PS, s41 = si s29 179 6 3 → P s41) ∧ (¬ l1 = 45 → (l1 < 59 → ∀ s43 : PS, s43 = si s29 179 6 4 → P s43) ∧ (¬ l1 < 59 → (61 < l1 → ∀ s45 : PS, s45 = si s29 179 6 4 → P s45) ∧ (¬ 61 < l1 → ∀ s47 : PS, s47 = si s29 179 6 3 → P s47)))))) : VX12_nextToken g (d + 1) P 322 [some (.ref 179), some (.int l1)] [] σ := by
  refine x_aload_n (i := 0) (dxX12_nextToken_5 8 rfl) rfl rfl ?_
  refine x_dup (dxX12_nextToken_5 9 rfl) rfl ?_
  refine gf_12_195 (kd_179 hL) rfl (dxX12_nextToken_5 10 rfl) ?_
  refine x_iconst (v := 1) (dxX12_nextToken_5 11 rfl) rfl ?_
  refine x_iadd (dxX12_nextToken_5 12 rfl) ?_
  refine pf_12_195 (kd_179 hL) (dxX12_nextToken_5 13 rfl) ?_
  refine x_sto (fun s29 e30 => ?_)
  replace h := h s29 e30
  have hKs29 : kd s29 = kd σ := by rw [e30]; exact (rfl : kd σ = kd σ)
  have hLs29 : Lay s29 := by rw [e30]; exact hL.si
  refine x_aload_n (i := 0) (dxX12_nextToken_5 14 rfl) rfl rfl ?_
  refine x_iload_n (i := 1) (dxX12_nextToken_5 15 rfl) rfl rfl ?_
  refine x_bipush (v := 40) (dxX12_nextToken_5 16 rfl) rfl ?_
  refine x_icmp_lt (tgt := 345) (dxX12_nextToken_5 17 rfl) (by decide) (fun hc => ?_) (fun hc => ?_)
  · replace h := h.1 hc
    refine x_iload_n (i := 1) (dxX12_nextToken_5 21 rfl) rfl rfl ?_
    refine x_bipush (v := 45) (dxX12_nextToken_5 22 rfl) rfl ?_
    refine x_icmp_eq (tgt := 363) (dxX12_nextToken_5 23 rfl) (by decide) (fun hc => ?_) (fun hc => ?_)
    · replace h := h.1 hc
      refine x_iconst (v := 3) (dxX12_nextToken_5 30 rfl) rfl ?_
      refine x_goto (tgt := 368) (dxX12_nextToken_5 31 rfl) (by decide) ?_
      refine pf_12_208 (kd_179 hLs29) (dxX12_nextToken_6 1 rfl) ?_
      refine x_sto (fun s31 e32 => ?_)
      replace h := h s31 e32
      have hKs31 : kd s31 = kd σ := by rw [e32]; exact hKs29
      have hLs31 : Lay s31 := by rw [e32]; exact hLs29.si
      exact x_vret rfl (dxX12_nextToken_6 2 rfl) ⟨rfl, h⟩
    · replace h := h.2 hc
      refine x_iload_n (i := 1) (dxX12_nextToken_5 24 rfl) rfl rfl ?_
      refine x_bipush (v := 59) (dxX12_nextToken_5 25 rfl) rfl ?_
      refine x_icmp_lt (tgt := 367) (dxX12_nextToken_5 26 rfl) (by decide) (fun hc => ?_) (fun hc => ?_)
      · replace h := h.1 hc
        refine x_iconst (v := 4) (dxX12_nextToken_6 0 rfl) rfl ?_
        refine pf_12_208 (kd_179 hLs29) (dxX12_nextToken_6 1 rfl) ?_
        refine x_sto (fun s33 e34 => ?_)
        replace h := h s33 e34
        have hKs33 : kd s33 = kd σ := by rw [e34]; exact hKs29
        have hLs33 : Lay s33 := by rw [e34]; exact hLs29.si
        exact x_vret rfl (dxX12_nextToken_6 2 rfl) ⟨rfl, h⟩
      · replace h := h.2 hc
        refine x_iload_n (i := 1) (dxX12_nextToken_5 27 rfl) rfl rfl ?_
        refine x_bipush (v := 61) (dxX12_nextToken_5 28 rfl) rfl ?_
        refine x_icmp_gt (tgt := 367) (dxX12_nextToken_5 29 rfl) (by decide) (fun hc => ?_) (fun hc => ?_)
        · replace h := h.1 hc
          refine x_iconst (v := 4) (dxX12_nextToken_6 0 rfl) rfl ?_
          refine pf_12_208 (kd_179 hLs29) (dxX12_nextToken_6 1 rfl) ?_
          refine x_sto (fun s35 e36 => ?_)
          replace h := h s35 e36
          have hKs35 : kd s35 = kd σ := by rw [e36]; exact hKs29
          have hLs35 : Lay s35 := by rw [e36]; exact hLs29.si
          exact x_vret rfl (dxX12_nextToken_6 2 rfl) ⟨rfl, h⟩
        · replace h := h.2 hc
          refine x_iconst (v := 3) (dxX12_nextToken_5 30 rfl) rfl ?_
          refine x_goto (tgt := 368) (dxX12_nextToken_5 31 rfl) (by decide) ?_
          refine pf_12_208 (kd_179 hLs29) (dxX12_nextToken_6 1 rfl) ?_
          refine x_sto (fun s37 e38 => ?_)
          replace h := h s37 e38
          have hKs37 : kd s37 = kd σ := by rw [e38]; exact hKs29
          have hLs37 : Lay s37 := by rw [e38]; exact hLs29.si
          exact x_vret rfl (dxX12_nextToken_6 2 rfl) ⟨rfl, h⟩
  · replace h := h.2 hc
    refine x_iload_n (i := 1) (dxX12_nextToken_5 18 rfl) rfl rfl ?_
    refine x_bipush (v := 43) (dxX12_nextToken_5 19 rfl) rfl ?_
    refine x_icmp_le (tgt := 363) (dxX12_nextToken_5 20 rfl) (by decide) (fun hc => ?_) (fun hc => ?_)
    · replace h := h.1 hc
      refine x_iconst (v := 3) (dxX12_nextToken_5 30 rfl) rfl ?_
      refine x_goto (tgt := 368) (dxX12_nextToken_5 31 rfl) (by decide) ?_
      refine pf_12_208 (kd_179 hLs29) (dxX12_nextToken_6 1 rfl) ?_
      refine x_sto (fun s39 e40 => ?_)
      replace h := h s39 e40
      have hKs39 : kd s39 = kd σ := by rw [e40]; exact hKs29
      have hLs39 : Lay s39 := by rw [e40]; exact hLs29.si
      exact x_vret rfl (dxX12_nextToken_6 2 rfl) ⟨rfl, h⟩
    · replace h := h.2 hc
      refine x_iload_n (i := 1) (dxX12_nextToken_5 21 rfl) rfl rfl ?_
      refine x_bipush (v := 45) (dxX12_nextToken_5 22 rfl) rfl ?_
      refine x_icmp_eq (tgt := 363) (dxX12_nextToken_5 23 rfl) (by decide) (fun hc => ?_) (fun hc => ?_)
      · replace h := h.1 hc
        refine x_iconst (v := 3) (dxX12_nextToken_5 30 rfl) rfl ?_
        refine x_goto (tgt := 368) (dxX12_nextToken_5 31 rfl) (by decide) ?_
        refine pf_12_208 (kd_179 hLs29) (dxX12_nextToken_6 1 rfl) ?_
        refine x_sto (fun s41 e42 => ?_)
        replace h := h s41 e42
        have hKs41 : kd s41 = kd σ := by rw [e42]; exact hKs29
        have hLs41 : Lay s41 := by rw [e42]; exact hLs29.si
        exact x_vret rfl (dxX12_nextToken_6 2 rfl) ⟨rfl, h⟩
      · replace h := h.2 hc
        refine x_iload_n (i := 1) (dxX12_nextToken_5 24 rfl) rfl rfl ?_
        refine x_bipush (v := 59) (dxX12_nextToken_5 25 rfl) rfl ?_
        refine x_icmp_lt (tgt := 367) (dxX12_nextToken_5 26 rfl) (by decide) (fun hc => ?_) (fun hc => ?_)
        · replace h := h.1 hc
          refine x_iconst (v := 4) (dxX12_nextToken_6 0 rfl) rfl ?_
          refine pf_12_208 (kd_179 hLs29) (dxX12_nextToken_6 1 rfl) ?_
          refine x_sto (fun s43 e44 => ?_)
          replace h := h s43 e44
          have hKs43 : kd s43 = kd σ := by rw [e44]; exact hKs29
          have hLs43 : Lay s43 := by rw [e44]; exact hLs29.si
          exact x_vret rfl (dxX12_nextToken_6 2 rfl) ⟨rfl, h⟩
        · replace h := h.2 hc
          refine x_iload_n (i := 1) (dxX12_nextToken_5 27 rfl) rfl rfl ?_
          refine x_bipush (v := 61) (dxX12_nextToken_5 28 rfl) rfl ?_
          refine x_icmp_gt (tgt := 367) (dxX12_nextToken_5 29 rfl) (by decide) (fun hc => ?_) (fun hc => ?_)
          · replace h := h.1 hc
            refine x_iconst (v := 4) (dxX12_nextToken_6 0 rfl) rfl ?_
            refine pf_12_208 (kd_179 hLs29) (dxX12_nextToken_6 1 rfl) ?_
            refine x_sto (fun s45 e46 => ?_)
            replace h := h s45 e46
            have hKs45 : kd s45 = kd σ := by rw [e46]; exact hKs29
            have hLs45 : Lay s45 := by rw [e46]; exact hLs29.si
            exact x_vret rfl (dxX12_nextToken_6 2 rfl) ⟨rfl, h⟩
          · replace h := h.2 hc
            refine x_iconst (v := 3) (dxX12_nextToken_5 30 rfl) rfl ?_
            refine x_goto (tgt := 368) (dxX12_nextToken_5 31 rfl) (by decide) ?_
            refine pf_12_208 (kd_179 hLs29) (dxX12_nextToken_6 1 rfl) ?_
            refine x_sto (fun s47 e48 => ?_)
            replace h := h s47 e48
            have hKs47 : kd s47 = kd σ := by rw [e48]; exact hKs29
            have hLs47 : Lay s47 := by rw [e48]; exact hLs29.si
            exact x_vret rfl (dxX12_nextToken_6 2 rfl) ⟨rfl, h⟩
theorem vcX12_nextToken_224 {g : GV} {d : Nat} {P : PS → Prop} {σ : PS} (hL : Lay σ)  (h : CX12_signAt g d [.ref 179, .int (mi σ 179 4)] σ (fun (v50 : Int32) (s49 : PS) => Fr σ s49 ∧ (v50 < 48 → (((mi s49 179 4) - (mi s49 179 5)) ≤ 4 → ∀ s51 : PS, s51 = si s49 179 6 2 → P s51) ∧ (¬ ((mi s49 179 4) - (mi s49 179 5)) ≤ 4 → ∀ s53 : PS, s53 = si s49 179 6 4 → P s53)) ∧ (¬ v50 < 48 → CX12_signAt g d [.ref 179, .int (mi s49 179 4)] s49 (fun (v56 : Int32) (s55 : PS) => Fr s49 s55 ∧ (57 < v56 → (((mi s55 179 4) - (mi s55 179 5)) ≤ 4 → ∀ s57 : PS, s57 = si s55 179 6 2 → P s57) ∧ (¬ ((mi s55 179 4) - (mi s55 179 5)) ≤ 4 → ∀ s59 : PS, s59 = si s55 179 6 4 → P s59)) ∧ (¬ 57 < v56 → (4 ≤ ((mi s55 179 4) - (mi s55 179 5)) → ∀ s61 : PS, s61 = si s55 179 4 ((mi s55 179 4) + 1) → VX12_nextToken g (d + 1) P 224 [some (.ref 179), none] [] s61) ∧ (¬ 4 ≤ ((mi s55 179 4) - (mi s55 179 5)) → CX12_signAt g d [.ref 179, .int (mi s55 179 4)] s55 (fun (v64 : Int32) (s63 : PS) => Fr s55 s63 ∧ ∀ s65 : PS, s65 = si s63 179 8 ((((mi s55 179 8) * 10) + v64) - 48) → ∀ s67 : PS, s67 = si s65 179 4 ((mi s65 179 4) + 1) → VX12_nextToken g (d + 1) P 224 [some (.ref 179), none] [] s67))))))) : VX12_nextToken g (d + 1) P 224 [some (.ref 179), none] [] σ := by
  refine x_aload_n (i := 0) (dxX12_nextToken_3 20 rfl) rfl rfl ?_
  refine x_aload_n (i := 0) (dxX12_nextToken_3 21 rfl) rfl rfl ?_
  refine gf_12_195 (kd_179 hL) rfl (dxX12_nextToken_3 22 rfl) ?_
  refine cl_12_211 (kd_179 hL) (Nat.le_of_ble_eq_true rfl) (dxX12_nextToken_3 23 rfl) h (fun v50 s49 h => ?_) (Nat.le_refl _) (Nat.le_refl _)
  obtain ⟨hFs49, h⟩ := h
  have hKs49 : kd s49 = kd σ := hFs49.1.trans (rfl : kd σ = kd σ)
  have hLs49 : Lay s49 := hL.fr hFs49
  refine x_bipush (v := 48) (dxX12_nextToken_3 24 rfl) rfl ?_
  refine x_icmp_lt (tgt := 299) (dxX12_nextToken_3 25 rfl) (by decide) (fun hc => ?_) (fun hc => ?_)
  · replace h := h.1 hc
    refine x_aload_n (i := 0) (dxX12_nextToken_4 27 rfl) rfl rfl ?_
    refine x_aload_n (i := 0) (dxX12_nextToken_4 28 rfl) rfl rfl ?_
    refine gf_12_195 (kd_179 hLs49) rfl (dxX12_nextToken_4 29 rfl) ?_
    refine x_aload_n (i := 0) (dxX12_nextToken_4 30 rfl) rfl rfl ?_
    refine gf_12_198 (kd_179 hLs49) rfl (dxX12_nextToken_4 31 rfl) ?_
    refine x_isub (dxX12_nextToken_5 0 rfl) ?_
    refine x_iconst (v := 4) (dxX12_nextToken_5 1 rfl) rfl ?_
    refine x_icmp_le (tgt := 317) (dxX12_nextToken_5 2 rfl) (by decide) (fun hc => ?_) (fun hc => ?_)
    · replace h := h.1 hc
      refine x_iconst (v := 2) (dxX12_nextToken_5 5 rfl) rfl ?_
      refine pf_12_208 (kd_179 hLs49) (dxX12_nextToken_5 6 rfl) ?_
      refine x_sto (fun s51 e52 => ?_)
      replace h := h s51 e52
      have hKs51 : kd s51 = kd σ := by rw [e52]; exact hKs49
      have hLs51 : Lay s51 := by rw [e52]; exact hLs49.si
      exact x_vret rfl (dxX12_nextToken_5 7 rfl) ⟨rfl, h⟩
    · replace h := h.2 hc
      refine x_iconst (v := 4) (dxX12_nextToken_5 3 rfl) rfl ?_
      refine x_goto (tgt := 318) (dxX12_nextToken_5 4 rfl) (by decide) ?_
      refine pf_12_208 (kd_179 hLs49) (dxX12_nextToken_5 6 rfl) ?_
      refine x_sto (fun s53 e54 => ?_)
      replace h := h s53 e54
      have hKs53 : kd s53 = kd σ := by rw [e54]; exact hKs49
      have hLs53 : Lay s53 := by rw [e54]; exact hLs49.si
      exact x_vret rfl (dxX12_nextToken_5 7 rfl) ⟨rfl, h⟩
  · replace h := h.2 hc
    refine x_aload_n (i := 0) (dxX12_nextToken_3 26 rfl) rfl rfl ?_
    refine x_aload_n (i := 0) (dxX12_nextToken_3 27 rfl) rfl rfl ?_
    refine gf_12_195 (kd_179 hLs49) rfl (dxX12_nextToken_3 28 rfl) ?_
    refine cl_12_211 (kd_179 hLs49) (Nat.le_of_ble_eq_true rfl) (dxX12_nextToken_3 29 rfl) h (fun v56 s55 h => ?_) (Nat.le_refl _) (Nat.le_refl _)
    obtain ⟨hFs55, h⟩ := h
    have hKs55 : kd s55 = kd σ := hFs55.1.trans hKs49
    have hLs55 : Lay s55 := hLs49.fr hFs55
    refine x_bipush (v := 57) (dxX12_nextToken_3 30 rfl) rfl ?_
    refine x_icmp_gt (tgt := 299) (dxX12_nextToken_3 31 rfl) (by decide) (fun hc => ?_) (fun hc => ?_)
    · replace h := h.1 hc
      refine x_aload_n (i := 0) (dxX12_nextToken_4 27 rfl) rfl rfl ?_
      refine x_aload_n (i := 0) (dxX12_nextToken_4 28 rfl) rfl rfl ?_
      refine gf_12_195 (kd_179 hLs55) rfl (dxX12_nextToken_4 29 rfl) ?_
      refine x_aload_n (i := 0) (dxX12_nextToken_4 30 rfl) rfl rfl ?_
      refine gf_12_198 (kd_179 hLs55) rfl (dxX12_nextToken_4 31 rfl) ?_
      refine x_isub (dxX12_nextToken_5 0 rfl) ?_
      refine x_iconst (v := 4) (dxX12_nextToken_5 1 rfl) rfl ?_
      refine x_icmp_le (tgt := 317) (dxX12_nextToken_5 2 rfl) (by decide) (fun hc => ?_) (fun hc => ?_)
      · replace h := h.1 hc
        refine x_iconst (v := 2) (dxX12_nextToken_5 5 rfl) rfl ?_
        refine pf_12_208 (kd_179 hLs55) (dxX12_nextToken_5 6 rfl) ?_
        refine x_sto (fun s57 e58 => ?_)
        replace h := h s57 e58
        have hKs57 : kd s57 = kd σ := by rw [e58]; exact hKs55
        have hLs57 : Lay s57 := by rw [e58]; exact hLs55.si
        exact x_vret rfl (dxX12_nextToken_5 7 rfl) ⟨rfl, h⟩
      · replace h := h.2 hc
        refine x_iconst (v := 4) (dxX12_nextToken_5 3 rfl) rfl ?_
        refine x_goto (tgt := 318) (dxX12_nextToken_5 4 rfl) (by decide) ?_
        refine pf_12_208 (kd_179 hLs55) (dxX12_nextToken_5 6 rfl) ?_
        refine x_sto (fun s59 e60 => ?_)
        replace h := h s59 e60
        have hKs59 : kd s59 = kd σ := by rw [e60]; exact hKs55
        have hLs59 : Lay s59 := by rw [e60]; exact hLs55.si
        exact x_vret rfl (dxX12_nextToken_5 7 rfl) ⟨rfl, h⟩
    · replace h := h.2 hc
      refine x_aload_n (i := 0) (dxX12_nextToken_4 0 rfl) rfl rfl ?_
      refine gf_12_195 (kd_179 hLs55) rfl (dxX12_nextToken_4 1 rfl) ?_
      refine x_aload_n (i := 0) (dxX12_nextToken_4 2 rfl) rfl rfl ?_
      refine gf_12_198 (kd_179 hLs55) rfl (dxX12_nextToken_4 3 rfl) ?_
      refine x_isub (dxX12_nextToken_4 4 rfl) ?_
      refine x_iconst (v := 4) (dxX12_nextToken_4 5 rfl) rfl ?_
      refine x_icmp_ge (tgt := 286) (dxX12_nextToken_4 6 rfl) (by decide) (fun hc => ?_) (fun hc => ?_)
      · replace h := h.1 hc
        refine x_aload_n (i := 0) (dxX12_nextToken_4 20 rfl) rfl rfl ?_
        refine x_dup (dxX12_nextToken_4 21 rfl) rfl ?_
        refine gf_12_195 (kd_179 hLs55) rfl (dxX12_nextToken_4 22 rfl) ?_
        refine x_iconst (v := 1) (dxX12_nextToken_4 23 rfl) rfl ?_
        refine x_iadd (dxX12_nextToken_4 24 rfl) ?_
        refine pf_12_195 (kd_179 hLs55) (dxX12_nextToken_4 25 rfl) ?_
        refine x_sto (fun s61 e62 => ?_)
        replace h := h s61 e62
        have hKs61 : kd s61 = kd σ := by rw [e62]; exact hKs55
        have hLs61 : Lay s61 := by rw [e62]; exact hLs55.si
        refine x_goto (tgt := 224) (dxX12_nextToken_4 26 rfl) (by decide) ?_
        exact h
      · replace h := h.2 hc
        refine x_aload_n (i := 0) (dxX12_nextToken_4 7 rfl) rfl rfl ?_
        refine x_aload_n (i := 0) (dxX12_nextToken_4 8 rfl) rfl rfl ?_
        refine gf_12_205 (kd_179 hLs55) rfl (dxX12_nextToken_4 9 rfl) ?_
        refine x_bipush (v := 10) (dxX12_nextToken_4 10 rfl) rfl ?_
        refine x_imul (dxX12_nextToken_4 11 rfl) ?_
        refine x_aload_n (i := 0) (dxX12_nextToken_4 12 rfl) rfl rfl ?_
        refine x_aload_n (i := 0) (dxX12_nextToken_4 13 rfl) rfl rfl ?_
        refine gf_12_195 (kd_179 hLs55) rfl (dxX12_nextToken_4 14 rfl) ?_
        refine cl_12_211 (kd_179 hLs55) (Nat.le_of_ble_eq_true rfl) (dxX12_nextToken_4 15 rfl) h (fun v64 s63 h => ?_) (Nat.le_refl _) (Nat.le_refl _)
        obtain ⟨hFs63, h⟩ := h
        have hKs63 : kd s63 = kd σ := hFs63.1.trans hKs55
        have hLs63 : Lay s63 := hLs55.fr hFs63
        refine x_iadd (dxX12_nextToken_4 16 rfl) ?_
        refine x_bipush (v := 48) (dxX12_nextToken_4 17 rfl) rfl ?_
        refine x_isub (dxX12_nextToken_4 18 rfl) ?_
        refine pf_12_205 (kd_179 hLs63) (dxX12_nextToken_4 19 rfl) ?_
        refine x_sto (fun s65 e66 => ?_)
        replace h := h s65 e66
        have hKs65 : kd s65 = kd σ := by rw [e66]; exact hKs63
        have hLs65 : Lay s65 := by rw [e66]; exact hLs63.si
        refine x_aload_n (i := 0) (dxX12_nextToken_4 20 rfl) rfl rfl ?_
        refine x_dup (dxX12_nextToken_4 21 rfl) rfl ?_
        refine gf_12_195 (kd_179 hLs65) rfl (dxX12_nextToken_4 22 rfl) ?_
        refine x_iconst (v := 1) (dxX12_nextToken_4 23 rfl) rfl ?_
        refine x_iadd (dxX12_nextToken_4 24 rfl) ?_
        refine pf_12_195 (kd_179 hLs65) (dxX12_nextToken_4 25 rfl) ?_
        refine x_sto (fun s67 e68 => ?_)
        replace h := h s67 e68
        have hKs67 : kd s67 = kd σ := by rw [e68]; exact hKs65
        have hLs67 : Lay s67 := by rw [e68]; exact hLs65.si
        refine x_goto (tgt := 224) (dxX12_nextToken_4 26 rfl) (by decide) ?_
        exact h
theorem vcX12_nextToken_109 {g : GV} {d : Nat} {P : PS → Prop} {σ : PS} (hL : Lay σ)  (h : CX12_signAt g d [.ref 179, .int (mi σ 179 4)] σ (fun (v70 : Int32) (s69 : PS) => Fr σ s69 ∧ (v70 < 97 → (((mi s69 179 4) - (mi s69 179 5)) ≤ 8 → ∀ s71 : PS, s71 = si s69 179 6 1 → P s71) ∧ (¬ ((mi s69 179 4) - (mi s69 179 5)) ≤ 8 → ∀ s73 : PS, s73 = si s69 179 6 4 → P s73)) ∧ (¬ v70 < 97 → CX12_signAt g d [.ref 179, .int (mi s69 179 4)] s69 (fun (v76 : Int32) (s75 : PS) => Fr s69 s75 ∧ (122 < v76 → (((mi s75 179 4) - (mi s75 179 5)) ≤ 8 → ∀ s77 : PS, s77 = si s75 179 6 1 → P s77) ∧ (¬ ((mi s75 179 4) - (mi s75 179 5)) ≤ 8 → ∀ s79 : PS, s79 = si s75 179 6 4 → P s79)) ∧ (¬ 122 < v76 → (8 ≤ ((mi s75 179 4) - (mi s75 179 5)) → ∀ s81 : PS, s81 = si s75 179 4 ((mi s75 179 4) + 1) → VX12_nextToken g (d + 1) P 109 [some (.ref 179), none] [] s81) ∧ (¬ 8 ≤ ((mi s75 179 4) - (mi s75 179 5)) → CX12_signAt g d [.ref 179, .int (mi s75 179 4)] s75 (fun (v84 : Int32) (s83 : PS) => Fr s75 s83 ∧ ∀ s85 : PS, s85 = sj s83 179 7 ((((ml s75 179 7) * 27) + (Int32.toInt64 v84)) - 96) → ∀ s87 : PS, s87 = si s85 179 4 ((mi s85 179 4) + 1) → VX12_nextToken g (d + 1) P 109 [some (.ref 179), none] [] s87))))))) : VX12_nextToken g (d + 1) P 109 [some (.ref 179), none] [] σ := by
  refine x_aload_n (i := 0) (dxX12_nextToken_1 25 rfl) rfl rfl ?_
  refine x_aload_n (i := 0) (dxX12_nextToken_1 26 rfl) rfl rfl ?_
  refine gf_12_195 (kd_179 hL) rfl (dxX12_nextToken_1 27 rfl) ?_
  refine cl_12_211 (kd_179 hL) (Nat.le_of_ble_eq_true rfl) (dxX12_nextToken_1 28 rfl) h (fun v70 s69 h => ?_) (Nat.le_refl _) (Nat.le_refl _)
  obtain ⟨hFs69, h⟩ := h
  have hKs69 : kd s69 = kd σ := hFs69.1.trans (rfl : kd σ = kd σ)
  have hLs69 : Lay s69 := hL.fr hFs69
  refine x_bipush (v := 97) (dxX12_nextToken_1 29 rfl) rfl ?_
  refine x_icmp_lt (tgt := 188) (dxX12_nextToken_1 30 rfl) (by decide) (fun hc => ?_) (fun hc => ?_)
  · replace h := h.1 hc
    refine x_aload_n (i := 0) (dxX12_nextToken_3 1 rfl) rfl rfl ?_
    refine x_aload_n (i := 0) (dxX12_nextToken_3 2 rfl) rfl rfl ?_
    refine gf_12_195 (kd_179 hLs69) rfl (dxX12_nextToken_3 3 rfl) ?_
    refine x_aload_n (i := 0) (dxX12_nextToken_3 4 rfl) rfl rfl ?_
    refine gf_12_198 (kd_179 hLs69) rfl (dxX12_nextToken_3 5 rfl) ?_
    refine x_isub (dxX12_nextToken_3 6 rfl) ?_
    refine x_bipush (v := 8) (dxX12_nextToken_3 7 rfl) rfl ?_
    refine x_icmp_le (tgt := 207) (dxX12_nextToken_3 8 rfl) (by decide) (fun hc => ?_) (fun hc => ?_)
    · replace h := h.1 hc
      refine x_iconst (v := 1) (dxX12_nextToken_3 11 rfl) rfl ?_
      refine pf_12_208 (kd_179 hLs69) (dxX12_nextToken_3 12 rfl) ?_
      refine x_sto (fun s71 e72 => ?_)
      replace h := h s71 e72
      have hKs71 : kd s71 = kd σ := by rw [e72]; exact hKs69
      have hLs71 : Lay s71 := by rw [e72]; exact hLs69.si
      exact x_vret rfl (dxX12_nextToken_3 13 rfl) ⟨rfl, h⟩
    · replace h := h.2 hc
      refine x_iconst (v := 4) (dxX12_nextToken_3 9 rfl) rfl ?_
      refine x_goto (tgt := 208) (dxX12_nextToken_3 10 rfl) (by decide) ?_
      refine pf_12_208 (kd_179 hLs69) (dxX12_nextToken_3 12 rfl) ?_
      refine x_sto (fun s73 e74 => ?_)
      replace h := h s73 e74
      have hKs73 : kd s73 = kd σ := by rw [e74]; exact hKs69
      have hLs73 : Lay s73 := by rw [e74]; exact hLs69.si
      exact x_vret rfl (dxX12_nextToken_3 13 rfl) ⟨rfl, h⟩
  · replace h := h.2 hc
    refine x_aload_n (i := 0) (dxX12_nextToken_1 31 rfl) rfl rfl ?_
    refine x_aload_n (i := 0) (dxX12_nextToken_2 0 rfl) rfl rfl ?_
    refine gf_12_195 (kd_179 hLs69) rfl (dxX12_nextToken_2 1 rfl) ?_
    refine cl_12_211 (kd_179 hLs69) (Nat.le_of_ble_eq_true rfl) (dxX12_nextToken_2 2 rfl) h (fun v76 s75 h => ?_) (Nat.le_refl _) (Nat.le_refl _)
    obtain ⟨hFs75, h⟩ := h
    have hKs75 : kd s75 = kd σ := hFs75.1.trans hKs69
    have hLs75 : Lay s75 := hLs69.fr hFs75
    refine x_bipush (v := 122) (dxX12_nextToken_2 3 rfl) rfl ?_
    refine x_icmp_gt (tgt := 188) (dxX12_nextToken_2 4 rfl) (by decide) (fun hc => ?_) (fun hc => ?_)
    · replace h := h.1 hc
      refine x_aload_n (i := 0) (dxX12_nextToken_3 1 rfl) rfl rfl ?_
      refine x_aload_n (i := 0) (dxX12_nextToken_3 2 rfl) rfl rfl ?_
      refine gf_12_195 (kd_179 hLs75) rfl (dxX12_nextToken_3 3 rfl) ?_
      refine x_aload_n (i := 0) (dxX12_nextToken_3 4 rfl) rfl rfl ?_
      refine gf_12_198 (kd_179 hLs75) rfl (dxX12_nextToken_3 5 rfl) ?_
      refine x_isub (dxX12_nextToken_3 6 rfl) ?_
      refine x_bipush (v := 8) (dxX12_nextToken_3 7 rfl) rfl ?_
      refine x_icmp_le (tgt := 207) (dxX12_nextToken_3 8 rfl) (by decide) (fun hc => ?_) (fun hc => ?_)
      · replace h := h.1 hc
        refine x_iconst (v := 1) (dxX12_nextToken_3 11 rfl) rfl ?_
        refine pf_12_208 (kd_179 hLs75) (dxX12_nextToken_3 12 rfl) ?_
        refine x_sto (fun s77 e78 => ?_)
        replace h := h s77 e78
        have hKs77 : kd s77 = kd σ := by rw [e78]; exact hKs75
        have hLs77 : Lay s77 := by rw [e78]; exact hLs75.si
        exact x_vret rfl (dxX12_nextToken_3 13 rfl) ⟨rfl, h⟩
      · replace h := h.2 hc
        refine x_iconst (v := 4) (dxX12_nextToken_3 9 rfl) rfl ?_
        refine x_goto (tgt := 208) (dxX12_nextToken_3 10 rfl) (by decide) ?_
        refine pf_12_208 (kd_179 hLs75) (dxX12_nextToken_3 12 rfl) ?_
        refine x_sto (fun s79 e80 => ?_)
        replace h := h s79 e80
        have hKs79 : kd s79 = kd σ := by rw [e80]; exact hKs75
        have hLs79 : Lay s79 := by rw [e80]; exact hLs75.si
        exact x_vret rfl (dxX12_nextToken_3 13 rfl) ⟨rfl, h⟩
    · replace h := h.2 hc
      refine x_aload_n (i := 0) (dxX12_nextToken_2 5 rfl) rfl rfl ?_
      refine gf_12_195 (kd_179 hLs75) rfl (dxX12_nextToken_2 6 rfl) ?_
      refine x_aload_n (i := 0) (dxX12_nextToken_2 7 rfl) rfl rfl ?_
      refine gf_12_198 (kd_179 hLs75) rfl (dxX12_nextToken_2 8 rfl) ?_
      refine x_isub (dxX12_nextToken_2 9 rfl) ?_
      refine x_bipush (v := 8) (dxX12_nextToken_2 10 rfl) rfl ?_
      refine x_icmp_ge (tgt := 175) (dxX12_nextToken_2 11 rfl) (by decide) (fun hc => ?_) (fun hc => ?_)
      · replace h := h.1 hc
        refine x_aload_n (i := 0) (dxX12_nextToken_2 26 rfl) rfl rfl ?_
        refine x_dup (dxX12_nextToken_2 27 rfl) rfl ?_
        refine gf_12_195 (kd_179 hLs75) rfl (dxX12_nextToken_2 28 rfl) ?_
        refine x_iconst (v := 1) (dxX12_nextToken_2 29 rfl) rfl ?_
        refine x_iadd (dxX12_nextToken_2 30 rfl) ?_
        refine pf_12_195 (kd_179 hLs75) (dxX12_nextToken_2 31 rfl) ?_
        refine x_sto (fun s81 e82 => ?_)
        replace h := h s81 e82
        have hKs81 : kd s81 = kd σ := by rw [e82]; exact hKs75
        have hLs81 : Lay s81 := by rw [e82]; exact hLs75.si
        refine x_goto (tgt := 109) (dxX12_nextToken_3 0 rfl) (by decide) ?_
        exact h
      · replace h := h.2 hc
        refine x_aload_n (i := 0) (dxX12_nextToken_2 12 rfl) rfl rfl ?_
        refine x_aload_n (i := 0) (dxX12_nextToken_2 13 rfl) rfl rfl ?_
        refine gf_12_201 (kd_179 hLs75) rfl (dxX12_nextToken_2 14 rfl) ?_
        refine x_ldc2 (dxX12_nextToken_2 15 rfl) gw_1508 ?_
        refine x_lmul (dxX12_nextToken_2 16 rfl) ?_
        refine x_aload_n (i := 0) (dxX12_nextToken_2 17 rfl) rfl rfl ?_
        refine x_aload_n (i := 0) (dxX12_nextToken_2 18 rfl) rfl rfl ?_
        refine gf_12_195 (kd_179 hLs75) rfl (dxX12_nextToken_2 19 rfl) ?_
        refine cl_12_211 (kd_179 hLs75) (Nat.le_of_ble_eq_true rfl) (dxX12_nextToken_2 20 rfl) h (fun v84 s83 h => ?_) (Nat.le_refl _) (Nat.le_refl _)
        obtain ⟨hFs83, h⟩ := h
        have hKs83 : kd s83 = kd σ := hFs83.1.trans hKs75
        have hLs83 : Lay s83 := hLs75.fr hFs83
        refine x_i2l (dxX12_nextToken_2 21 rfl) ?_
        refine x_ladd (dxX12_nextToken_2 22 rfl) ?_
        refine x_ldc2 (dxX12_nextToken_2 23 rfl) gw_1509 ?_
        refine x_lsub (dxX12_nextToken_2 24 rfl) ?_
        refine pf_12_201 (kd_179 hLs83) (dxX12_nextToken_2 25 rfl) ?_
        refine x_sto (fun s85 e86 => ?_)
        replace h := h s85 e86
        have hKs85 : kd s85 = kd σ := by rw [e86]; exact hKs83
        have hLs85 : Lay s85 := by rw [e86]; exact hLs83.sj
        refine x_aload_n (i := 0) (dxX12_nextToken_2 26 rfl) rfl rfl ?_
        refine x_dup (dxX12_nextToken_2 27 rfl) rfl ?_
        refine gf_12_195 (kd_179 hLs85) rfl (dxX12_nextToken_2 28 rfl) ?_
        refine x_iconst (v := 1) (dxX12_nextToken_2 29 rfl) rfl ?_
        refine x_iadd (dxX12_nextToken_2 30 rfl) ?_
        refine pf_12_195 (kd_179 hLs85) (dxX12_nextToken_2 31 rfl) ?_
        refine x_sto (fun s87 e88 => ?_)
        replace h := h s87 e88
        have hKs87 : kd s87 = kd σ := by rw [e88]; exact hKs85
        have hLs87 : Lay s87 := by rw [e88]; exact hLs85.si
        refine x_goto (tgt := 109) (dxX12_nextToken_3 0 rfl) (by decide) ?_
        exact h
theorem vcX12_nextToken_0 {g : GV} {d : Nat} {P : PS → Prop} {σ : PS} (hL : Lay σ)  (h : ((mi σ 179 3) ≤ (mi σ 179 4) → ∀ s89 : PS, s89 = si σ 179 5 (mi σ 179 4) → ∀ s91 : PS, s91 = sj s89 179 7 0 → ∀ s93 : PS, s93 = si s91 179 8 0 → (¬ (mi s93 179 4) = (mi s93 179 3) → vp_in (mi s93 179 4) 1000 ∧ ∀ x96 : Int32, x96 = mi s93 180 (Int32.toNatClampNeg (mi s93 179 4)) → (x96 < 97 → (x96 < 48 → VX12_nextToken g (d + 1) P 322 [some (.ref 179), some (.int x96)] [] s93) ∧ (¬ x96 < 48 → (57 < x96 → VX12_nextToken g (d + 1) P 322 [some (.ref 179), some (.int x96)] [] s93) ∧ (¬ 57 < x96 → VX12_nextToken g (d + 1) P 224 [some (.ref 179), none] [] s93))) ∧ (¬ x96 < 97 → (122 < x96 → (x96 < 48 → VX12_nextToken g (d + 1) P 322 [some (.ref 179), some (.int x96)] [] s93) ∧ (¬ x96 < 48 → (57 < x96 → VX12_nextToken g (d + 1) P 322 [some (.ref 179), some (.int x96)] [] s93) ∧ (¬ 57 < x96 → VX12_nextToken g (d + 1) P 224 [some (.ref 179), none] [] s93))) ∧ (¬ 122 < x96 → VX12_nextToken g (d + 1) P 109 [some (.ref 179), none] [] s93))) ∧ ((mi s93 179 4) = (mi s93 179 3) → ∀ s98 : PS, s98 = si s93 179 6 0 → P s98)) ∧ (¬ (mi σ 179 3) ≤ (mi σ 179 4) → vp_in (mi σ 179 4) 1000 ∧ ((mi σ 180 (Int32.toNatClampNeg (mi σ 179 4))) = 32 → ∀ s101 : PS, s101 = si σ 179 4 ((mi σ 179 4) + 1) → VX12_nextToken g (d + 1) P 0 [some (.ref 179), none] [] s101) ∧ (¬ (mi σ 180 (Int32.toNatClampNeg (mi σ 179 4))) = 32 → vp_in (mi σ 179 4) 1000 ∧ (¬ (mi σ 180 (Int32.toNatClampNeg (mi σ 179 4))) = 10 → ∀ s104 : PS, s104 = si σ 179 5 (mi σ 179 4) → ∀ s106 : PS, s106 = sj s104 179 7 0 → ∀ s108 : PS, s108 = si s106 179 8 0 → (¬ (mi s108 179 4) = (mi s108 179 3) → vp_in (mi s108 179 4) 1000 ∧ ∀ x111 : Int32, x111 = mi s108 180 (Int32.toNatClampNeg (mi s108 179 4)) → (x111 < 97 → (x111 < 48 → VX12_nextToken g (d + 1) P 322 [some (.ref 179), some (.int x111)] [] s108) ∧ (¬ x111 < 48 → (57 < x111 → VX12_nextToken g (d + 1) P 322 [some (.ref 179), some (.int x111)] [] s108) ∧ (¬ 57 < x111 → VX12_nextToken g (d + 1) P 224 [some (.ref 179), none] [] s108))) ∧ (¬ x111 < 97 → (122 < x111 → (x111 < 48 → VX12_nextToken g (d + 1) P 322 [some (.ref 179), some (.int x111)] [] s108) ∧ (¬ x111 < 48 → (57 < x111 → VX12_nextToken g (d + 1) P 322 [some (.ref 179), some (.int x111)] [] s108) ∧ (¬ 57 < x111 → VX12_nextToken g (d + 1) P 224 [some (.ref 179), none] [] s108))) ∧ (¬ 122 < x111 → VX12_nextToken g (d + 1) P 109 [some (.ref 179), none] [] s108))) ∧ ((mi s108 179 4) = (mi s108 179 3) → ∀ s113 : PS, s113 = si s108 179 6 0 → P s113)) ∧ ((mi σ 180 (Int32.toNatClampNeg (mi σ 179 4))) = 10 → ∀ s115 : PS, s115 = si σ 179 4 ((mi σ 179 4) + 1) → VX12_nextToken g (d + 1) P 0 [some (.ref 179), none] [] s115)))) : VX12_nextToken g (d + 1) P 0 [some (.ref 179), none] [] σ := by
  refine x_aload_n (i := 0) (dxX12_nextToken_0 0 rfl) rfl rfl ?_
  refine gf_12_195 (kd_179 hL) rfl (dxX12_nextToken_0 1 rfl) ?_
  refine x_aload_n (i := 0) (dxX12_nextToken_0 2 rfl) rfl rfl ?_
  refine gf_12_192 (kd_179 hL) rfl (dxX12_nextToken_0 3 rfl) ?_
  refine x_icmp_ge (tgt := 52) (dxX12_nextToken_0 4 rfl) (by decide) (fun hc => ?_) (fun hc => ?_)
  · replace h := h.1 hc
    refine x_aload_n (i := 0) (dxX12_nextToken_0 26 rfl) rfl rfl ?_
    refine x_aload_n (i := 0) (dxX12_nextToken_0 27 rfl) rfl rfl ?_
    refine gf_12_195 (kd_179 hL) rfl (dxX12_nextToken_0 28 rfl) ?_
    refine pf_12_198 (kd_179 hL) (dxX12_nextToken_0 29 rfl) ?_
    refine x_sto (fun s89 e90 => ?_)
    replace h := h s89 e90
    have hKs89 : kd s89 = kd σ := by rw [e90]; exact (rfl : kd σ = kd σ)
    have hLs89 : Lay s89 := by rw [e90]; exact hL.si
    refine x_aload_n (i := 0) (dxX12_nextToken_0 30 rfl) rfl rfl ?_
    refine x_lconst (v := 0) (dxX12_nextToken_0 31 rfl) rfl ?_
    refine pf_12_201 (kd_179 hLs89) (dxX12_nextToken_1 0 rfl) ?_
    refine x_sto (fun s91 e92 => ?_)
    replace h := h s91 e92
    have hKs91 : kd s91 = kd σ := by rw [e92]; exact hKs89
    have hLs91 : Lay s91 := by rw [e92]; exact hLs89.sj
    refine x_aload_n (i := 0) (dxX12_nextToken_1 1 rfl) rfl rfl ?_
    refine x_iconst (v := 0) (dxX12_nextToken_1 2 rfl) rfl ?_
    refine pf_12_205 (kd_179 hLs91) (dxX12_nextToken_1 3 rfl) ?_
    refine x_sto (fun s93 e94 => ?_)
    replace h := h s93 e94
    have hKs93 : kd s93 = kd σ := by rw [e94]; exact hKs91
    have hLs93 : Lay s93 := by rw [e94]; exact hLs91.si
    refine x_aload_n (i := 0) (dxX12_nextToken_1 4 rfl) rfl rfl ?_
    refine gf_12_195 (kd_179 hLs93) rfl (dxX12_nextToken_1 5 rfl) ?_
    refine x_aload_n (i := 0) (dxX12_nextToken_1 6 rfl) rfl rfl ?_
    refine gf_12_192 (kd_179 hLs93) rfl (dxX12_nextToken_1 7 rfl) ?_
    refine x_icmp_ne (tgt := 87) (dxX12_nextToken_1 8 rfl) (by decide) (fun hc => ?_) (fun hc => ?_)
    · replace h := h.1 hc
      refine x_aload_n (i := 0) (dxX12_nextToken_1 13 rfl) rfl rfl ?_
      refine gf_12_7 (kd_179 hLs93) (rv_179_2 hLs93) (dxX12_nextToken_1 14 rfl) ?_
      refine x_aload_n (i := 0) (dxX12_nextToken_1 15 rfl) rfl rfl ?_
      refine gf_12_195 (kd_179 hLs93) rfl (dxX12_nextToken_1 16 rfl) ?_
      obtain ⟨hi95, h⟩ := h
      refine x_iald (kd_180 hLs93) hi95 (dxX12_nextToken_1 17 rfl) ?_
      refine x_topi (fun x96 e97 => ?_)
      replace h := h x96 e97
      refine x_istore_n (i := 1) (dxX12_nextToken_1 18 rfl) rfl (Nat.le_of_ble_eq_true rfl) rfl rfl ?_
      refine x_iload_n (i := 1) (dxX12_nextToken_1 19 rfl) rfl rfl ?_
      refine x_bipush (v := 97) (dxX12_nextToken_1 20 rfl) rfl ?_
      refine x_icmp_lt (tgt := 212) (dxX12_nextToken_1 21 rfl) (by decide) (fun hc => ?_) (fun hc => ?_)
      · replace h := h.1 hc
        refine x_iload_n (i := 1) (dxX12_nextToken_3 14 rfl) rfl rfl ?_
        refine x_bipush (v := 48) (dxX12_nextToken_3 15 rfl) rfl ?_
        refine x_icmp_lt (tgt := 322) (dxX12_nextToken_3 16 rfl) (by decide) (fun hc => ?_) (fun hc => ?_)
        · replace h := h.1 hc
          exact h
        · replace h := h.2 hc
          refine x_iload_n (i := 1) (dxX12_nextToken_3 17 rfl) rfl rfl ?_
          refine x_bipush (v := 57) (dxX12_nextToken_3 18 rfl) rfl ?_
          refine x_icmp_gt (tgt := 322) (dxX12_nextToken_3 19 rfl) (by decide) (fun hc => ?_) (fun hc => ?_)
          · replace h := h.1 hc
            exact h
          · replace h := h.2 hc
            refine x_mask [true, false] (L1 := [some (.ref 179), none]) rfl ?_
            exact h
      · replace h := h.2 hc
        refine x_iload_n (i := 1) (dxX12_nextToken_1 22 rfl) rfl rfl ?_
        refine x_bipush (v := 122) (dxX12_nextToken_1 23 rfl) rfl ?_
        refine x_icmp_gt (tgt := 212) (dxX12_nextToken_1 24 rfl) (by decide) (fun hc => ?_) (fun hc => ?_)
        · replace h := h.1 hc
          refine x_iload_n (i := 1) (dxX12_nextToken_3 14 rfl) rfl rfl ?_
          refine x_bipush (v := 48) (dxX12_nextToken_3 15 rfl) rfl ?_
          refine x_icmp_lt (tgt := 322) (dxX12_nextToken_3 16 rfl) (by decide) (fun hc => ?_) (fun hc => ?_)
          · replace h := h.1 hc
            exact h
          · replace h := h.2 hc
            refine x_iload_n (i := 1) (dxX12_nextToken_3 17 rfl) rfl rfl ?_
            refine x_bipush (v := 57) (dxX12_nextToken_3 18 rfl) rfl ?_
            refine x_icmp_gt (tgt := 322) (dxX12_nextToken_3 19 rfl) (by decide) (fun hc => ?_) (fun hc => ?_)
            · replace h := h.1 hc
              exact h
            · replace h := h.2 hc
              refine x_mask [true, false] (L1 := [some (.ref 179), none]) rfl ?_
              exact h
        · replace h := h.2 hc
          refine x_mask [true, false] (L1 := [some (.ref 179), none]) rfl ?_
          exact h
    · replace h := h.2 hc
      refine x_aload_n (i := 0) (dxX12_nextToken_1 9 rfl) rfl rfl ?_
      refine x_iconst (v := 0) (dxX12_nextToken_1 10 rfl) rfl ?_
      refine pf_12_208 (kd_179 hLs93) (dxX12_nextToken_1 11 rfl) ?_
      refine x_sto (fun s98 e99 => ?_)
      replace h := h s98 e99
      have hKs98 : kd s98 = kd σ := by rw [e99]; exact hKs93
      have hLs98 : Lay s98 := by rw [e99]; exact hLs93.si
      exact x_vret rfl (dxX12_nextToken_1 12 rfl) ⟨rfl, h⟩
  · replace h := h.2 hc
    refine x_aload_n (i := 0) (dxX12_nextToken_0 5 rfl) rfl rfl ?_
    refine gf_12_7 (kd_179 hL) (rv_179_2 hL) (dxX12_nextToken_0 6 rfl) ?_
    refine x_aload_n (i := 0) (dxX12_nextToken_0 7 rfl) rfl rfl ?_
    refine gf_12_195 (kd_179 hL) rfl (dxX12_nextToken_0 8 rfl) ?_
    obtain ⟨hi100, h⟩ := h
    refine x_iald (kd_180 hL) hi100 (dxX12_nextToken_0 9 rfl) ?_
    refine x_bipush (v := 32) (dxX12_nextToken_0 10 rfl) rfl ?_
    refine x_icmp_eq (tgt := 39) (dxX12_nextToken_0 11 rfl) (by decide) (fun hc => ?_) (fun hc => ?_)
    · replace h := h.1 hc
      refine x_aload_n (i := 0) (dxX12_nextToken_0 19 rfl) rfl rfl ?_
      refine x_dup (dxX12_nextToken_0 20 rfl) rfl ?_
      refine gf_12_195 (kd_179 hL) rfl (dxX12_nextToken_0 21 rfl) ?_
      refine x_iconst (v := 1) (dxX12_nextToken_0 22 rfl) rfl ?_
      refine x_iadd (dxX12_nextToken_0 23 rfl) ?_
      refine pf_12_195 (kd_179 hL) (dxX12_nextToken_0 24 rfl) ?_
      refine x_sto (fun s101 e102 => ?_)
      replace h := h s101 e102
      have hKs101 : kd s101 = kd σ := by rw [e102]; exact (rfl : kd σ = kd σ)
      have hLs101 : Lay s101 := by rw [e102]; exact hL.si
      refine x_goto (tgt := 0) (dxX12_nextToken_0 25 rfl) (by decide) ?_
      exact h
    · replace h := h.2 hc
      refine x_aload_n (i := 0) (dxX12_nextToken_0 12 rfl) rfl rfl ?_
      refine gf_12_7 (kd_179 hL) (rv_179_2 hL) (dxX12_nextToken_0 13 rfl) ?_
      refine x_aload_n (i := 0) (dxX12_nextToken_0 14 rfl) rfl rfl ?_
      refine gf_12_195 (kd_179 hL) rfl (dxX12_nextToken_0 15 rfl) ?_
      obtain ⟨hi103, h⟩ := h
      refine x_iald (kd_180 hL) hi103 (dxX12_nextToken_0 16 rfl) ?_
      refine x_bipush (v := 10) (dxX12_nextToken_0 17 rfl) rfl ?_
      refine x_icmp_ne (tgt := 52) (dxX12_nextToken_0 18 rfl) (by decide) (fun hc => ?_) (fun hc => ?_)
      · replace h := h.1 hc
        refine x_aload_n (i := 0) (dxX12_nextToken_0 26 rfl) rfl rfl ?_
        refine x_aload_n (i := 0) (dxX12_nextToken_0 27 rfl) rfl rfl ?_
        refine gf_12_195 (kd_179 hL) rfl (dxX12_nextToken_0 28 rfl) ?_
        refine pf_12_198 (kd_179 hL) (dxX12_nextToken_0 29 rfl) ?_
        refine x_sto (fun s104 e105 => ?_)
        replace h := h s104 e105
        have hKs104 : kd s104 = kd σ := by rw [e105]; exact (rfl : kd σ = kd σ)
        have hLs104 : Lay s104 := by rw [e105]; exact hL.si
        refine x_aload_n (i := 0) (dxX12_nextToken_0 30 rfl) rfl rfl ?_
        refine x_lconst (v := 0) (dxX12_nextToken_0 31 rfl) rfl ?_
        refine pf_12_201 (kd_179 hLs104) (dxX12_nextToken_1 0 rfl) ?_
        refine x_sto (fun s106 e107 => ?_)
        replace h := h s106 e107
        have hKs106 : kd s106 = kd σ := by rw [e107]; exact hKs104
        have hLs106 : Lay s106 := by rw [e107]; exact hLs104.sj
        refine x_aload_n (i := 0) (dxX12_nextToken_1 1 rfl) rfl rfl ?_
        refine x_iconst (v := 0) (dxX12_nextToken_1 2 rfl) rfl ?_
        refine pf_12_205 (kd_179 hLs106) (dxX12_nextToken_1 3 rfl) ?_
        refine x_sto (fun s108 e109 => ?_)
        replace h := h s108 e109
        have hKs108 : kd s108 = kd σ := by rw [e109]; exact hKs106
        have hLs108 : Lay s108 := by rw [e109]; exact hLs106.si
        refine x_aload_n (i := 0) (dxX12_nextToken_1 4 rfl) rfl rfl ?_
        refine gf_12_195 (kd_179 hLs108) rfl (dxX12_nextToken_1 5 rfl) ?_
        refine x_aload_n (i := 0) (dxX12_nextToken_1 6 rfl) rfl rfl ?_
        refine gf_12_192 (kd_179 hLs108) rfl (dxX12_nextToken_1 7 rfl) ?_
        refine x_icmp_ne (tgt := 87) (dxX12_nextToken_1 8 rfl) (by decide) (fun hc => ?_) (fun hc => ?_)
        · replace h := h.1 hc
          refine x_aload_n (i := 0) (dxX12_nextToken_1 13 rfl) rfl rfl ?_
          refine gf_12_7 (kd_179 hLs108) (rv_179_2 hLs108) (dxX12_nextToken_1 14 rfl) ?_
          refine x_aload_n (i := 0) (dxX12_nextToken_1 15 rfl) rfl rfl ?_
          refine gf_12_195 (kd_179 hLs108) rfl (dxX12_nextToken_1 16 rfl) ?_
          obtain ⟨hi110, h⟩ := h
          refine x_iald (kd_180 hLs108) hi110 (dxX12_nextToken_1 17 rfl) ?_
          refine x_topi (fun x111 e112 => ?_)
          replace h := h x111 e112
          refine x_istore_n (i := 1) (dxX12_nextToken_1 18 rfl) rfl (Nat.le_of_ble_eq_true rfl) rfl rfl ?_
          refine x_iload_n (i := 1) (dxX12_nextToken_1 19 rfl) rfl rfl ?_
          refine x_bipush (v := 97) (dxX12_nextToken_1 20 rfl) rfl ?_
          refine x_icmp_lt (tgt := 212) (dxX12_nextToken_1 21 rfl) (by decide) (fun hc => ?_) (fun hc => ?_)
          · replace h := h.1 hc
            refine x_iload_n (i := 1) (dxX12_nextToken_3 14 rfl) rfl rfl ?_
            refine x_bipush (v := 48) (dxX12_nextToken_3 15 rfl) rfl ?_
            refine x_icmp_lt (tgt := 322) (dxX12_nextToken_3 16 rfl) (by decide) (fun hc => ?_) (fun hc => ?_)
            · replace h := h.1 hc
              exact h
            · replace h := h.2 hc
              refine x_iload_n (i := 1) (dxX12_nextToken_3 17 rfl) rfl rfl ?_
              refine x_bipush (v := 57) (dxX12_nextToken_3 18 rfl) rfl ?_
              refine x_icmp_gt (tgt := 322) (dxX12_nextToken_3 19 rfl) (by decide) (fun hc => ?_) (fun hc => ?_)
              · replace h := h.1 hc
                exact h
              · replace h := h.2 hc
                refine x_mask [true, false] (L1 := [some (.ref 179), none]) rfl ?_
                exact h
          · replace h := h.2 hc
            refine x_iload_n (i := 1) (dxX12_nextToken_1 22 rfl) rfl rfl ?_
            refine x_bipush (v := 122) (dxX12_nextToken_1 23 rfl) rfl ?_
            refine x_icmp_gt (tgt := 212) (dxX12_nextToken_1 24 rfl) (by decide) (fun hc => ?_) (fun hc => ?_)
            · replace h := h.1 hc
              refine x_iload_n (i := 1) (dxX12_nextToken_3 14 rfl) rfl rfl ?_
              refine x_bipush (v := 48) (dxX12_nextToken_3 15 rfl) rfl ?_
              refine x_icmp_lt (tgt := 322) (dxX12_nextToken_3 16 rfl) (by decide) (fun hc => ?_) (fun hc => ?_)
              · replace h := h.1 hc
                exact h
              · replace h := h.2 hc
                refine x_iload_n (i := 1) (dxX12_nextToken_3 17 rfl) rfl rfl ?_
                refine x_bipush (v := 57) (dxX12_nextToken_3 18 rfl) rfl ?_
                refine x_icmp_gt (tgt := 322) (dxX12_nextToken_3 19 rfl) (by decide) (fun hc => ?_) (fun hc => ?_)
                · replace h := h.1 hc
                  exact h
                · replace h := h.2 hc
                  refine x_mask [true, false] (L1 := [some (.ref 179), none]) rfl ?_
                  exact h
            · replace h := h.2 hc
              refine x_mask [true, false] (L1 := [some (.ref 179), none]) rfl ?_
              exact h
        · replace h := h.2 hc
          refine x_aload_n (i := 0) (dxX12_nextToken_1 9 rfl) rfl rfl ?_
          refine x_iconst (v := 0) (dxX12_nextToken_1 10 rfl) rfl ?_
          refine pf_12_208 (kd_179 hLs108) (dxX12_nextToken_1 11 rfl) ?_
          refine x_sto (fun s113 e114 => ?_)
          replace h := h s113 e114
          have hKs113 : kd s113 = kd σ := by rw [e114]; exact hKs108
          have hLs113 : Lay s113 := by rw [e114]; exact hLs108.si
          exact x_vret rfl (dxX12_nextToken_1 12 rfl) ⟨rfl, h⟩
      · replace h := h.2 hc
        refine x_aload_n (i := 0) (dxX12_nextToken_0 19 rfl) rfl rfl ?_
        refine x_dup (dxX12_nextToken_0 20 rfl) rfl ?_
        refine gf_12_195 (kd_179 hL) rfl (dxX12_nextToken_0 21 rfl) ?_
        refine x_iconst (v := 1) (dxX12_nextToken_0 22 rfl) rfl ?_
        refine x_iadd (dxX12_nextToken_0 23 rfl) ?_
        refine pf_12_195 (kd_179 hL) (dxX12_nextToken_0 24 rfl) ?_
        refine x_sto (fun s115 e116 => ?_)
        replace h := h s115 e116
        have hKs115 : kd s115 = kd σ := by rw [e116]; exact (rfl : kd σ = kd σ)
        have hLs115 : Lay s115 := by rw [e116]; exact hL.si
        refine x_goto (tgt := 0) (dxX12_nextToken_0 25 rfl) (by decide) ?_
        exact h
theorem vcX12_isWord {g : GV} {d : Nat} {P : Int32 → PS → Prop} {σ : PS} (hL : Lay σ) (p0 : Int64) (h : (¬ (mi σ 179 6) = 1 → P 0 σ) ∧ ((mi σ 179 6) = 1 → (¬ (lg_cmp (ml σ 179 7) p0) = 0 → P 0 σ) ∧ ((lg_cmp (ml σ 179 7) p0) = 0 → P 1 σ))) : CX12_isWord g d [.ref 179, .long p0] σ P := by
  refine x_entry (L := [some (.ref 179), some (.long p0), none]) pn_12 (Nat.le_of_ble_eq_true rfl) ⟨0, rfl⟩ ?_
  show VX12_isWord g d P 0 [some (.ref 179), some (.long p0), none] [] σ
  refine x_aload_n (i := 0) (dxX12_isWord_0 0 rfl) rfl rfl ?_
  refine gf_12_208 (kd_179 hL) rfl (dxX12_isWord_0 1 rfl) ?_
  refine x_iconst (v := 1) (dxX12_isWord_0 2 rfl) rfl ?_
  refine x_icmp_ne (tgt := 21) (dxX12_isWord_0 3 rfl) (by decide) (fun hc => ?_) (fun hc => ?_)
  · replace h := h.1 hc
    refine x_iconst (v := 0) (dxX12_isWord_0 11 rfl) rfl ?_
    exact x_iret (ty := .boolean) rfl rfl (dxX12_isWord_0 12 rfl) ⟨_, rfl, h⟩
  · replace h := h.2 hc
    refine x_aload_n (i := 0) (dxX12_isWord_0 4 rfl) rfl rfl ?_
    refine gf_12_201 (kd_179 hL) rfl (dxX12_isWord_0 5 rfl) ?_
    refine x_lload_n (i := 1) (dxX12_isWord_0 6 rfl) rfl rfl ?_
    refine x_lcmp (dxX12_isWord_0 7 rfl) ?_
    refine x_if_ne (tgt := 21) (dxX12_isWord_0 8 rfl) (by decide) (fun hc => ?_) (fun hc => ?_)
    · replace h := h.1 hc
      refine x_iconst (v := 0) (dxX12_isWord_0 11 rfl) rfl ?_
      exact x_iret (ty := .boolean) rfl rfl (dxX12_isWord_0 12 rfl) ⟨_, rfl, h⟩
    · replace h := h.2 hc
      refine x_iconst (v := 1) (dxX12_isWord_0 9 rfl) rfl ?_
      refine x_goto (tgt := 22) (dxX12_isWord_0 10 rfl) (by decide) ?_
      exact x_iret (ty := .boolean) rfl rfl (dxX12_isWord_0 12 rfl) ⟨_, rfl, h⟩
theorem vcX12_isSign {g : GV} {d : Nat} {P : Int32 → PS → Prop} {σ : PS} (hL : Lay σ) (p0 : Int32) (h : (¬ (mi σ 179 6) = 3 → P 0 σ) ∧ ((mi σ 179 6) = 3 → vp_in (mi σ 179 5) 1000 ∧ (¬ (mi σ 180 (Int32.toNatClampNeg (mi σ 179 5))) = p0 → P 0 σ) ∧ ((mi σ 180 (Int32.toNatClampNeg (mi σ 179 5))) = p0 → P 1 σ))) : CX12_isSign g d [.ref 179, .int p0] σ P := by
  refine x_entry (L := [some (.ref 179), some (.int p0)]) pn_12 (Nat.le_of_ble_eq_true rfl) ⟨0, rfl⟩ ?_
  show VX12_isSign g d P 0 [some (.ref 179), some (.int p0)] [] σ
  refine x_aload_n (i := 0) (dxX12_isSign_0 0 rfl) rfl rfl ?_
  refine gf_12_208 (kd_179 hL) rfl (dxX12_isSign_0 1 rfl) ?_
  refine x_iconst (v := 3) (dxX12_isSign_0 2 rfl) rfl ?_
  refine x_icmp_ne (tgt := 25) (dxX12_isSign_0 3 rfl) (by decide) (fun hc => ?_) (fun hc => ?_)
  · replace h := h.1 hc
    refine x_iconst (v := 0) (dxX12_isSign_0 13 rfl) rfl ?_
    exact x_iret (ty := .boolean) rfl rfl (dxX12_isSign_0 14 rfl) ⟨_, rfl, h⟩
  · replace h := h.2 hc
    refine x_aload_n (i := 0) (dxX12_isSign_0 4 rfl) rfl rfl ?_
    refine gf_12_7 (kd_179 hL) (rv_179_2 hL) (dxX12_isSign_0 5 rfl) ?_
    refine x_aload_n (i := 0) (dxX12_isSign_0 6 rfl) rfl rfl ?_
    refine gf_12_198 (kd_179 hL) rfl (dxX12_isSign_0 7 rfl) ?_
    obtain ⟨hi1, h⟩ := h
    refine x_iald (kd_180 hL) hi1 (dxX12_isSign_0 8 rfl) ?_
    refine x_iload_n (i := 1) (dxX12_isSign_0 9 rfl) rfl rfl ?_
    refine x_icmp_ne (tgt := 25) (dxX12_isSign_0 10 rfl) (by decide) (fun hc => ?_) (fun hc => ?_)
    · replace h := h.1 hc
      refine x_iconst (v := 0) (dxX12_isSign_0 13 rfl) rfl ?_
      exact x_iret (ty := .boolean) rfl rfl (dxX12_isSign_0 14 rfl) ⟨_, rfl, h⟩
    · replace h := h.2 hc
      refine x_iconst (v := 1) (dxX12_isSign_0 11 rfl) rfl ?_
      refine x_goto (tgt := 26) (dxX12_isSign_0 12 rfl) (by decide) ?_
      exact x_iret (ty := .boolean) rfl rfl (dxX12_isSign_0 14 rfl) ⟨_, rfl, h⟩
theorem vcX12_fails {g : GV} {d : Nat} {P : Int32 → PS → Prop} {σ : PS} (hL : Lay σ) (p0 : Int32) (h : ∀ s1 : PS, s1 = si σ 179 9 (p0 + (16 * (mi σ 179 5))) → P 0 s1) : CX12_fails g d [.ref 179, .int p0] σ P := by
  refine x_entry (L := [some (.ref 179), some (.int p0)]) pn_12 (Nat.le_of_ble_eq_true rfl) ⟨0, rfl⟩ ?_
  show VX12_fails g d P 0 [some (.ref 179), some (.int p0)] [] σ
  refine x_aload_n (i := 0) (dxX12_fails_0 0 rfl) rfl rfl ?_
  refine x_iload_n (i := 1) (dxX12_fails_0 1 rfl) rfl rfl ?_
  refine x_bipush (v := 16) (dxX12_fails_0 2 rfl) rfl ?_
  refine x_aload_n (i := 0) (dxX12_fails_0 3 rfl) rfl rfl ?_
  refine gf_12_198 (kd_179 hL) rfl (dxX12_fails_0 4 rfl) ?_
  refine x_imul (dxX12_fails_0 5 rfl) ?_
  refine x_iadd (dxX12_fails_0 6 rfl) ?_
  refine pf_12_219 (kd_179 hL) (dxX12_fails_0 7 rfl) ?_
  refine x_sto (fun s1 e2 => ?_)
  replace h := h s1 e2
  have hKs1 : kd s1 = kd σ := by rw [e2]; exact (rfl : kd σ = kd σ)
  have hLs1 : Lay s1 := by rw [e2]; exact hL.si
  refine x_iconst (v := 0) (dxX12_fails_0 8 rfl) rfl ?_
  exact x_iret (ty := .boolean) rfl rfl (dxX12_fails_0 9 rfl) ⟨_, rfl, h⟩
theorem vcX12_puts {g : GV} {d : Nat} {P : PS → Prop} {σ : PS} (hL : Lay σ) (p0 : Int32) (h : vp_in (mi σ 179 21) 1000 ∧ ∀ s2 : PS, s2 = si σ 188 (Int32.toNatClampNeg (mi σ 179 21)) p0 → ∀ s4 : PS, s4 = si s2 179 21 ((mi s2 179 21) + 1) → P s4) : CX12_puts g d [.ref 179, .int p0] σ P := by
  refine x_entry (L := [some (.ref 179), some (.int p0)]) pn_12 (Nat.le_of_ble_eq_true rfl) ⟨0, rfl⟩ ?_
  show VX12_puts g d P 0 [some (.ref 179), some (.int p0)] [] σ
  refine x_aload_n (i := 0) (dxX12_puts_0 0 rfl) rfl rfl ?_
  refine gf_12_34 (kd_179 hL) (rv_179_18 hL) (dxX12_puts_0 1 rfl) ?_
  refine x_aload_n (i := 0) (dxX12_puts_0 2 rfl) rfl rfl ?_
  refine gf_12_222 (kd_179 hL) rfl (dxX12_puts_0 3 rfl) ?_
  refine x_iload_n (i := 1) (dxX12_puts_0 4 rfl) rfl rfl ?_
  obtain ⟨hi1, h⟩ := h
  refine x_iast (kd_188 hL) hi1 (dxX12_puts_0 5 rfl) ?_
  refine x_sto (fun s2 e3 => ?_)
  replace h := h s2 e3
  have hKs2 : kd s2 = kd σ := by rw [e3]; exact (rfl : kd σ = kd σ)
  have hLs2 : Lay s2 := by rw [e3]; exact hL.si
  refine x_aload_n (i := 0) (dxX12_puts_0 6 rfl) rfl rfl ?_
  refine x_dup (dxX12_puts_0 7 rfl) rfl ?_
  refine gf_12_222 (kd_179 hLs2) rfl (dxX12_puts_0 8 rfl) ?_
  refine x_iconst (v := 1) (dxX12_puts_0 9 rfl) rfl ?_
  refine x_iadd (dxX12_puts_0 10 rfl) ?_
  refine pf_12_222 (kd_179 hLs2) (dxX12_puts_0 11 rfl) ?_
  refine x_sto (fun s4 e5 => ?_)
  replace h := h s4 e5
  have hKs4 : kd s4 = kd σ := by rw [e5]; exact hKs2
  have hLs4 : Lay s4 := by rw [e5]; exact hLs2.si
  exact x_vret rfl (dxX12_puts_0 12 rfl) ⟨rfl, h⟩
theorem vcX12_isKept {g : GV} {d : Nat} {P : Int32 → PS → Prop} {σ : PS} (hL : Lay σ)  (h : ((mi σ 179 6) = 1 → ((lg_cmp (ml σ 179 7) 63030) = 0 → P 1 σ) ∧ (¬ (lg_cmp (ml σ 179 7) 63030) = 0 → ((lg_cmp (ml σ 179 7) 358040) = 0 → P 1 σ) ∧ (¬ (lg_cmp (ml σ 179 7) 358040) = 0 → ((lg_cmp (ml σ 179 7) 240373) = 0 → P 1 σ) ∧ (¬ (lg_cmp (ml σ 179 7) 240373) = 0 → ((lg_cmp (ml σ 179 7) 8903) = 0 → P 1 σ) ∧ (¬ (lg_cmp (ml σ 179 7) 8903) = 0 → (¬ (lg_cmp (ml σ 179 7) 99233) = 0 → P 0 σ) ∧ ((lg_cmp (ml σ 179 7) 99233) = 0 → P 1 σ)))))) ∧ (¬ (mi σ 179 6) = 1 → P 1 σ)) : CX12_isKept g d [.ref 179] σ P := by
  refine x_entry (L := [some (.ref 179)]) pn_12 (Nat.le_of_ble_eq_true rfl) ⟨0, rfl⟩ ?_
  show VX12_isKept g d P 0 [some (.ref 179)] [] σ
  refine x_aload_n (i := 0) (dxX12_isKept_0 0 rfl) rfl rfl ?_
  refine gf_12_208 (kd_179 hL) rfl (dxX12_isKept_0 1 rfl) ?_
  refine x_iconst (v := 1) (dxX12_isKept_0 2 rfl) rfl ?_
  refine x_icmp_eq (tgt := 10) (dxX12_isKept_0 3 rfl) (by decide) (fun hc => ?_) (fun hc => ?_)
  · replace h := h.1 hc
    refine x_aload_n (i := 0) (dxX12_isKept_0 6 rfl) rfl rfl ?_
    refine gf_12_201 (kd_179 hL) rfl (dxX12_isKept_0 7 rfl) ?_
    refine x_ldc2 (dxX12_isKept_0 8 rfl) gw_1518 ?_
    refine x_lcmp (dxX12_isKept_0 9 rfl) ?_
    refine x_if_eq (tgt := 65) (dxX12_isKept_0 10 rfl) (by decide) (fun hc => ?_) (fun hc => ?_)
    · replace h := h.1 hc
      refine x_iconst (v := 1) (dxX12_isKept_0 31 rfl) rfl ?_
      refine x_goto (tgt := 70) (dxX12_isKept_1 0 rfl) (by decide) ?_
      exact x_iret (ty := .boolean) rfl rfl (dxX12_isKept_1 2 rfl) ⟨_, rfl, h⟩
    · replace h := h.2 hc
      refine x_aload_n (i := 0) (dxX12_isKept_0 11 rfl) rfl rfl ?_
      refine gf_12_201 (kd_179 hL) rfl (dxX12_isKept_0 12 rfl) ?_
      refine x_ldc2 (dxX12_isKept_0 13 rfl) gw_1523 ?_
      refine x_lcmp (dxX12_isKept_0 14 rfl) ?_
      refine x_if_eq (tgt := 65) (dxX12_isKept_0 15 rfl) (by decide) (fun hc => ?_) (fun hc => ?_)
      · replace h := h.1 hc
        refine x_iconst (v := 1) (dxX12_isKept_0 31 rfl) rfl ?_
        refine x_goto (tgt := 70) (dxX12_isKept_1 0 rfl) (by decide) ?_
        exact x_iret (ty := .boolean) rfl rfl (dxX12_isKept_1 2 rfl) ⟨_, rfl, h⟩
      · replace h := h.2 hc
        refine x_aload_n (i := 0) (dxX12_isKept_0 16 rfl) rfl rfl ?_
        refine gf_12_201 (kd_179 hL) rfl (dxX12_isKept_0 17 rfl) ?_
        refine x_ldc2 (dxX12_isKept_0 18 rfl) gw_1524 ?_
        refine x_lcmp (dxX12_isKept_0 19 rfl) ?_
        refine x_if_eq (tgt := 65) (dxX12_isKept_0 20 rfl) (by decide) (fun hc => ?_) (fun hc => ?_)
        · replace h := h.1 hc
          refine x_iconst (v := 1) (dxX12_isKept_0 31 rfl) rfl ?_
          refine x_goto (tgt := 70) (dxX12_isKept_1 0 rfl) (by decide) ?_
          exact x_iret (ty := .boolean) rfl rfl (dxX12_isKept_1 2 rfl) ⟨_, rfl, h⟩
        · replace h := h.2 hc
          refine x_aload_n (i := 0) (dxX12_isKept_0 21 rfl) rfl rfl ?_
          refine gf_12_201 (kd_179 hL) rfl (dxX12_isKept_0 22 rfl) ?_
          refine x_ldc2 (dxX12_isKept_0 23 rfl) gw_1525 ?_
          refine x_lcmp (dxX12_isKept_0 24 rfl) ?_
          refine x_if_eq (tgt := 65) (dxX12_isKept_0 25 rfl) (by decide) (fun hc => ?_) (fun hc => ?_)
          · replace h := h.1 hc
            refine x_iconst (v := 1) (dxX12_isKept_0 31 rfl) rfl ?_
            refine x_goto (tgt := 70) (dxX12_isKept_1 0 rfl) (by decide) ?_
            exact x_iret (ty := .boolean) rfl rfl (dxX12_isKept_1 2 rfl) ⟨_, rfl, h⟩
          · replace h := h.2 hc
            refine x_aload_n (i := 0) (dxX12_isKept_0 26 rfl) rfl rfl ?_
            refine gf_12_201 (kd_179 hL) rfl (dxX12_isKept_0 27 rfl) ?_
            refine x_ldc2 (dxX12_isKept_0 28 rfl) gw_1526 ?_
            refine x_lcmp (dxX12_isKept_0 29 rfl) ?_
            refine x_if_ne (tgt := 69) (dxX12_isKept_0 30 rfl) (by decide) (fun hc => ?_) (fun hc => ?_)
            · replace h := h.1 hc
              refine x_iconst (v := 0) (dxX12_isKept_1 1 rfl) rfl ?_
              exact x_iret (ty := .boolean) rfl rfl (dxX12_isKept_1 2 rfl) ⟨_, rfl, h⟩
            · replace h := h.2 hc
              refine x_iconst (v := 1) (dxX12_isKept_0 31 rfl) rfl ?_
              refine x_goto (tgt := 70) (dxX12_isKept_1 0 rfl) (by decide) ?_
              exact x_iret (ty := .boolean) rfl rfl (dxX12_isKept_1 2 rfl) ⟨_, rfl, h⟩
  · replace h := h.2 hc
    refine x_iconst (v := 1) (dxX12_isKept_0 4 rfl) rfl ?_
    exact x_iret (ty := .boolean) rfl rfl (dxX12_isKept_0 5 rfl) ⟨_, rfl, h⟩
theorem vcX12_nameOf {g : GV} {d : Nat} {P : Int32 → PS → Prop} {σ : PS} (hL : Lay σ)  (h : VX12_nameOf g d P 2 [some (.ref 179), some (.int 0)] [] σ) : CX12_nameOf g d [.ref 179] σ P := by
  refine x_entry (L := [some (.ref 179), none]) pn_12 (Nat.le_of_ble_eq_true rfl) ⟨1, rfl⟩ ?_
  show VX12_nameOf g d P 0 [some (.ref 179), none] [] σ
  refine x_iconst (v := 0) (dxX12_nameOf_0 0 rfl) rfl ?_
  refine x_istore_n (i := 1) (dxX12_nameOf_0 1 rfl) rfl (Nat.le_of_ble_eq_true rfl) rfl rfl ?_
  exact h
theorem vcX12_nameOf_2 {g : GV} {d : Nat} {P : Int32 → PS → Prop} {σ : PS} (hL : Lay σ) (l1 : Int32) (h : ((mi σ 179 20) ≤ l1 → P (-1) σ) ∧ (¬ (mi σ 179 20) ≤ l1 → vp_in l1 8 ∧ (¬ (lg_cmp (ml σ 189 (Int32.toNatClampNeg l1)) (ml σ 179 7)) = 0 → ∀ x2 : Int32, x2 = l1 + 1 → VX12_nameOf g d P 2 [some (.ref 179), some (.int x2)] [] σ) ∧ ((lg_cmp (ml σ 189 (Int32.toNatClampNeg l1)) (ml σ 179 7)) = 0 → P l1 σ))) : VX12_nameOf g d P 2 [some (.ref 179), some (.int l1)] [] σ := by
  refine x_iload_n (i := 1) (dxX12_nameOf_0 2 rfl) rfl rfl ?_
  refine x_aload_n (i := 0) (dxX12_nameOf_0 3 rfl) rfl rfl ?_
  refine gf_12_235 (kd_179 hL) rfl (dxX12_nameOf_0 4 rfl) ?_
  refine x_icmp_ge (tgt := 32) (dxX12_nameOf_0 5 rfl) (by decide) (fun hc => ?_) (fun hc => ?_)
  · replace h := h.1 hc
    refine x_iconst (v := (-1)) (dxX12_nameOf_0 18 rfl) rfl ?_
    exact x_iret (ty := .int) rfl rfl (dxX12_nameOf_0 19 rfl) ⟨_, rfl, h⟩
  · replace h := h.2 hc
    refine x_aload_n (i := 0) (dxX12_nameOf_0 6 rfl) rfl rfl ?_
    refine gf_12_37 (kd_179 hL) (rv_179_19 hL) (dxX12_nameOf_0 7 rfl) ?_
    refine x_iload_n (i := 1) (dxX12_nameOf_0 8 rfl) rfl rfl ?_
    obtain ⟨hi1, h⟩ := h
    refine x_lald (kd_189 hL) hi1 (dxX12_nameOf_0 9 rfl) ?_
    refine x_aload_n (i := 0) (dxX12_nameOf_0 10 rfl) rfl rfl ?_
    refine gf_12_201 (kd_179 hL) rfl (dxX12_nameOf_0 11 rfl) ?_
    refine x_lcmp (dxX12_nameOf_0 12 rfl) ?_
    refine x_if_ne (tgt := 26) (dxX12_nameOf_0 13 rfl) (by decide) (fun hc => ?_) (fun hc => ?_)
    · replace h := h.1 hc
      obtain ⟨x2, e3⟩ : ∃ y : Int32, y = l1 + 1 := ⟨_, rfl⟩
      replace h := h x2 e3
      refine x_iinc (v := x2) (dxX12_nameOf_0 16 rfl) (i := 1) rfl (by rw [e3]; rfl) (Nat.le_of_ble_eq_true rfl) rfl rfl ?_
      refine x_goto (tgt := 2) (dxX12_nameOf_0 17 rfl) (by decide) ?_
      exact h
    · replace h := h.2 hc
      refine x_iload_n (i := 1) (dxX12_nameOf_0 14 rfl) rfl rfl ?_
      exact x_iret (ty := .int) rfl rfl (dxX12_nameOf_0 15 rfl) ⟨_, rfl, h⟩
theorem vcX12_opens {g : GV} {d : Nat} {P : PS → Prop} {σ : PS} (hL : Lay σ) (p0 : Int32) (h : vp_in p0 7 ∧ ∀ s2 : PS, s2 = si σ 191 (Int32.toNatClampNeg p0) 0 → vp_in p0 7 ∧ ∀ s5 : PS, s5 = si s2 193 (Int32.toNatClampNeg p0) 0 → vp_in p0 7 ∧ ∀ s8 : PS, s8 = si s5 194 (Int32.toNatClampNeg p0) 0 → vp_in p0 7 ∧ ∀ s11 : PS, s11 = si s8 195 (Int32.toNatClampNeg p0) 20 → vp_in p0 7 ∧ ∀ s14 : PS, s14 = si s11 197 (Int32.toNatClampNeg p0) 0 → P s14) : CX12_opens g d [.ref 179, .int p0] σ P := by
  refine x_entry (L := [some (.ref 179), some (.int p0)]) pn_12 (Nat.le_of_ble_eq_true rfl) ⟨0, rfl⟩ ?_
  show VX12_opens g d P 0 [some (.ref 179), some (.int p0)] [] σ
  refine x_aload_n (i := 0) (dxX12_opens_0 0 rfl) rfl rfl ?_
  refine gf_12_44 (kd_179 hL) (rv_179_23 hL) (dxX12_opens_0 1 rfl) ?_
  refine x_iload_n (i := 1) (dxX12_opens_0 2 rfl) rfl rfl ?_
  refine x_iconst (v := 0) (dxX12_opens_0 3 rfl) rfl ?_
  obtain ⟨hi1, h⟩ := h
  refine x_iast (kd_191 hL) hi1 (dxX12_opens_0 4 rfl) ?_
  refine x_sto (fun s2 e3 => ?_)
  replace h := h s2 e3
  have hKs2 : kd s2 = kd σ := by rw [e3]; exact (rfl : kd σ = kd σ)
  have hLs2 : Lay s2 := by rw [e3]; exact hL.si
  refine x_aload_n (i := 0) (dxX12_opens_0 5 rfl) rfl rfl ?_
  refine gf_12_50 (kd_179 hLs2) (rv_179_25 hLs2) (dxX12_opens_0 6 rfl) ?_
  refine x_iload_n (i := 1) (dxX12_opens_0 7 rfl) rfl rfl ?_
  refine x_iconst (v := 0) (dxX12_opens_0 8 rfl) rfl ?_
  obtain ⟨hi4, h⟩ := h
  refine x_iast (kd_193 hLs2) hi4 (dxX12_opens_0 9 rfl) ?_
  refine x_sto (fun s5 e6 => ?_)
  replace h := h s5 e6
  have hKs5 : kd s5 = kd σ := by rw [e6]; exact hKs2
  have hLs5 : Lay s5 := by rw [e6]; exact hLs2.si
  refine x_aload_n (i := 0) (dxX12_opens_0 10 rfl) rfl rfl ?_
  refine gf_12_53 (kd_179 hLs5) (rv_179_26 hLs5) (dxX12_opens_0 11 rfl) ?_
  refine x_iload_n (i := 1) (dxX12_opens_0 12 rfl) rfl rfl ?_
  refine x_iconst (v := 0) (dxX12_opens_0 13 rfl) rfl ?_
  obtain ⟨hi7, h⟩ := h
  refine x_iast (kd_194 hLs5) hi7 (dxX12_opens_0 14 rfl) ?_
  refine x_sto (fun s8 e9 => ?_)
  replace h := h s8 e9
  have hKs8 : kd s8 = kd σ := by rw [e9]; exact hKs5
  have hLs8 : Lay s8 := by rw [e9]; exact hLs5.si
  refine x_aload_n (i := 0) (dxX12_opens_0 15 rfl) rfl rfl ?_
  refine gf_12_56 (kd_179 hLs8) (rv_179_27 hLs8) (dxX12_opens_0 16 rfl) ?_
  refine x_iload_n (i := 1) (dxX12_opens_0 17 rfl) rfl rfl ?_
  refine x_bipush (v := 20) (dxX12_opens_0 18 rfl) rfl ?_
  obtain ⟨hi10, h⟩ := h
  refine x_iast (kd_195 hLs8) hi10 (dxX12_opens_0 19 rfl) ?_
  refine x_sto (fun s11 e12 => ?_)
  replace h := h s11 e12
  have hKs11 : kd s11 = kd σ := by rw [e12]; exact hKs8
  have hLs11 : Lay s11 := by rw [e12]; exact hLs8.si
  refine x_aload_n (i := 0) (dxX12_opens_0 20 rfl) rfl rfl ?_
  refine gf_12_62 (kd_179 hLs11) (rv_179_29 hLs11) (dxX12_opens_0 21 rfl) ?_
  refine x_iload_n (i := 1) (dxX12_opens_0 22 rfl) rfl rfl ?_
  refine x_iconst (v := 0) (dxX12_opens_0 23 rfl) rfl ?_
  obtain ⟨hi13, h⟩ := h
  refine x_iast (kd_197 hLs11) hi13 (dxX12_opens_0 24 rfl) ?_
  refine x_sto (fun s14 e15 => ?_)
  replace h := h s14 e15
  have hKs14 : kd s14 = kd σ := by rw [e15]; exact hKs11
  have hLs14 : Lay s14 := by rw [e15]; exact hLs11.si
  exact x_vret rfl (dxX12_opens_0 25 rfl) ⟨rfl, h⟩
theorem vcX12_sums {g : GV} {d : Nat} {P : PS → Prop} {σ : PS} (hL : Lay σ) (p0 : Int32) (h : vp_in p0 7 ∧ (¬ (mi σ 195 (Int32.toNatClampNeg p0)) = 21 → vp_in p0 7 ∧ vp_in p0 7 ∧ vp_in p0 7 ∧ ∀ s5 : PS, s5 = si σ 194 (Int32.toNatClampNeg p0) ((mi σ 194 (Int32.toNatClampNeg p0)) + (mi σ 196 (Int32.toNatClampNeg p0))) → vp_in p0 7 ∧ ∀ s8 : PS, s8 = si s5 197 (Int32.toNatClampNeg p0) 0 → P s8) ∧ ((mi σ 195 (Int32.toNatClampNeg p0)) = 21 → vp_in p0 7 ∧ vp_in p0 7 ∧ vp_in p0 7 ∧ ∀ s13 : PS, s13 = si σ 194 (Int32.toNatClampNeg p0) ((mi σ 194 (Int32.toNatClampNeg p0)) - (mi σ 196 (Int32.toNatClampNeg p0))) → vp_in p0 7 ∧ ∀ s16 : PS, s16 = si s13 197 (Int32.toNatClampNeg p0) 0 → P s16)) : CX12_sums g d [.ref 179, .int p0] σ P := by
  refine x_entry (L := [some (.ref 179), some (.int p0)]) pn_12 (Nat.le_of_ble_eq_true rfl) ⟨0, rfl⟩ ?_
  show VX12_sums g d P 0 [some (.ref 179), some (.int p0)] [] σ
  refine x_aload_n (i := 0) (dxX12_sums_0 0 rfl) rfl rfl ?_
  refine gf_12_53 (kd_179 hL) (rv_179_26 hL) (dxX12_sums_0 1 rfl) ?_
  refine x_iload_n (i := 1) (dxX12_sums_0 2 rfl) rfl rfl ?_
  refine x_aload_n (i := 0) (dxX12_sums_0 3 rfl) rfl rfl ?_
  refine gf_12_56 (kd_179 hL) (rv_179_27 hL) (dxX12_sums_0 4 rfl) ?_
  refine x_iload_n (i := 1) (dxX12_sums_0 5 rfl) rfl rfl ?_
  obtain ⟨hi1, h⟩ := h
  refine x_iald (kd_195 hL) hi1 (dxX12_sums_0 6 rfl) ?_
  refine x_bipush (v := 21) (dxX12_sums_0 7 rfl) rfl ?_
  refine x_icmp_ne (tgt := 32) (dxX12_sums_0 8 rfl) (by decide) (fun hc => ?_) (fun hc => ?_)
  · replace h := h.1 hc
    refine x_aload_n (i := 0) (dxX12_sums_0 19 rfl) rfl rfl ?_
    refine gf_12_53 (kd_179 hL) (rv_179_26 hL) (dxX12_sums_0 20 rfl) ?_
    refine x_iload_n (i := 1) (dxX12_sums_0 21 rfl) rfl rfl ?_
    obtain ⟨hi2, h⟩ := h
    refine x_iald (kd_194 hL) hi2 (dxX12_sums_0 22 rfl) ?_
    refine x_aload_n (i := 0) (dxX12_sums_0 23 rfl) rfl rfl ?_
    refine gf_12_59 (kd_179 hL) (rv_179_28 hL) (dxX12_sums_0 24 rfl) ?_
    refine x_iload_n (i := 1) (dxX12_sums_0 25 rfl) rfl rfl ?_
    obtain ⟨hi3, h⟩ := h
    refine x_iald (kd_196 hL) hi3 (dxX12_sums_0 26 rfl) ?_
    refine x_iadd (dxX12_sums_0 27 rfl) ?_
    obtain ⟨hi4, h⟩ := h
    refine x_iast (kd_194 hL) hi4 (dxX12_sums_0 28 rfl) ?_
    refine x_sto (fun s5 e6 => ?_)
    replace h := h s5 e6
    have hKs5 : kd s5 = kd σ := by rw [e6]; exact (rfl : kd σ = kd σ)
    have hLs5 : Lay s5 := by rw [e6]; exact hL.si
    refine x_aload_n (i := 0) (dxX12_sums_0 29 rfl) rfl rfl ?_
    refine gf_12_62 (kd_179 hLs5) (rv_179_29 hLs5) (dxX12_sums_0 30 rfl) ?_
    refine x_iload_n (i := 1) (dxX12_sums_0 31 rfl) rfl rfl ?_
    refine x_iconst (v := 0) (dxX12_sums_1 0 rfl) rfl ?_
    obtain ⟨hi7, h⟩ := h
    refine x_iast (kd_197 hLs5) hi7 (dxX12_sums_1 1 rfl) ?_
    refine x_sto (fun s8 e9 => ?_)
    replace h := h s8 e9
    have hKs8 : kd s8 = kd σ := by rw [e9]; exact hKs5
    have hLs8 : Lay s8 := by rw [e9]; exact hLs5.si
    exact x_vret rfl (dxX12_sums_1 2 rfl) ⟨rfl, h⟩
  · replace h := h.2 hc
    refine x_aload_n (i := 0) (dxX12_sums_0 9 rfl) rfl rfl ?_
    refine gf_12_53 (kd_179 hL) (rv_179_26 hL) (dxX12_sums_0 10 rfl) ?_
    refine x_iload_n (i := 1) (dxX12_sums_0 11 rfl) rfl rfl ?_
    obtain ⟨hi10, h⟩ := h
    refine x_iald (kd_194 hL) hi10 (dxX12_sums_0 12 rfl) ?_
    refine x_aload_n (i := 0) (dxX12_sums_0 13 rfl) rfl rfl ?_
    refine gf_12_59 (kd_179 hL) (rv_179_28 hL) (dxX12_sums_0 14 rfl) ?_
    refine x_iload_n (i := 1) (dxX12_sums_0 15 rfl) rfl rfl ?_
    obtain ⟨hi11, h⟩ := h
    refine x_iald (kd_196 hL) hi11 (dxX12_sums_0 16 rfl) ?_
    refine x_isub (dxX12_sums_0 17 rfl) ?_
    refine x_goto (tgt := 45) (dxX12_sums_0 18 rfl) (by decide) ?_
    obtain ⟨hi12, h⟩ := h
    refine x_iast (kd_194 hL) hi12 (dxX12_sums_0 28 rfl) ?_
    refine x_sto (fun s13 e14 => ?_)
    replace h := h s13 e14
    have hKs13 : kd s13 = kd σ := by rw [e14]; exact (rfl : kd σ = kd σ)
    have hLs13 : Lay s13 := by rw [e14]; exact hL.si
    refine x_aload_n (i := 0) (dxX12_sums_0 29 rfl) rfl rfl ?_
    refine gf_12_62 (kd_179 hLs13) (rv_179_29 hLs13) (dxX12_sums_0 30 rfl) ?_
    refine x_iload_n (i := 1) (dxX12_sums_0 31 rfl) rfl rfl ?_
    refine x_iconst (v := 0) (dxX12_sums_1 0 rfl) rfl ?_
    obtain ⟨hi15, h⟩ := h
    refine x_iast (kd_197 hLs13) hi15 (dxX12_sums_1 1 rfl) ?_
    refine x_sto (fun s16 e17 => ?_)
    replace h := h s16 e17
    have hKs16 : kd s16 = kd σ := by rw [e17]; exact hKs13
    have hLs16 : Lay s16 := by rw [e17]; exact hLs13.si
    exact x_vret rfl (dxX12_sums_1 2 rfl) ⟨rfl, h⟩
theorem vcX12_tests {g : GV} {d : Nat} {P : PS → Prop} {σ : PS} (hL : Lay σ) (p0 : Int32) (h : CX12_sums g d [.ref 179, .int p0] σ (fun (s1 : PS) => Fr σ s1 ∧ vp_in p0 7 ∧ ∀ x4 : Int32, x4 = mi s1 194 (Int32.toNatClampNeg p0) → vp_in p0 7 ∧ (¬ (mi s1 193 (Int32.toNatClampNeg p0)) = 24 → VX12_tests g (d + 1) P 44 [some (.ref 179), some (.int p0), some (.int x4)] [] s1) ∧ ((mi s1 193 (Int32.toNatClampNeg p0)) = 24 → vp_in p0 7 ∧ vp_in p0 7 ∧ ((mi s1 194 (Int32.toNatClampNeg p0)) ≤ (mi s1 192 (Int32.toNatClampNeg p0)) → VX12_tests g (d + 1) P 44 [some (.ref 179), some (.int p0), some (.int 0)] [] s1) ∧ (¬ (mi s1 194 (Int32.toNatClampNeg p0)) ≤ (mi s1 192 (Int32.toNatClampNeg p0)) → VX12_tests g (d + 1) P 44 [some (.ref 179), some (.int p0), some (.int 1)] [] s1)))) : CX12_tests g (d + 1) [.ref 179, .int p0] σ P := by
  refine x_entry (L := [some (.ref 179), some (.int p0), none]) pn_12 (Nat.le_of_ble_eq_true rfl) ⟨1, rfl⟩ ?_
  show VX12_tests g (d + 1) P 0 [some (.ref 179), some (.int p0), none] [] σ
  refine x_aload_n (i := 0) (dxX12_tests_0 0 rfl) rfl rfl ?_
  refine x_iload_n (i := 1) (dxX12_tests_0 1 rfl) rfl rfl ?_
  refine cl_12_238 (kd_179 hL) (Nat.le_of_ble_eq_true rfl) (dxX12_tests_0 2 rfl) h (fun s1 h => ?_) (Nat.le_refl _) (Nat.le_refl _)
  obtain ⟨hFs1, h⟩ := h
  have hKs1 : kd s1 = kd σ := hFs1.1.trans (rfl : kd σ = kd σ)
  have hLs1 : Lay s1 := hL.fr hFs1
  refine x_aload_n (i := 0) (dxX12_tests_0 3 rfl) rfl rfl ?_
  refine gf_12_53 (kd_179 hLs1) (rv_179_26 hLs1) (dxX12_tests_0 4 rfl) ?_
  refine x_iload_n (i := 1) (dxX12_tests_0 5 rfl) rfl rfl ?_
  obtain ⟨hi3, h⟩ := h
  refine x_iald (kd_194 hLs1) hi3 (dxX12_tests_0 6 rfl) ?_
  refine x_topi (fun x4 e5 => ?_)
  replace h := h x4 e5
  refine x_istore_n (i := 2) (dxX12_tests_0 7 rfl) rfl (Nat.le_of_ble_eq_true rfl) rfl rfl ?_
  refine x_aload_n (i := 0) (dxX12_tests_0 8 rfl) rfl rfl ?_
  refine gf_12_50 (kd_179 hLs1) (rv_179_25 hLs1) (dxX12_tests_0 9 rfl) ?_
  refine x_iload_n (i := 1) (dxX12_tests_0 10 rfl) rfl rfl ?_
  obtain ⟨hi6, h⟩ := h
  refine x_iald (kd_193 hLs1) hi6 (dxX12_tests_0 11 rfl) ?_
  refine x_bipush (v := 24) (dxX12_tests_0 12 rfl) rfl ?_
  refine x_icmp_ne (tgt := 44) (dxX12_tests_0 13 rfl) (by decide) (fun hc => ?_) (fun hc => ?_)
  · replace h := h.1 hc
    exact h
  · replace h := h.2 hc
    refine x_aload_n (i := 0) (dxX12_tests_0 14 rfl) rfl rfl ?_
    refine gf_12_47 (kd_179 hLs1) (rv_179_24 hLs1) (dxX12_tests_0 15 rfl) ?_
    refine x_iload_n (i := 1) (dxX12_tests_0 16 rfl) rfl rfl ?_
    obtain ⟨hi7, h⟩ := h
    refine x_iald (kd_192 hLs1) hi7 (dxX12_tests_0 17 rfl) ?_
    refine x_aload_n (i := 0) (dxX12_tests_0 18 rfl) rfl rfl ?_
    refine gf_12_53 (kd_179 hLs1) (rv_179_26 hLs1) (dxX12_tests_0 19 rfl) ?_
    refine x_iload_n (i := 1) (dxX12_tests_0 20 rfl) rfl rfl ?_
    obtain ⟨hi8, h⟩ := h
    refine x_iald (kd_194 hLs1) hi8 (dxX12_tests_0 21 rfl) ?_
    refine x_icmp_ge (tgt := 42) (dxX12_tests_0 22 rfl) (by decide) (fun hc => ?_) (fun hc => ?_)
    · replace h := h.1 hc
      refine x_iconst (v := 0) (dxX12_tests_0 25 rfl) rfl ?_
      refine x_istore_n (i := 2) (dxX12_tests_0 26 rfl) rfl (Nat.le_of_ble_eq_true rfl) rfl rfl ?_
      exact h
    · replace h := h.2 hc
      refine x_iconst (v := 1) (dxX12_tests_0 23 rfl) rfl ?_
      refine x_goto (tgt := 43) (dxX12_tests_0 24 rfl) (by decide) ?_
      refine x_istore_n (i := 2) (dxX12_tests_0 26 rfl) rfl (Nat.le_of_ble_eq_true rfl) rfl rfl ?_
      exact h
theorem vcX12_tests_44 {g : GV} {d : Nat} {P : PS → Prop} {σ : PS} (hL : Lay σ) (l1 : Int32) (l2 : Int32) (h : vp_in l1 7 ∧ (¬ (mi σ 193 (Int32.toNatClampNeg l1)) = 25 → vp_in l1 7 ∧ (¬ (mi σ 191 (Int32.toNatClampNeg l1)) = 26 → VX12_tests g (d + 1) P 106 [some (.ref 179), some (.int l1), some (.int l2)] [] σ) ∧ ((mi σ 191 (Int32.toNatClampNeg l1)) = 26 → vp_in l1 7 ∧ ((mi σ 190 (Int32.toNatClampNeg l1)) = 0 → VX12_tests g (d + 1) P 106 [some (.ref 179), some (.int l1), some (.int 0)] [] σ) ∧ (¬ (mi σ 190 (Int32.toNatClampNeg l1)) = 0 → (l2 = 0 → VX12_tests g (d + 1) P 106 [some (.ref 179), some (.int l1), some (.int 0)] [] σ) ∧ (¬ l2 = 0 → VX12_tests g (d + 1) P 106 [some (.ref 179), some (.int l1), some (.int 1)] [] σ)))) ∧ ((mi σ 193 (Int32.toNatClampNeg l1)) = 25 → vp_in l1 7 ∧ vp_in l1 7 ∧ (¬ (mi σ 192 (Int32.toNatClampNeg l1)) = (mi σ 194 (Int32.toNatClampNeg l1)) → vp_in l1 7 ∧ (¬ (mi σ 191 (Int32.toNatClampNeg l1)) = 26 → VX12_tests g (d + 1) P 106 [some (.ref 179), some (.int l1), some (.int 0)] [] σ) ∧ ((mi σ 191 (Int32.toNatClampNeg l1)) = 26 → vp_in l1 7 ∧ ((mi σ 190 (Int32.toNatClampNeg l1)) = 0 → VX12_tests g (d + 1) P 106 [some (.ref 179), some (.int l1), some (.int 0)] [] σ) ∧ (¬ (mi σ 190 (Int32.toNatClampNeg l1)) = 0 → VX12_tests g (d + 1) P 106 [some (.ref 179), some (.int l1), some (.int 0)] [] σ))) ∧ ((mi σ 192 (Int32.toNatClampNeg l1)) = (mi σ 194 (Int32.toNatClampNeg l1)) → vp_in l1 7 ∧ (¬ (mi σ 191 (Int32.toNatClampNeg l1)) = 26 → VX12_tests g (d + 1) P 106 [some (.ref 179), some (.int l1), some (.int 1)] [] σ) ∧ ((mi σ 191 (Int32.toNatClampNeg l1)) = 26 → vp_in l1 7 ∧ ((mi σ 190 (Int32.toNatClampNeg l1)) = 0 → VX12_tests g (d + 1) P 106 [some (.ref 179), some (.int l1), some (.int 0)] [] σ) ∧ (¬ (mi σ 190 (Int32.toNatClampNeg l1)) = 0 → VX12_tests g (d + 1) P 106 [some (.ref 179), some (.int l1), some (.int 1)] [] σ))))) : VX12_tests g (d + 1) P 44 [some (.ref 179), some (.int l1), some (.int l2)] [] σ := by
  refine x_aload_n (i := 0) (dxX12_tests_0 27 rfl) rfl rfl ?_
  refine gf_12_50 (kd_179 hL) (rv_179_25 hL) (dxX12_tests_0 28 rfl) ?_
  refine x_iload_n (i := 1) (dxX12_tests_0 29 rfl) rfl rfl ?_
  obtain ⟨hi9, h⟩ := h
  refine x_iald (kd_193 hL) hi9 (dxX12_tests_0 30 rfl) ?_
  refine x_bipush (v := 25) (dxX12_tests_0 31 rfl) rfl ?_
  refine x_icmp_ne (tgt := 76) (dxX12_tests_1 0 rfl) (by decide) (fun hc => ?_) (fun hc => ?_)
  · replace h := h.1 hc
    refine x_aload_n (i := 0) (dxX12_tests_1 14 rfl) rfl rfl ?_
    refine gf_12_44 (kd_179 hL) (rv_179_23 hL) (dxX12_tests_1 15 rfl) ?_
    refine x_iload_n (i := 1) (dxX12_tests_1 16 rfl) rfl rfl ?_
    obtain ⟨hi10, h⟩ := h
    refine x_iald (kd_191 hL) hi10 (dxX12_tests_1 17 rfl) ?_
    refine x_bipush (v := 26) (dxX12_tests_1 18 rfl) rfl ?_
    refine x_icmp_ne (tgt := 106) (dxX12_tests_1 19 rfl) (by decide) (fun hc => ?_) (fun hc => ?_)
    · replace h := h.1 hc
      exact h
    · replace h := h.2 hc
      refine x_aload_n (i := 0) (dxX12_tests_1 20 rfl) rfl rfl ?_
      refine gf_12_41 (kd_179 hL) (rv_179_22 hL) (dxX12_tests_1 21 rfl) ?_
      refine x_iload_n (i := 1) (dxX12_tests_1 22 rfl) rfl rfl ?_
      obtain ⟨hi11, h⟩ := h
      refine x_iald (kd_190 hL) hi11 (dxX12_tests_1 23 rfl) ?_
      refine x_if_eq (tgt := 104) (dxX12_tests_1 24 rfl) (by decide) (fun hc => ?_) (fun hc => ?_)
      · replace h := h.1 hc
        refine x_iconst (v := 0) (dxX12_tests_1 29 rfl) rfl ?_
        refine x_istore_n (i := 2) (dxX12_tests_1 30 rfl) rfl (Nat.le_of_ble_eq_true rfl) rfl rfl ?_
        exact h
      · replace h := h.2 hc
        refine x_iload_n (i := 2) (dxX12_tests_1 25 rfl) rfl rfl ?_
        refine x_if_eq (tgt := 104) (dxX12_tests_1 26 rfl) (by decide) (fun hc => ?_) (fun hc => ?_)
        · replace h := h.1 hc
          refine x_iconst (v := 0) (dxX12_tests_1 29 rfl) rfl ?_
          refine x_istore_n (i := 2) (dxX12_tests_1 30 rfl) rfl (Nat.le_of_ble_eq_true rfl) rfl rfl ?_
          exact h
        · replace h := h.2 hc
          refine x_iconst (v := 1) (dxX12_tests_1 27 rfl) rfl ?_
          refine x_goto (tgt := 105) (dxX12_tests_1 28 rfl) (by decide) ?_
          refine x_istore_n (i := 2) (dxX12_tests_1 30 rfl) rfl (Nat.le_of_ble_eq_true rfl) rfl rfl ?_
          exact h
  · replace h := h.2 hc
    refine x_aload_n (i := 0) (dxX12_tests_1 1 rfl) rfl rfl ?_
    refine gf_12_47 (kd_179 hL) (rv_179_24 hL) (dxX12_tests_1 2 rfl) ?_
    refine x_iload_n (i := 1) (dxX12_tests_1 3 rfl) rfl rfl ?_
    obtain ⟨hi12, h⟩ := h
    refine x_iald (kd_192 hL) hi12 (dxX12_tests_1 4 rfl) ?_
    refine x_aload_n (i := 0) (dxX12_tests_1 5 rfl) rfl rfl ?_
    refine gf_12_53 (kd_179 hL) (rv_179_26 hL) (dxX12_tests_1 6 rfl) ?_
    refine x_iload_n (i := 1) (dxX12_tests_1 7 rfl) rfl rfl ?_
    obtain ⟨hi13, h⟩ := h
    refine x_iald (kd_194 hL) hi13 (dxX12_tests_1 8 rfl) ?_
    refine x_icmp_ne (tgt := 74) (dxX12_tests_1 9 rfl) (by decide) (fun hc => ?_) (fun hc => ?_)
    · replace h := h.1 hc
      refine x_iconst (v := 0) (dxX12_tests_1 12 rfl) rfl ?_
      refine x_istore_n (i := 2) (dxX12_tests_1 13 rfl) rfl (Nat.le_of_ble_eq_true rfl) rfl rfl ?_
      refine x_aload_n (i := 0) (dxX12_tests_1 14 rfl) rfl rfl ?_
      refine gf_12_44 (kd_179 hL) (rv_179_23 hL) (dxX12_tests_1 15 rfl) ?_
      refine x_iload_n (i := 1) (dxX12_tests_1 16 rfl) rfl rfl ?_
      obtain ⟨hi14, h⟩ := h
      refine x_iald (kd_191 hL) hi14 (dxX12_tests_1 17 rfl) ?_
      refine x_bipush (v := 26) (dxX12_tests_1 18 rfl) rfl ?_
      refine x_icmp_ne (tgt := 106) (dxX12_tests_1 19 rfl) (by decide) (fun hc => ?_) (fun hc => ?_)
      · replace h := h.1 hc
        exact h
      · replace h := h.2 hc
        refine x_aload_n (i := 0) (dxX12_tests_1 20 rfl) rfl rfl ?_
        refine gf_12_41 (kd_179 hL) (rv_179_22 hL) (dxX12_tests_1 21 rfl) ?_
        refine x_iload_n (i := 1) (dxX12_tests_1 22 rfl) rfl rfl ?_
        obtain ⟨hi15, h⟩ := h
        refine x_iald (kd_190 hL) hi15 (dxX12_tests_1 23 rfl) ?_
        refine x_if_eq (tgt := 104) (dxX12_tests_1 24 rfl) (by decide) (fun hc => ?_) (fun hc => ?_)
        · replace h := h.1 hc
          refine x_iconst (v := 0) (dxX12_tests_1 29 rfl) rfl ?_
          refine x_istore_n (i := 2) (dxX12_tests_1 30 rfl) rfl (Nat.le_of_ble_eq_true rfl) rfl rfl ?_
          exact h
        · replace h := h.2 hc
          refine x_iload_n (i := 2) (dxX12_tests_1 25 rfl) rfl rfl ?_
          refine x_if_eq (tgt := 104) (dxX12_tests_1 26 rfl) (by decide) (fun hc => ?_) (fun hc => ?_)
          · clear hc
            refine x_iconst (v := 0) (dxX12_tests_1 29 rfl) rfl ?_
            refine x_istore_n (i := 2) (dxX12_tests_1 30 rfl) rfl (Nat.le_of_ble_eq_true rfl) rfl rfl ?_
            exact h
          · exact absurd hc (by decide)
    · replace h := h.2 hc
      refine x_iconst (v := 1) (dxX12_tests_1 10 rfl) rfl ?_
      refine x_goto (tgt := 75) (dxX12_tests_1 11 rfl) (by decide) ?_
      refine x_istore_n (i := 2) (dxX12_tests_1 13 rfl) rfl (Nat.le_of_ble_eq_true rfl) rfl rfl ?_
      refine x_aload_n (i := 0) (dxX12_tests_1 14 rfl) rfl rfl ?_
      refine gf_12_44 (kd_179 hL) (rv_179_23 hL) (dxX12_tests_1 15 rfl) ?_
      refine x_iload_n (i := 1) (dxX12_tests_1 16 rfl) rfl rfl ?_
      obtain ⟨hi16, h⟩ := h
      refine x_iald (kd_191 hL) hi16 (dxX12_tests_1 17 rfl) ?_
      refine x_bipush (v := 26) (dxX12_tests_1 18 rfl) rfl ?_
      refine x_icmp_ne (tgt := 106) (dxX12_tests_1 19 rfl) (by decide) (fun hc => ?_) (fun hc => ?_)
      · replace h := h.1 hc
        exact h
      · replace h := h.2 hc
        refine x_aload_n (i := 0) (dxX12_tests_1 20 rfl) rfl rfl ?_
        refine gf_12_41 (kd_179 hL) (rv_179_22 hL) (dxX12_tests_1 21 rfl) ?_
        refine x_iload_n (i := 1) (dxX12_tests_1 22 rfl) rfl rfl ?_
        obtain ⟨hi17, h⟩ := h
        refine x_iald (kd_190 hL) hi17 (dxX12_tests_1 23 rfl) ?_
        refine x_if_eq (tgt := 104) (dxX12_tests_1 24 rfl) (by decide) (fun hc => ?_) (fun hc => ?_)
        · replace h := h.1 hc
          refine x_iconst (v := 0) (dxX12_tests_1 29 rfl) rfl ?_
          refine x_istore_n (i := 2) (dxX12_tests_1 30 rfl) rfl (Nat.le_of_ble_eq_true rfl) rfl rfl ?_
          exact h
        · replace h := h.2 hc
          refine x_iload_n (i := 2) (dxX12_tests_1 25 rfl) rfl rfl ?_
          refine x_if_eq (tgt := 104) (dxX12_tests_1 26 rfl) (by decide) (fun hc => ?_) (fun hc => ?_)
          · exact absurd hc (by decide)
          · clear hc
            refine x_iconst (v := 1) (dxX12_tests_1 27 rfl) rfl ?_
            refine x_goto (tgt := 105) (dxX12_tests_1 28 rfl) (by decide) ?_
            refine x_istore_n (i := 2) (dxX12_tests_1 30 rfl) rfl (Nat.le_of_ble_eq_true rfl) rfl rfl ?_
            exact h
theorem vcX12_tests_106 {g : GV} {d : Nat} {P : PS → Prop} {σ : PS} (hL : Lay σ) (l1 : Int32) (l2 : Int32) (h : vp_in l1 7 ∧ (¬ (mi σ 191 (Int32.toNatClampNeg l1)) = 27 → vp_in l1 7 ∧ ∀ s20 : PS, s20 = si σ 190 (Int32.toNatClampNeg l1) l2 → vp_in l1 7 ∧ ∀ s23 : PS, s23 = si s20 193 (Int32.toNatClampNeg l1) 0 → vp_in l1 7 ∧ ∀ s26 : PS, s26 = si s23 194 (Int32.toNatClampNeg l1) 0 → vp_in l1 7 ∧ ∀ s29 : PS, s29 = si s26 195 (Int32.toNatClampNeg l1) 20 → P s29) ∧ ((mi σ 191 (Int32.toNatClampNeg l1)) = 27 → vp_in l1 7 ∧ (¬ (mi σ 190 (Int32.toNatClampNeg l1)) = 0 → vp_in l1 7 ∧ ∀ s33 : PS, s33 = si σ 190 (Int32.toNatClampNeg l1) 1 → vp_in l1 7 ∧ ∀ s36 : PS, s36 = si s33 193 (Int32.toNatClampNeg l1) 0 → vp_in l1 7 ∧ ∀ s39 : PS, s39 = si s36 194 (Int32.toNatClampNeg l1) 0 → vp_in l1 7 ∧ ∀ s42 : PS, s42 = si s39 195 (Int32.toNatClampNeg l1) 20 → P s42) ∧ ((mi σ 190 (Int32.toNatClampNeg l1)) = 0 → (l2 = 0 → vp_in l1 7 ∧ ∀ s45 : PS, s45 = si σ 190 (Int32.toNatClampNeg l1) 0 → vp_in l1 7 ∧ ∀ s48 : PS, s48 = si s45 193 (Int32.toNatClampNeg l1) 0 → vp_in l1 7 ∧ ∀ s51 : PS, s51 = si s48 194 (Int32.toNatClampNeg l1) 0 → vp_in l1 7 ∧ ∀ s54 : PS, s54 = si s51 195 (Int32.toNatClampNeg l1) 20 → P s54) ∧ (¬ l2 = 0 → vp_in l1 7 ∧ ∀ s57 : PS, s57 = si σ 190 (Int32.toNatClampNeg l1) 1 → vp_in l1 7 ∧ ∀ s60 : PS, s60 = si s57 193 (Int32.toNatClampNeg l1) 0 → vp_in l1 7 ∧ ∀ s63 : PS, s63 = si s60 194 (Int32.toNatClampNeg l1) 0 → vp_in l1 7 ∧ ∀ s66 : PS, s66 = si s63 195 (Int32.toNatClampNeg l1) 20 → P s66)))) : VX12_tests g (d + 1) P 106 [some (.ref 179), some (.int l1), some (.int l2)] [] σ := by
  refine x_aload_n (i := 0) (dxX12_tests_1 31 rfl) rfl rfl ?_
  refine gf_12_44 (kd_179 hL) (rv_179_23 hL) (dxX12_tests_2 0 rfl) ?_
  refine x_iload_n (i := 1) (dxX12_tests_2 1 rfl) rfl rfl ?_
  obtain ⟨hi18, h⟩ := h
  refine x_iald (kd_191 hL) hi18 (dxX12_tests_2 2 rfl) ?_
  refine x_bipush (v := 27) (dxX12_tests_2 3 rfl) rfl ?_
  refine x_icmp_ne (tgt := 136) (dxX12_tests_2 4 rfl) (by decide) (fun hc => ?_) (fun hc => ?_)
  · replace h := h.1 hc
    refine x_aload_n (i := 0) (dxX12_tests_2 16 rfl) rfl rfl ?_
    refine gf_12_41 (kd_179 hL) (rv_179_22 hL) (dxX12_tests_2 17 rfl) ?_
    refine x_iload_n (i := 1) (dxX12_tests_2 18 rfl) rfl rfl ?_
    refine x_iload_n (i := 2) (dxX12_tests_2 19 rfl) rfl rfl ?_
    obtain ⟨hi19, h⟩ := h
    refine x_iast (kd_190 hL) hi19 (dxX12_tests_2 20 rfl) ?_
    refine x_sto (fun s20 e21 => ?_)
    replace h := h s20 e21
    have hKs20 : kd s20 = kd σ := by rw [e21]; exact (rfl : kd σ = kd σ)
    have hLs20 : Lay s20 := by rw [e21]; exact hL.si
    refine x_aload_n (i := 0) (dxX12_tests_2 21 rfl) rfl rfl ?_
    refine gf_12_50 (kd_179 hLs20) (rv_179_25 hLs20) (dxX12_tests_2 22 rfl) ?_
    refine x_iload_n (i := 1) (dxX12_tests_2 23 rfl) rfl rfl ?_
    refine x_iconst (v := 0) (dxX12_tests_2 24 rfl) rfl ?_
    obtain ⟨hi22, h⟩ := h
    refine x_iast (kd_193 hLs20) hi22 (dxX12_tests_2 25 rfl) ?_
    refine x_sto (fun s23 e24 => ?_)
    replace h := h s23 e24
    have hKs23 : kd s23 = kd σ := by rw [e24]; exact hKs20
    have hLs23 : Lay s23 := by rw [e24]; exact hLs20.si
    refine x_aload_n (i := 0) (dxX12_tests_2 26 rfl) rfl rfl ?_
    refine gf_12_53 (kd_179 hLs23) (rv_179_26 hLs23) (dxX12_tests_2 27 rfl) ?_
    refine x_iload_n (i := 1) (dxX12_tests_2 28 rfl) rfl rfl ?_
    refine x_iconst (v := 0) (dxX12_tests_2 29 rfl) rfl ?_
    obtain ⟨hi25, h⟩ := h
    refine x_iast (kd_194 hLs23) hi25 (dxX12_tests_2 30 rfl) ?_
    refine x_sto (fun s26 e27 => ?_)
    replace h := h s26 e27
    have hKs26 : kd s26 = kd σ := by rw [e27]; exact hKs23
    have hLs26 : Lay s26 := by rw [e27]; exact hLs23.si
    refine x_aload_n (i := 0) (dxX12_tests_2 31 rfl) rfl rfl ?_
    refine gf_12_56 (kd_179 hLs26) (rv_179_27 hLs26) (dxX12_tests_3 0 rfl) ?_
    refine x_iload_n (i := 1) (dxX12_tests_3 1 rfl) rfl rfl ?_
    refine x_bipush (v := 20) (dxX12_tests_3 2 rfl) rfl ?_
    obtain ⟨hi28, h⟩ := h
    refine x_iast (kd_195 hLs26) hi28 (dxX12_tests_3 3 rfl) ?_
    refine x_sto (fun s29 e30 => ?_)
    replace h := h s29 e30
    have hKs29 : kd s29 = kd σ := by rw [e30]; exact hKs26
    have hLs29 : Lay s29 := by rw [e30]; exact hLs26.si
    exact x_vret rfl (dxX12_tests_3 4 rfl) ⟨rfl, h⟩
  · replace h := h.2 hc
    refine x_aload_n (i := 0) (dxX12_tests_2 5 rfl) rfl rfl ?_
    refine gf_12_41 (kd_179 hL) (rv_179_22 hL) (dxX12_tests_2 6 rfl) ?_
    refine x_iload_n (i := 1) (dxX12_tests_2 7 rfl) rfl rfl ?_
    obtain ⟨hi31, h⟩ := h
    refine x_iald (kd_190 hL) hi31 (dxX12_tests_2 8 rfl) ?_
    refine x_if_ne (tgt := 130) (dxX12_tests_2 9 rfl) (by decide) (fun hc => ?_) (fun hc => ?_)
    · replace h := h.1 hc
      refine x_iconst (v := 1) (dxX12_tests_2 12 rfl) rfl ?_
      refine x_goto (tgt := 135) (dxX12_tests_2 13 rfl) (by decide) ?_
      refine x_istore_n (i := 2) (dxX12_tests_2 15 rfl) rfl (Nat.le_of_ble_eq_true rfl) rfl rfl ?_
      refine x_aload_n (i := 0) (dxX12_tests_2 16 rfl) rfl rfl ?_
      refine gf_12_41 (kd_179 hL) (rv_179_22 hL) (dxX12_tests_2 17 rfl) ?_
      refine x_iload_n (i := 1) (dxX12_tests_2 18 rfl) rfl rfl ?_
      refine x_iload_n (i := 2) (dxX12_tests_2 19 rfl) rfl rfl ?_
      obtain ⟨hi32, h⟩ := h
      refine x_iast (kd_190 hL) hi32 (dxX12_tests_2 20 rfl) ?_
      refine x_sto (fun s33 e34 => ?_)
      replace h := h s33 e34
      have hKs33 : kd s33 = kd σ := by rw [e34]; exact (rfl : kd σ = kd σ)
      have hLs33 : Lay s33 := by rw [e34]; exact hL.si
      refine x_aload_n (i := 0) (dxX12_tests_2 21 rfl) rfl rfl ?_
      refine gf_12_50 (kd_179 hLs33) (rv_179_25 hLs33) (dxX12_tests_2 22 rfl) ?_
      refine x_iload_n (i := 1) (dxX12_tests_2 23 rfl) rfl rfl ?_
      refine x_iconst (v := 0) (dxX12_tests_2 24 rfl) rfl ?_
      obtain ⟨hi35, h⟩ := h
      refine x_iast (kd_193 hLs33) hi35 (dxX12_tests_2 25 rfl) ?_
      refine x_sto (fun s36 e37 => ?_)
      replace h := h s36 e37
      have hKs36 : kd s36 = kd σ := by rw [e37]; exact hKs33
      have hLs36 : Lay s36 := by rw [e37]; exact hLs33.si
      refine x_aload_n (i := 0) (dxX12_tests_2 26 rfl) rfl rfl ?_
      refine gf_12_53 (kd_179 hLs36) (rv_179_26 hLs36) (dxX12_tests_2 27 rfl) ?_
      refine x_iload_n (i := 1) (dxX12_tests_2 28 rfl) rfl rfl ?_
      refine x_iconst (v := 0) (dxX12_tests_2 29 rfl) rfl ?_
      obtain ⟨hi38, h⟩ := h
      refine x_iast (kd_194 hLs36) hi38 (dxX12_tests_2 30 rfl) ?_
      refine x_sto (fun s39 e40 => ?_)
      replace h := h s39 e40
      have hKs39 : kd s39 = kd σ := by rw [e40]; exact hKs36
      have hLs39 : Lay s39 := by rw [e40]; exact hLs36.si
      refine x_aload_n (i := 0) (dxX12_tests_2 31 rfl) rfl rfl ?_
      refine gf_12_56 (kd_179 hLs39) (rv_179_27 hLs39) (dxX12_tests_3 0 rfl) ?_
      refine x_iload_n (i := 1) (dxX12_tests_3 1 rfl) rfl rfl ?_
      refine x_bipush (v := 20) (dxX12_tests_3 2 rfl) rfl ?_
      obtain ⟨hi41, h⟩ := h
      refine x_iast (kd_195 hLs39) hi41 (dxX12_tests_3 3 rfl) ?_
      refine x_sto (fun s42 e43 => ?_)
      replace h := h s42 e43
      have hKs42 : kd s42 = kd σ := by rw [e43]; exact hKs39
      have hLs42 : Lay s42 := by rw [e43]; exact hLs39.si
      exact x_vret rfl (dxX12_tests_3 4 rfl) ⟨rfl, h⟩
    · replace h := h.2 hc
      refine x_iload_n (i := 2) (dxX12_tests_2 10 rfl) rfl rfl ?_
      refine x_if_eq (tgt := 134) (dxX12_tests_2 11 rfl) (by decide) (fun hc => ?_) (fun hc => ?_)
      · replace h := h.1 hc
        refine x_iconst (v := 0) (dxX12_tests_2 14 rfl) rfl ?_
        refine x_istore_n (i := 2) (dxX12_tests_2 15 rfl) rfl (Nat.le_of_ble_eq_true rfl) rfl rfl ?_
        refine x_aload_n (i := 0) (dxX12_tests_2 16 rfl) rfl rfl ?_
        refine gf_12_41 (kd_179 hL) (rv_179_22 hL) (dxX12_tests_2 17 rfl) ?_
        refine x_iload_n (i := 1) (dxX12_tests_2 18 rfl) rfl rfl ?_
        refine x_iload_n (i := 2) (dxX12_tests_2 19 rfl) rfl rfl ?_
        obtain ⟨hi44, h⟩ := h
        refine x_iast (kd_190 hL) hi44 (dxX12_tests_2 20 rfl) ?_
        refine x_sto (fun s45 e46 => ?_)
        replace h := h s45 e46
        have hKs45 : kd s45 = kd σ := by rw [e46]; exact (rfl : kd σ = kd σ)
        have hLs45 : Lay s45 := by rw [e46]; exact hL.si
        refine x_aload_n (i := 0) (dxX12_tests_2 21 rfl) rfl rfl ?_
        refine gf_12_50 (kd_179 hLs45) (rv_179_25 hLs45) (dxX12_tests_2 22 rfl) ?_
        refine x_iload_n (i := 1) (dxX12_tests_2 23 rfl) rfl rfl ?_
        refine x_iconst (v := 0) (dxX12_tests_2 24 rfl) rfl ?_
        obtain ⟨hi47, h⟩ := h
        refine x_iast (kd_193 hLs45) hi47 (dxX12_tests_2 25 rfl) ?_
        refine x_sto (fun s48 e49 => ?_)
        replace h := h s48 e49
        have hKs48 : kd s48 = kd σ := by rw [e49]; exact hKs45
        have hLs48 : Lay s48 := by rw [e49]; exact hLs45.si
        refine x_aload_n (i := 0) (dxX12_tests_2 26 rfl) rfl rfl ?_
        refine gf_12_53 (kd_179 hLs48) (rv_179_26 hLs48) (dxX12_tests_2 27 rfl) ?_
        refine x_iload_n (i := 1) (dxX12_tests_2 28 rfl) rfl rfl ?_
        refine x_iconst (v := 0) (dxX12_tests_2 29 rfl) rfl ?_
        obtain ⟨hi50, h⟩ := h
        refine x_iast (kd_194 hLs48) hi50 (dxX12_tests_2 30 rfl) ?_
        refine x_sto (fun s51 e52 => ?_)
        replace h := h s51 e52
        have hKs51 : kd s51 = kd σ := by rw [e52]; exact hKs48
        have hLs51 : Lay s51 := by rw [e52]; exact hLs48.si
        refine x_aload_n (i := 0) (dxX12_tests_2 31 rfl) rfl rfl ?_
        refine gf_12_56 (kd_179 hLs51) (rv_179_27 hLs51) (dxX12_tests_3 0 rfl) ?_
        refine x_iload_n (i := 1) (dxX12_tests_3 1 rfl) rfl rfl ?_
        refine x_bipush (v := 20) (dxX12_tests_3 2 rfl) rfl ?_
        obtain ⟨hi53, h⟩ := h
        refine x_iast (kd_195 hLs51) hi53 (dxX12_tests_3 3 rfl) ?_
        refine x_sto (fun s54 e55 => ?_)
        replace h := h s54 e55
        have hKs54 : kd s54 = kd σ := by rw [e55]; exact hKs51
        have hLs54 : Lay s54 := by rw [e55]; exact hLs51.si
        exact x_vret rfl (dxX12_tests_3 4 rfl) ⟨rfl, h⟩
      · replace h := h.2 hc
        refine x_iconst (v := 1) (dxX12_tests_2 12 rfl) rfl ?_
        refine x_goto (tgt := 135) (dxX12_tests_2 13 rfl) (by decide) ?_
        refine x_istore_n (i := 2) (dxX12_tests_2 15 rfl) rfl (Nat.le_of_ble_eq_true rfl) rfl rfl ?_
        refine x_aload_n (i := 0) (dxX12_tests_2 16 rfl) rfl rfl ?_
        refine gf_12_41 (kd_179 hL) (rv_179_22 hL) (dxX12_tests_2 17 rfl) ?_
        refine x_iload_n (i := 1) (dxX12_tests_2 18 rfl) rfl rfl ?_
        refine x_iload_n (i := 2) (dxX12_tests_2 19 rfl) rfl rfl ?_
        obtain ⟨hi56, h⟩ := h
        refine x_iast (kd_190 hL) hi56 (dxX12_tests_2 20 rfl) ?_
        refine x_sto (fun s57 e58 => ?_)
        replace h := h s57 e58
        have hKs57 : kd s57 = kd σ := by rw [e58]; exact (rfl : kd σ = kd σ)
        have hLs57 : Lay s57 := by rw [e58]; exact hL.si
        refine x_aload_n (i := 0) (dxX12_tests_2 21 rfl) rfl rfl ?_
        refine gf_12_50 (kd_179 hLs57) (rv_179_25 hLs57) (dxX12_tests_2 22 rfl) ?_
        refine x_iload_n (i := 1) (dxX12_tests_2 23 rfl) rfl rfl ?_
        refine x_iconst (v := 0) (dxX12_tests_2 24 rfl) rfl ?_
        obtain ⟨hi59, h⟩ := h
        refine x_iast (kd_193 hLs57) hi59 (dxX12_tests_2 25 rfl) ?_
        refine x_sto (fun s60 e61 => ?_)
        replace h := h s60 e61
        have hKs60 : kd s60 = kd σ := by rw [e61]; exact hKs57
        have hLs60 : Lay s60 := by rw [e61]; exact hLs57.si
        refine x_aload_n (i := 0) (dxX12_tests_2 26 rfl) rfl rfl ?_
        refine gf_12_53 (kd_179 hLs60) (rv_179_26 hLs60) (dxX12_tests_2 27 rfl) ?_
        refine x_iload_n (i := 1) (dxX12_tests_2 28 rfl) rfl rfl ?_
        refine x_iconst (v := 0) (dxX12_tests_2 29 rfl) rfl ?_
        obtain ⟨hi62, h⟩ := h
        refine x_iast (kd_194 hLs60) hi62 (dxX12_tests_2 30 rfl) ?_
        refine x_sto (fun s63 e64 => ?_)
        replace h := h s63 e64
        have hKs63 : kd s63 = kd σ := by rw [e64]; exact hKs60
        have hLs63 : Lay s63 := by rw [e64]; exact hLs60.si
        refine x_aload_n (i := 0) (dxX12_tests_2 31 rfl) rfl rfl ?_
        refine gf_12_56 (kd_179 hLs63) (rv_179_27 hLs63) (dxX12_tests_3 0 rfl) ?_
        refine x_iload_n (i := 1) (dxX12_tests_3 1 rfl) rfl rfl ?_
        refine x_bipush (v := 20) (dxX12_tests_3 2 rfl) rfl ?_
        obtain ⟨hi65, h⟩ := h
        refine x_iast (kd_195 hLs63) hi65 (dxX12_tests_3 3 rfl) ?_
        refine x_sto (fun s66 e67 => ?_)
        replace h := h s66 e67
        have hKs66 : kd s66 = kd σ := by rw [e67]; exact hKs63
        have hLs66 : Lay s66 := by rw [e67]; exact hLs63.si
        exact x_vret rfl (dxX12_tests_3 4 rfl) ⟨rfl, h⟩
theorem vcX12_worked {g : GV} {d : Nat} {P : Int32 → PS → Prop} {σ : PS} (hL : Lay σ) (p0 : Int32) (h : CX12_opens g d [.ref 179, .int 0] σ (fun (s1 : PS) => Fr σ s1 ∧ vp_in p0 1200 ∧ ∀ x4 : Int32, x4 = mi s1 186 (Int32.toNatClampNeg p0) → VX12_worked g (d + 1) P 14 [some (.ref 179), some (.int p0), some (.int 0), some (.int x4), none, none] [] s1)) : CX12_worked g (d + 1) [.ref 179, .int p0] σ P := by
  refine x_entry (L := [some (.ref 179), some (.int p0), none, none, none, none]) pn_12 (Nat.le_of_ble_eq_true rfl) ⟨4, rfl⟩ ?_
  show VX12_worked g (d + 1) P 0 [some (.ref 179), some (.int p0), none, none, none, none] [] σ
  refine x_iconst (v := 0) (dxX12_worked_0 0 rfl) rfl ?_
  refine x_istore_n (i := 2) (dxX12_worked_0 1 rfl) rfl (Nat.le_of_ble_eq_true rfl) rfl rfl ?_
  refine x_aload_n (i := 0) (dxX12_worked_0 2 rfl) rfl rfl ?_
  refine x_iconst (v := 0) (dxX12_worked_0 3 rfl) rfl ?_
  refine cl_12_242 (kd_179 hL) (Nat.le_of_ble_eq_true rfl) (dxX12_worked_0 4 rfl) h (fun s1 h => ?_) (Nat.le_refl _) (Nat.le_refl _)
  obtain ⟨hFs1, h⟩ := h
  have hKs1 : kd s1 = kd σ := hFs1.1.trans (rfl : kd σ = kd σ)
  have hLs1 : Lay s1 := hL.fr hFs1
  refine x_aload_n (i := 0) (dxX12_worked_0 5 rfl) rfl rfl ?_
  refine gf_12_28 (kd_179 hLs1) (rv_179_16 hLs1) (dxX12_worked_0 6 rfl) ?_
  refine x_iload_n (i := 1) (dxX12_worked_0 7 rfl) rfl rfl ?_
  obtain ⟨hi3, h⟩ := h
  refine x_iald (kd_186 hLs1) hi3 (dxX12_worked_0 8 rfl) ?_
  refine x_topi (fun x4 e5 => ?_)
  replace h := h x4 e5
  refine x_istore_n (i := 3) (dxX12_worked_0 9 rfl) rfl (Nat.le_of_ble_eq_true rfl) rfl rfl ?_
  exact h
theorem vcX12_worked_14 {g : GV} {d : Nat} {P : Int32 → PS → Prop} {σ : PS} (hL : Lay σ) (l1 : Int32) (l2 : Int32) (l3 : Int32) (h : vp_in l1 1200 ∧ ((mi σ 187 (Int32.toNatClampNeg l1)) ≤ l3 → CX12_tests g d [.ref 179, .int 0] σ (fun (s7 : PS) => Fr σ s7 ∧ P (mi s7 190 (Int32.toNatClampNeg 0)) s7)) ∧ (¬ (mi σ 187 (Int32.toNatClampNeg l1)) ≤ l3 → vp_in l3 1000 ∧ ∀ x10 : Int32, x10 = mi σ 188 (Int32.toNatClampNeg l3) → (x10 = 28 → ∀ x12 : Int32, x12 = l2 + 1 → (¬ x10 = 30 → vp_in x12 7 ∧ ∀ s15 : PS, s15 = si σ 198 (Int32.toNatClampNeg x12) 0 → CX12_opens g d [.ref 179, .int x12] s15 (fun (s17 : PS) => Fr s15 s17 ∧ ∀ x19 : Int32, x19 = l3 + 1 → VX12_worked g (d + 1) P 14 [some (.ref 179), some (.int l1), some (.int x12), some (.int x19), none, none] [] s17)) ∧ (x10 = 30 → vp_in x12 7 ∧ ∀ s22 : PS, s22 = si σ 198 (Int32.toNatClampNeg x12) 1 → CX12_opens g d [.ref 179, .int x12] s22 (fun (s24 : PS) => Fr s22 s24 ∧ ∀ x26 : Int32, x26 = l3 + 1 → VX12_worked g (d + 1) P 14 [some (.ref 179), some (.int l1), some (.int x12), some (.int x26), none, none] [] s24))) ∧ (¬ x10 = 28 → (¬ x10 = 30 → (x10 = 20 → CX12_sums g d [.ref 179, .int l2] σ (fun (s28 : PS) => Fr σ s28 ∧ vp_in l2 7 ∧ ∀ s31 : PS, s31 = si s28 195 (Int32.toNatClampNeg l2) x10 → ∀ x33 : Int32, x33 = l3 + 1 → VX12_worked g (d + 1) P 14 [some (.ref 179), some (.int l1), some (.int l2), some (.int x33), none, none] [] s31)) ∧ (¬ x10 = 20 → (¬ x10 = 21 → (¬ x10 = 22 → (x10 = 24 → CX12_sums g d [.ref 179, .int l2] σ (fun (s35 : PS) => Fr σ s35 ∧ vp_in l2 7 ∧ vp_in l2 7 ∧ ∀ s39 : PS, s39 = si s35 192 (Int32.toNatClampNeg l2) (mi s35 194 (Int32.toNatClampNeg l2)) → vp_in l2 7 ∧ ∀ s42 : PS, s42 = si s39 193 (Int32.toNatClampNeg l2) x10 → vp_in l2 7 ∧ ∀ s45 : PS, s45 = si s42 194 (Int32.toNatClampNeg l2) 0 → vp_in l2 7 ∧ ∀ s48 : PS, s48 = si s45 195 (Int32.toNatClampNeg l2) 20 → ∀ x50 : Int32, x50 = l3 + 1 → VX12_worked g (d + 1) P 14 [some (.ref 179), some (.int l1), some (.int l2), some (.int x50), none, none] [] s48)) ∧ (¬ x10 = 24 → (¬ x10 = 25 → (x10 = 26 → CX12_tests g d [.ref 179, .int l2] σ (fun (s52 : PS) => Fr σ s52 ∧ vp_in l2 7 ∧ ∀ s55 : PS, s55 = si s52 191 (Int32.toNatClampNeg l2) x10 → ∀ x57 : Int32, x57 = l3 + 1 → VX12_worked g (d + 1) P 14 [some (.ref 179), some (.int l1), some (.int l2), some (.int x57), none, none] [] s55)) ∧ (¬ x10 = 26 → (¬ x10 = 27 → (x10 < 100 → (20 ≤ x10 → (¬ x10 = 29 → VX12_worked g (d + 1) P 268 [some (.ref 179), some (.int l1), some (.int l2), some (.int l3), none, some (.int 0)] [] σ) ∧ (x10 = 29 → CX12_tests g d [.ref 179, .int l2] σ (fun (s59 : PS) => Fr σ s59 ∧ vp_in l2 7 ∧ ∀ x62 : Int32, x62 = mi s59 190 (Int32.toNatClampNeg l2) → ∀ x64 : Int32, x64 = l2 + (-1) → VX12_worked g (d + 1) P 268 [some (.ref 179), some (.int l1), some (.int x64), some (.int l3), none, some (.int x62)] [] s59))) ∧ (¬ 20 ≤ x10 → vp_in x10 20 ∧ ∀ x67 : Int32, x67 = mi σ 199 (Int32.toNatClampNeg x10) → (¬ x10 = 29 → VX12_worked g (d + 1) P 268 [some (.ref 179), some (.int l1), some (.int l2), some (.int l3), none, some (.int x67)] [] σ) ∧ (x10 = 29 → CX12_tests g d [.ref 179, .int l2] σ (fun (s69 : PS) => Fr σ s69 ∧ vp_in l2 7 ∧ ∀ x72 : Int32, x72 = mi s69 190 (Int32.toNatClampNeg l2) → ∀ x74 : Int32, x74 = l2 + (-1) → VX12_worked g (d + 1) P 268 [some (.ref 179), some (.int l1), some (.int x74), some (.int l3), none, some (.int x72)] [] s69)))) ∧ (¬ x10 < 100 → ∀ x76 : Int32, x76 = x10 - 100 → (¬ x10 = 29 → VX12_worked g (d + 1) P 268 [some (.ref 179), some (.int l1), some (.int l2), some (.int l3), none, some (.int x76)] [] σ) ∧ (x10 = 29 → CX12_tests g d [.ref 179, .int l2] σ (fun (s78 : PS) => Fr σ s78 ∧ vp_in l2 7 ∧ ∀ x81 : Int32, x81 = mi s78 190 (Int32.toNatClampNeg l2) → ∀ x83 : Int32, x83 = l2 + (-1) → VX12_worked g (d + 1) P 268 [some (.ref 179), some (.int l1), some (.int x83), some (.int l3), none, some (.int x81)] [] s78)))) ∧ (x10 = 27 → CX12_tests g d [.ref 179, .int l2] σ (fun (s85 : PS) => Fr σ s85 ∧ vp_in l2 7 ∧ ∀ s88 : PS, s88 = si s85 191 (Int32.toNatClampNeg l2) x10 → ∀ x90 : Int32, x90 = l3 + 1 → VX12_worked g (d + 1) P 14 [some (.ref 179), some (.int l1), some (.int l2), some (.int x90), none, none] [] s88)))) ∧ (x10 = 25 → CX12_sums g d [.ref 179, .int l2] σ (fun (s92 : PS) => Fr σ s92 ∧ vp_in l2 7 ∧ vp_in l2 7 ∧ ∀ s96 : PS, s96 = si s92 192 (Int32.toNatClampNeg l2) (mi s92 194 (Int32.toNatClampNeg l2)) → vp_in l2 7 ∧ ∀ s99 : PS, s99 = si s96 193 (Int32.toNatClampNeg l2) x10 → vp_in l2 7 ∧ ∀ s102 : PS, s102 = si s99 194 (Int32.toNatClampNeg l2) 0 → vp_in l2 7 ∧ ∀ s105 : PS, s105 = si s102 195 (Int32.toNatClampNeg l2) 20 → ∀ x107 : Int32, x107 = l3 + 1 → VX12_worked g (d + 1) P 14 [some (.ref 179), some (.int l1), some (.int l2), some (.int x107), none, none] [] s105)))) ∧ (x10 = 22 → vp_in l2 7 ∧ ∀ s110 : PS, s110 = si σ 197 (Int32.toNatClampNeg l2) x10 → ∀ x112 : Int32, x112 = l3 + 1 → VX12_worked g (d + 1) P 14 [some (.ref 179), some (.int l1), some (.int l2), some (.int x112), none, none] [] s110)) ∧ (x10 = 21 → CX12_sums g d [.ref 179, .int l2] σ (fun (s114 : PS) => Fr σ s114 ∧ vp_in l2 7 ∧ ∀ s117 : PS, s117 = si s114 195 (Int32.toNatClampNeg l2) x10 → ∀ x119 : Int32, x119 = l3 + 1 → VX12_worked g (d + 1) P 14 [some (.ref 179), some (.int l1), some (.int l2), some (.int x119), none, none] [] s117)))) ∧ (x10 = 30 → ∀ x121 : Int32, x121 = l2 + 1 → (¬ x10 = 30 → vp_in x121 7 ∧ ∀ s124 : PS, s124 = si σ 198 (Int32.toNatClampNeg x121) 0 → CX12_opens g d [.ref 179, .int x121] s124 (fun (s126 : PS) => Fr s124 s126 ∧ ∀ x128 : Int32, x128 = l3 + 1 → VX12_worked g (d + 1) P 14 [some (.ref 179), some (.int l1), some (.int x121), some (.int x128), none, none] [] s126)) ∧ (x10 = 30 → vp_in x121 7 ∧ ∀ s131 : PS, s131 = si σ 198 (Int32.toNatClampNeg x121) 1 → CX12_opens g d [.ref 179, .int x121] s131 (fun (s133 : PS) => Fr s131 s133 ∧ ∀ x135 : Int32, x135 = l3 + 1 → VX12_worked g (d + 1) P 14 [some (.ref 179), some (.int l1), some (.int x121), some (.int x135), none, none] [] s133)))))) : VX12_worked g (d + 1) P 14 [some (.ref 179), some (.int l1), some (.int l2), some (.int l3), none, none] [] σ := by
  refine x_iload_n (i := 3) (dxX12_worked_0 10 rfl) rfl rfl ?_
  refine x_aload_n (i := 0) (dxX12_worked_0 11 rfl) rfl rfl ?_
  refine gf_12_31 (kd_179 hL) (rv_179_17 hL) (dxX12_worked_0 12 rfl) ?_
  refine x_iload_n (i := 1) (dxX12_worked_0 13 rfl) rfl rfl ?_
  obtain ⟨hi6, h⟩ := h
  refine x_iald (kd_187 hL) hi6 (dxX12_worked_0 14 rfl) ?_
  refine x_icmp_ge (tgt := 335) (dxX12_worked_0 15 rfl) (by decide) (fun hc => ?_) (fun hc => ?_)
  · replace h := h.1 hc
    refine x_aload_n (i := 0) (dxX12_worked_5 18 rfl) rfl rfl ?_
    refine x_iconst (v := 0) (dxX12_worked_5 19 rfl) rfl ?_
    refine cl_12_245 (kd_179 hL) (Nat.le_of_ble_eq_true rfl) (dxX12_worked_5 20 rfl) h (fun s7 h => ?_) (Nat.le_refl _) (Nat.le_refl _)
    obtain ⟨hFs7, h⟩ := h
    have hKs7 : kd s7 = kd σ := hFs7.1.trans (rfl : kd σ = kd σ)
    have hLs7 : Lay s7 := hL.fr hFs7
    refine x_aload_n (i := 0) (dxX12_worked_5 21 rfl) rfl rfl ?_
    refine gf_12_41 (kd_179 hLs7) (rv_179_22 hLs7) (dxX12_worked_5 22 rfl) ?_
    refine x_iconst (v := 0) (dxX12_worked_5 23 rfl) rfl ?_
    refine x_iald (kd_190 hLs7) (vpl 7 0 rfl) (dxX12_worked_5 24 rfl) ?_
    exact x_iret (ty := .int) rfl rfl (dxX12_worked_5 25 rfl) ⟨_, rfl, h⟩
  · replace h := h.2 hc
    refine x_aload_n (i := 0) (dxX12_worked_0 16 rfl) rfl rfl ?_
    refine gf_12_34 (kd_179 hL) (rv_179_18 hL) (dxX12_worked_0 17 rfl) ?_
    refine x_iload_n (i := 3) (dxX12_worked_0 18 rfl) rfl rfl ?_
    obtain ⟨hi9, h⟩ := h
    refine x_iald (kd_188 hL) hi9 (dxX12_worked_0 19 rfl) ?_
    refine x_topi (fun x10 e11 => ?_)
    replace h := h x10 e11
    refine x_istore (dxX12_worked_0 20 rfl) (Nat.le_of_ble_eq_true rfl) rfl rfl ?_
    refine x_iload (dxX12_worked_0 21 rfl) rfl ?_
    refine x_bipush (v := 28) (dxX12_worked_0 22 rfl) rfl ?_
    refine x_icmp_eq (tgt := 46) (dxX12_worked_0 23 rfl) (by decide) (fun hc => ?_) (fun hc => ?_)
    · replace h := h.1 hc
      obtain ⟨x12, e13⟩ : ∃ y : Int32, y = l2 + 1 := ⟨_, rfl⟩
      replace h := h x12 e13
      refine x_iinc (v := x12) (dxX12_worked_0 27 rfl) (i := 2) rfl (by rw [e13]; rfl) (Nat.le_of_ble_eq_true rfl) rfl rfl ?_
      refine x_aload_n (i := 0) (dxX12_worked_0 28 rfl) rfl rfl ?_
      refine gf_12_65 (kd_179 hL) (rv_179_30 hL) (dxX12_worked_0 29 rfl) ?_
      refine x_iload_n (i := 2) (dxX12_worked_0 30 rfl) rfl rfl ?_
      refine x_iload (dxX12_worked_0 31 rfl) rfl ?_
      refine x_bipush (v := 30) (dxX12_worked_1 0 rfl) rfl ?_
      refine x_icmp_ne (tgt := 65) (dxX12_worked_1 1 rfl) (by decide) (fun hc => ?_) (fun hc => ?_)
      · replace h := h.1 hc
        refine x_iconst (v := 0) (dxX12_worked_1 4 rfl) rfl ?_
        obtain ⟨hi14, h⟩ := h
        refine x_iast (kd_198 hL) hi14 (dxX12_worked_1 5 rfl) ?_
        refine x_sto (fun s15 e16 => ?_)
        replace h := h s15 e16
        have hKs15 : kd s15 = kd σ := by rw [e16]; exact (rfl : kd σ = kd σ)
        have hLs15 : Lay s15 := by rw [e16]; exact hL.si
        refine x_aload_n (i := 0) (dxX12_worked_1 6 rfl) rfl rfl ?_
        refine x_iload_n (i := 2) (dxX12_worked_1 7 rfl) rfl rfl ?_
        refine cl_12_242 (kd_179 hLs15) (Nat.le_of_ble_eq_true rfl) (dxX12_worked_1 8 rfl) h (fun s17 h => ?_) (Nat.le_refl _) (Nat.le_refl _)
        obtain ⟨hFs17, h⟩ := h
        have hKs17 : kd s17 = kd σ := hFs17.1.trans hKs15
        have hLs17 : Lay s17 := hLs15.fr hFs17
        refine x_goto (tgt := 329) (dxX12_worked_1 9 rfl) (by decide) ?_
        obtain ⟨x19, e20⟩ : ∃ y : Int32, y = l3 + 1 := ⟨_, rfl⟩
        replace h := h x19 e20
        refine x_iinc (v := x19) (dxX12_worked_5 16 rfl) (i := 3) rfl (by rw [e20]; rfl) (Nat.le_of_ble_eq_true rfl) rfl rfl ?_
        refine x_goto (tgt := 14) (dxX12_worked_5 17 rfl) (by decide) ?_
        refine x_mask [true, true, true, true, false, false] (L1 := [some (.ref 179), some (.int l1), some (.int x12), some (.int x19), none, none]) rfl ?_
        exact h
      · replace h := h.2 hc
        refine x_iconst (v := 1) (dxX12_worked_1 2 rfl) rfl ?_
        refine x_goto (tgt := 66) (dxX12_worked_1 3 rfl) (by decide) ?_
        obtain ⟨hi21, h⟩ := h
        refine x_iast (kd_198 hL) hi21 (dxX12_worked_1 5 rfl) ?_
        refine x_sto (fun s22 e23 => ?_)
        replace h := h s22 e23
        have hKs22 : kd s22 = kd σ := by rw [e23]; exact (rfl : kd σ = kd σ)
        have hLs22 : Lay s22 := by rw [e23]; exact hL.si
        refine x_aload_n (i := 0) (dxX12_worked_1 6 rfl) rfl rfl ?_
        refine x_iload_n (i := 2) (dxX12_worked_1 7 rfl) rfl rfl ?_
        refine cl_12_242 (kd_179 hLs22) (Nat.le_of_ble_eq_true rfl) (dxX12_worked_1 8 rfl) h (fun s24 h => ?_) (Nat.le_refl _) (Nat.le_refl _)
        obtain ⟨hFs24, h⟩ := h
        have hKs24 : kd s24 = kd σ := hFs24.1.trans hKs22
        have hLs24 : Lay s24 := hLs22.fr hFs24
        refine x_goto (tgt := 329) (dxX12_worked_1 9 rfl) (by decide) ?_
        obtain ⟨x26, e27⟩ : ∃ y : Int32, y = l3 + 1 := ⟨_, rfl⟩
        replace h := h x26 e27
        refine x_iinc (v := x26) (dxX12_worked_5 16 rfl) (i := 3) rfl (by rw [e27]; rfl) (Nat.le_of_ble_eq_true rfl) rfl rfl ?_
        refine x_goto (tgt := 14) (dxX12_worked_5 17 rfl) (by decide) ?_
        refine x_mask [true, true, true, true, false, false] (L1 := [some (.ref 179), some (.int l1), some (.int x12), some (.int x26), none, none]) rfl ?_
        exact h
    · replace h := h.2 hc
      refine x_iload (dxX12_worked_0 24 rfl) rfl ?_
      refine x_bipush (v := 30) (dxX12_worked_0 25 rfl) rfl ?_
      refine x_icmp_ne (tgt := 75) (dxX12_worked_0 26 rfl) (by decide) (fun hc => ?_) (fun hc => ?_)
      · replace h := h.1 hc
        refine x_iload (dxX12_worked_1 10 rfl) rfl ?_
        refine x_bipush (v := 20) (dxX12_worked_1 11 rfl) rfl ?_
        refine x_icmp_eq (tgt := 89) (dxX12_worked_1 12 rfl) (by decide) (fun hc => ?_) (fun hc => ?_)
        · replace h := h.1 hc
          refine x_aload_n (i := 0) (dxX12_worked_1 16 rfl) rfl rfl ?_
          refine x_iload_n (i := 2) (dxX12_worked_1 17 rfl) rfl rfl ?_
          refine cl_12_238 (kd_179 hL) (Nat.le_of_ble_eq_true rfl) (dxX12_worked_1 18 rfl) h (fun s28 h => ?_) (Nat.le_refl _) (Nat.le_refl _)
          obtain ⟨hFs28, h⟩ := h
          have hKs28 : kd s28 = kd σ := hFs28.1.trans (rfl : kd σ = kd σ)
          have hLs28 : Lay s28 := hL.fr hFs28
          refine x_aload_n (i := 0) (dxX12_worked_1 19 rfl) rfl rfl ?_
          refine gf_12_56 (kd_179 hLs28) (rv_179_27 hLs28) (dxX12_worked_1 20 rfl) ?_
          refine x_iload_n (i := 2) (dxX12_worked_1 21 rfl) rfl rfl ?_
          refine x_iload (dxX12_worked_1 22 rfl) rfl ?_
          obtain ⟨hi30, h⟩ := h
          refine x_iast (kd_195 hLs28) hi30 (dxX12_worked_1 23 rfl) ?_
          refine x_sto (fun s31 e32 => ?_)
          replace h := h s31 e32
          have hKs31 : kd s31 = kd σ := by rw [e32]; exact hKs28
          have hLs31 : Lay s31 := by rw [e32]; exact hLs28.si
          refine x_goto (tgt := 329) (dxX12_worked_1 24 rfl) (by decide) ?_
          obtain ⟨x33, e34⟩ : ∃ y : Int32, y = l3 + 1 := ⟨_, rfl⟩
          replace h := h x33 e34
          refine x_iinc (v := x33) (dxX12_worked_5 16 rfl) (i := 3) rfl (by rw [e34]; rfl) (Nat.le_of_ble_eq_true rfl) rfl rfl ?_
          refine x_goto (tgt := 14) (dxX12_worked_5 17 rfl) (by decide) ?_
          refine x_mask [true, true, true, true, false, false] (L1 := [some (.ref 179), some (.int l1), some (.int l2), some (.int x33), none, none]) rfl ?_
          exact h
        · replace h := h.2 hc
          refine x_iload (dxX12_worked_1 13 rfl) rfl ?_
          refine x_bipush (v := 21) (dxX12_worked_1 14 rfl) rfl ?_
          refine x_icmp_ne (tgt := 105) (dxX12_worked_1 15 rfl) (by decide) (fun hc => ?_) (fun hc => ?_)
          · replace h := h.1 hc
            refine x_iload (dxX12_worked_1 25 rfl) rfl ?_
            refine x_bipush (v := 22) (dxX12_worked_1 26 rfl) rfl ?_
            refine x_icmp_ne (tgt := 123) (dxX12_worked_1 27 rfl) (by decide) (fun hc => ?_) (fun hc => ?_)
            · replace h := h.1 hc
              refine x_iload (dxX12_worked_2 2 rfl) rfl ?_
              refine x_bipush (v := 24) (dxX12_worked_2 3 rfl) rfl ?_
              refine x_icmp_eq (tgt := 137) (dxX12_worked_2 4 rfl) (by decide) (fun hc => ?_) (fun hc => ?_)
              · replace h := h.1 hc
                refine x_aload_n (i := 0) (dxX12_worked_2 8 rfl) rfl rfl ?_
                refine x_iload_n (i := 2) (dxX12_worked_2 9 rfl) rfl rfl ?_
                refine cl_12_238 (kd_179 hL) (Nat.le_of_ble_eq_true rfl) (dxX12_worked_2 10 rfl) h (fun s35 h => ?_) (Nat.le_refl _) (Nat.le_refl _)
                obtain ⟨hFs35, h⟩ := h
                have hKs35 : kd s35 = kd σ := hFs35.1.trans (rfl : kd σ = kd σ)
                have hLs35 : Lay s35 := hL.fr hFs35
                refine x_aload_n (i := 0) (dxX12_worked_2 11 rfl) rfl rfl ?_
                refine gf_12_47 (kd_179 hLs35) (rv_179_24 hLs35) (dxX12_worked_2 12 rfl) ?_
                refine x_iload_n (i := 2) (dxX12_worked_2 13 rfl) rfl rfl ?_
                refine x_aload_n (i := 0) (dxX12_worked_2 14 rfl) rfl rfl ?_
                refine gf_12_53 (kd_179 hLs35) (rv_179_26 hLs35) (dxX12_worked_2 15 rfl) ?_
                refine x_iload_n (i := 2) (dxX12_worked_2 16 rfl) rfl rfl ?_
                obtain ⟨hi37, h⟩ := h
                refine x_iald (kd_194 hLs35) hi37 (dxX12_worked_2 17 rfl) ?_
                obtain ⟨hi38, h⟩ := h
                refine x_iast (kd_192 hLs35) hi38 (dxX12_worked_2 18 rfl) ?_
                refine x_sto (fun s39 e40 => ?_)
                replace h := h s39 e40
                have hKs39 : kd s39 = kd σ := by rw [e40]; exact hKs35
                have hLs39 : Lay s39 := by rw [e40]; exact hLs35.si
                refine x_aload_n (i := 0) (dxX12_worked_2 19 rfl) rfl rfl ?_
                refine gf_12_50 (kd_179 hLs39) (rv_179_25 hLs39) (dxX12_worked_2 20 rfl) ?_
                refine x_iload_n (i := 2) (dxX12_worked_2 21 rfl) rfl rfl ?_
                refine x_iload (dxX12_worked_2 22 rfl) rfl ?_
                obtain ⟨hi41, h⟩ := h
                refine x_iast (kd_193 hLs39) hi41 (dxX12_worked_2 23 rfl) ?_
                refine x_sto (fun s42 e43 => ?_)
                replace h := h s42 e43
                have hKs42 : kd s42 = kd σ := by rw [e43]; exact hKs39
                have hLs42 : Lay s42 := by rw [e43]; exact hLs39.si
                refine x_aload_n (i := 0) (dxX12_worked_2 24 rfl) rfl rfl ?_
                refine gf_12_53 (kd_179 hLs42) (rv_179_26 hLs42) (dxX12_worked_2 25 rfl) ?_
                refine x_iload_n (i := 2) (dxX12_worked_2 26 rfl) rfl rfl ?_
                refine x_iconst (v := 0) (dxX12_worked_2 27 rfl) rfl ?_
                obtain ⟨hi44, h⟩ := h
                refine x_iast (kd_194 hLs42) hi44 (dxX12_worked_2 28 rfl) ?_
                refine x_sto (fun s45 e46 => ?_)
                replace h := h s45 e46
                have hKs45 : kd s45 = kd σ := by rw [e46]; exact hKs42
                have hLs45 : Lay s45 := by rw [e46]; exact hLs42.si
                refine x_aload_n (i := 0) (dxX12_worked_2 29 rfl) rfl rfl ?_
                refine gf_12_56 (kd_179 hLs45) (rv_179_27 hLs45) (dxX12_worked_2 30 rfl) ?_
                refine x_iload_n (i := 2) (dxX12_worked_2 31 rfl) rfl rfl ?_
                refine x_bipush (v := 20) (dxX12_worked_3 0 rfl) rfl ?_
                obtain ⟨hi47, h⟩ := h
                refine x_iast (kd_195 hLs45) hi47 (dxX12_worked_3 1 rfl) ?_
                refine x_sto (fun s48 e49 => ?_)
                replace h := h s48 e49
                have hKs48 : kd s48 = kd σ := by rw [e49]; exact hKs45
                have hLs48 : Lay s48 := by rw [e49]; exact hLs45.si
                refine x_goto (tgt := 329) (dxX12_worked_3 2 rfl) (by decide) ?_
                obtain ⟨x50, e51⟩ : ∃ y : Int32, y = l3 + 1 := ⟨_, rfl⟩
                replace h := h x50 e51
                refine x_iinc (v := x50) (dxX12_worked_5 16 rfl) (i := 3) rfl (by rw [e51]; rfl) (Nat.le_of_ble_eq_true rfl) rfl rfl ?_
                refine x_goto (tgt := 14) (dxX12_worked_5 17 rfl) (by decide) ?_
                refine x_mask [true, true, true, true, false, false] (L1 := [some (.ref 179), some (.int l1), some (.int l2), some (.int x50), none, none]) rfl ?_
                exact h
              · replace h := h.2 hc
                refine x_iload (dxX12_worked_2 5 rfl) rfl ?_
                refine x_bipush (v := 25) (dxX12_worked_2 6 rfl) rfl ?_
                refine x_icmp_ne (tgt := 180) (dxX12_worked_2 7 rfl) (by decide) (fun hc => ?_) (fun hc => ?_)
                · replace h := h.1 hc
                  refine x_iload (dxX12_worked_3 3 rfl) rfl ?_
                  refine x_bipush (v := 26) (dxX12_worked_3 4 rfl) rfl ?_
                  refine x_icmp_eq (tgt := 194) (dxX12_worked_3 5 rfl) (by decide) (fun hc => ?_) (fun hc => ?_)
                  · replace h := h.1 hc
                    refine x_aload_n (i := 0) (dxX12_worked_3 9 rfl) rfl rfl ?_
                    refine x_iload_n (i := 2) (dxX12_worked_3 10 rfl) rfl rfl ?_
                    refine cl_12_245 (kd_179 hL) (Nat.le_of_ble_eq_true rfl) (dxX12_worked_3 11 rfl) h (fun s52 h => ?_) (Nat.le_refl _) (Nat.le_refl _)
                    obtain ⟨hFs52, h⟩ := h
                    have hKs52 : kd s52 = kd σ := hFs52.1.trans (rfl : kd σ = kd σ)
                    have hLs52 : Lay s52 := hL.fr hFs52
                    refine x_aload_n (i := 0) (dxX12_worked_3 12 rfl) rfl rfl ?_
                    refine gf_12_44 (kd_179 hLs52) (rv_179_23 hLs52) (dxX12_worked_3 13 rfl) ?_
                    refine x_iload_n (i := 2) (dxX12_worked_3 14 rfl) rfl rfl ?_
                    refine x_iload (dxX12_worked_3 15 rfl) rfl ?_
                    obtain ⟨hi54, h⟩ := h
                    refine x_iast (kd_191 hLs52) hi54 (dxX12_worked_3 16 rfl) ?_
                    refine x_sto (fun s55 e56 => ?_)
                    replace h := h s55 e56
                    have hKs55 : kd s55 = kd σ := by rw [e56]; exact hKs52
                    have hLs55 : Lay s55 := by rw [e56]; exact hLs52.si
                    refine x_goto (tgt := 329) (dxX12_worked_3 17 rfl) (by decide) ?_
                    obtain ⟨x57, e58⟩ : ∃ y : Int32, y = l3 + 1 := ⟨_, rfl⟩
                    replace h := h x57 e58
                    refine x_iinc (v := x57) (dxX12_worked_5 16 rfl) (i := 3) rfl (by rw [e58]; rfl) (Nat.le_of_ble_eq_true rfl) rfl rfl ?_
                    refine x_goto (tgt := 14) (dxX12_worked_5 17 rfl) (by decide) ?_
                    refine x_mask [true, true, true, true, false, false] (L1 := [some (.ref 179), some (.int l1), some (.int l2), some (.int x57), none, none]) rfl ?_
                    exact h
                  · replace h := h.2 hc
                    refine x_iload (dxX12_worked_3 6 rfl) rfl ?_
                    refine x_bipush (v := 27) (dxX12_worked_3 7 rfl) rfl ?_
                    refine x_icmp_ne (tgt := 210) (dxX12_worked_3 8 rfl) (by decide) (fun hc => ?_) (fun hc => ?_)
                    · replace h := h.1 hc
                      refine x_iload (dxX12_worked_3 18 rfl) rfl ?_
                      refine x_bipush (v := 100) (dxX12_worked_3 19 rfl) rfl ?_
                      refine x_icmp_lt (tgt := 225) (dxX12_worked_3 20 rfl) (by decide) (fun hc => ?_) (fun hc => ?_)
                      · replace h := h.1 hc
                        refine x_iload (dxX12_worked_3 25 rfl) rfl ?_
                        refine x_bipush (v := 20) (dxX12_worked_3 26 rfl) rfl ?_
                        refine x_icmp_ge (tgt := 242) (dxX12_worked_3 27 rfl) (by decide) (fun hc => ?_) (fun hc => ?_)
                        · replace h := h.1 hc
                          refine x_iconst (v := 0) (dxX12_worked_4 1 rfl) rfl ?_
                          refine x_istore (dxX12_worked_4 2 rfl) (Nat.le_of_ble_eq_true rfl) rfl rfl ?_
                          refine x_iload (dxX12_worked_4 3 rfl) rfl ?_
                          refine x_bipush (v := 29) (dxX12_worked_4 4 rfl) rfl ?_
                          refine x_icmp_ne (tgt := 268) (dxX12_worked_4 5 rfl) (by decide) (fun hc => ?_) (fun hc => ?_)
                          · replace h := h.1 hc
                            refine x_mask [true, true, true, true, false, true] (L1 := [some (.ref 179), some (.int l1), some (.int l2), some (.int l3), none, some (.int 0)]) rfl ?_
                            exact h
                          · replace h := h.2 hc
                            refine x_aload_n (i := 0) (dxX12_worked_4 6 rfl) rfl rfl ?_
                            refine x_iload_n (i := 2) (dxX12_worked_4 7 rfl) rfl rfl ?_
                            refine cl_12_245 (kd_179 hL) (Nat.le_of_ble_eq_true rfl) (dxX12_worked_4 8 rfl) h (fun s59 h => ?_) (Nat.le_refl _) (Nat.le_refl _)
                            obtain ⟨hFs59, h⟩ := h
                            have hKs59 : kd s59 = kd σ := hFs59.1.trans (rfl : kd σ = kd σ)
                            have hLs59 : Lay s59 := hL.fr hFs59
                            refine x_aload_n (i := 0) (dxX12_worked_4 9 rfl) rfl rfl ?_
                            refine gf_12_41 (kd_179 hLs59) (rv_179_22 hLs59) (dxX12_worked_4 10 rfl) ?_
                            refine x_iload_n (i := 2) (dxX12_worked_4 11 rfl) rfl rfl ?_
                            obtain ⟨hi61, h⟩ := h
                            refine x_iald (kd_190 hLs59) hi61 (dxX12_worked_4 12 rfl) ?_
                            refine x_topi (fun x62 e63 => ?_)
                            replace h := h x62 e63
                            refine x_istore (dxX12_worked_4 13 rfl) (Nat.le_of_ble_eq_true rfl) rfl rfl ?_
                            obtain ⟨x64, e65⟩ : ∃ y : Int32, y = l2 + (-1) := ⟨_, rfl⟩
                            replace h := h x64 e65
                            refine x_iinc (v := x64) (dxX12_worked_4 14 rfl) (i := 2) rfl (by rw [e65]; rfl) (Nat.le_of_ble_eq_true rfl) rfl rfl ?_
                            refine x_mask [true, true, true, true, false, true] (L1 := [some (.ref 179), some (.int l1), some (.int x64), some (.int l3), none, some (.int x62)]) rfl ?_
                            exact h
                        · replace h := h.2 hc
                          refine x_aload_n (i := 0) (dxX12_worked_3 28 rfl) rfl rfl ?_
                          refine gf_12_68 (kd_179 hL) (rv_179_31 hL) (dxX12_worked_3 29 rfl) ?_
                          refine x_iload (dxX12_worked_3 30 rfl) rfl ?_
                          obtain ⟨hi66, h⟩ := h
                          refine x_iald (kd_199 hL) hi66 (dxX12_worked_3 31 rfl) ?_
                          refine x_goto (tgt := 243) (dxX12_worked_4 0 rfl) (by decide) ?_
                          refine x_topi (fun x67 e68 => ?_)
                          replace h := h x67 e68
                          refine x_istore (dxX12_worked_4 2 rfl) (Nat.le_of_ble_eq_true rfl) rfl rfl ?_
                          refine x_iload (dxX12_worked_4 3 rfl) rfl ?_
                          refine x_bipush (v := 29) (dxX12_worked_4 4 rfl) rfl ?_
                          refine x_icmp_ne (tgt := 268) (dxX12_worked_4 5 rfl) (by decide) (fun hc => ?_) (fun hc => ?_)
                          · replace h := h.1 hc
                            refine x_mask [true, true, true, true, false, true] (L1 := [some (.ref 179), some (.int l1), some (.int l2), some (.int l3), none, some (.int x67)]) rfl ?_
                            exact h
                          · replace h := h.2 hc
                            refine x_aload_n (i := 0) (dxX12_worked_4 6 rfl) rfl rfl ?_
                            refine x_iload_n (i := 2) (dxX12_worked_4 7 rfl) rfl rfl ?_
                            refine cl_12_245 (kd_179 hL) (Nat.le_of_ble_eq_true rfl) (dxX12_worked_4 8 rfl) h (fun s69 h => ?_) (Nat.le_refl _) (Nat.le_refl _)
                            obtain ⟨hFs69, h⟩ := h
                            have hKs69 : kd s69 = kd σ := hFs69.1.trans (rfl : kd σ = kd σ)
                            have hLs69 : Lay s69 := hL.fr hFs69
                            refine x_aload_n (i := 0) (dxX12_worked_4 9 rfl) rfl rfl ?_
                            refine gf_12_41 (kd_179 hLs69) (rv_179_22 hLs69) (dxX12_worked_4 10 rfl) ?_
                            refine x_iload_n (i := 2) (dxX12_worked_4 11 rfl) rfl rfl ?_
                            obtain ⟨hi71, h⟩ := h
                            refine x_iald (kd_190 hLs69) hi71 (dxX12_worked_4 12 rfl) ?_
                            refine x_topi (fun x72 e73 => ?_)
                            replace h := h x72 e73
                            refine x_istore (dxX12_worked_4 13 rfl) (Nat.le_of_ble_eq_true rfl) rfl rfl ?_
                            obtain ⟨x74, e75⟩ : ∃ y : Int32, y = l2 + (-1) := ⟨_, rfl⟩
                            replace h := h x74 e75
                            refine x_iinc (v := x74) (dxX12_worked_4 14 rfl) (i := 2) rfl (by rw [e75]; rfl) (Nat.le_of_ble_eq_true rfl) rfl rfl ?_
                            refine x_mask [true, true, true, true, false, true] (L1 := [some (.ref 179), some (.int l1), some (.int x74), some (.int l3), none, some (.int x72)]) rfl ?_
                            exact h
                      · replace h := h.2 hc
                        refine x_iload (dxX12_worked_3 21 rfl) rfl ?_
                        refine x_bipush (v := 100) (dxX12_worked_3 22 rfl) rfl ?_
                        refine x_isub (dxX12_worked_3 23 rfl) ?_
                        refine x_goto (tgt := 243) (dxX12_worked_3 24 rfl) (by decide) ?_
                        refine x_topi (fun x76 e77 => ?_)
                        replace h := h x76 e77
                        refine x_istore (dxX12_worked_4 2 rfl) (Nat.le_of_ble_eq_true rfl) rfl rfl ?_
                        refine x_iload (dxX12_worked_4 3 rfl) rfl ?_
                        refine x_bipush (v := 29) (dxX12_worked_4 4 rfl) rfl ?_
                        refine x_icmp_ne (tgt := 268) (dxX12_worked_4 5 rfl) (by decide) (fun hc => ?_) (fun hc => ?_)
                        · replace h := h.1 hc
                          refine x_mask [true, true, true, true, false, true] (L1 := [some (.ref 179), some (.int l1), some (.int l2), some (.int l3), none, some (.int x76)]) rfl ?_
                          exact h
                        · replace h := h.2 hc
                          refine x_aload_n (i := 0) (dxX12_worked_4 6 rfl) rfl rfl ?_
                          refine x_iload_n (i := 2) (dxX12_worked_4 7 rfl) rfl rfl ?_
                          refine cl_12_245 (kd_179 hL) (Nat.le_of_ble_eq_true rfl) (dxX12_worked_4 8 rfl) h (fun s78 h => ?_) (Nat.le_refl _) (Nat.le_refl _)
                          obtain ⟨hFs78, h⟩ := h
                          have hKs78 : kd s78 = kd σ := hFs78.1.trans (rfl : kd σ = kd σ)
                          have hLs78 : Lay s78 := hL.fr hFs78
                          refine x_aload_n (i := 0) (dxX12_worked_4 9 rfl) rfl rfl ?_
                          refine gf_12_41 (kd_179 hLs78) (rv_179_22 hLs78) (dxX12_worked_4 10 rfl) ?_
                          refine x_iload_n (i := 2) (dxX12_worked_4 11 rfl) rfl rfl ?_
                          obtain ⟨hi80, h⟩ := h
                          refine x_iald (kd_190 hLs78) hi80 (dxX12_worked_4 12 rfl) ?_
                          refine x_topi (fun x81 e82 => ?_)
                          replace h := h x81 e82
                          refine x_istore (dxX12_worked_4 13 rfl) (Nat.le_of_ble_eq_true rfl) rfl rfl ?_
                          obtain ⟨x83, e84⟩ : ∃ y : Int32, y = l2 + (-1) := ⟨_, rfl⟩
                          replace h := h x83 e84
                          refine x_iinc (v := x83) (dxX12_worked_4 14 rfl) (i := 2) rfl (by rw [e84]; rfl) (Nat.le_of_ble_eq_true rfl) rfl rfl ?_
                          refine x_mask [true, true, true, true, false, true] (L1 := [some (.ref 179), some (.int l1), some (.int x83), some (.int l3), none, some (.int x81)]) rfl ?_
                          exact h
                    · replace h := h.2 hc
                      refine x_aload_n (i := 0) (dxX12_worked_3 9 rfl) rfl rfl ?_
                      refine x_iload_n (i := 2) (dxX12_worked_3 10 rfl) rfl rfl ?_
                      refine cl_12_245 (kd_179 hL) (Nat.le_of_ble_eq_true rfl) (dxX12_worked_3 11 rfl) h (fun s85 h => ?_) (Nat.le_refl _) (Nat.le_refl _)
                      obtain ⟨hFs85, h⟩ := h
                      have hKs85 : kd s85 = kd σ := hFs85.1.trans (rfl : kd σ = kd σ)
                      have hLs85 : Lay s85 := hL.fr hFs85
                      refine x_aload_n (i := 0) (dxX12_worked_3 12 rfl) rfl rfl ?_
                      refine gf_12_44 (kd_179 hLs85) (rv_179_23 hLs85) (dxX12_worked_3 13 rfl) ?_
                      refine x_iload_n (i := 2) (dxX12_worked_3 14 rfl) rfl rfl ?_
                      refine x_iload (dxX12_worked_3 15 rfl) rfl ?_
                      obtain ⟨hi87, h⟩ := h
                      refine x_iast (kd_191 hLs85) hi87 (dxX12_worked_3 16 rfl) ?_
                      refine x_sto (fun s88 e89 => ?_)
                      replace h := h s88 e89
                      have hKs88 : kd s88 = kd σ := by rw [e89]; exact hKs85
                      have hLs88 : Lay s88 := by rw [e89]; exact hLs85.si
                      refine x_goto (tgt := 329) (dxX12_worked_3 17 rfl) (by decide) ?_
                      obtain ⟨x90, e91⟩ : ∃ y : Int32, y = l3 + 1 := ⟨_, rfl⟩
                      replace h := h x90 e91
                      refine x_iinc (v := x90) (dxX12_worked_5 16 rfl) (i := 3) rfl (by rw [e91]; rfl) (Nat.le_of_ble_eq_true rfl) rfl rfl ?_
                      refine x_goto (tgt := 14) (dxX12_worked_5 17 rfl) (by decide) ?_
                      refine x_mask [true, true, true, true, false, false] (L1 := [some (.ref 179), some (.int l1), some (.int l2), some (.int x90), none, none]) rfl ?_
                      exact h
                · replace h := h.2 hc
                  refine x_aload_n (i := 0) (dxX12_worked_2 8 rfl) rfl rfl ?_
                  refine x_iload_n (i := 2) (dxX12_worked_2 9 rfl) rfl rfl ?_
                  refine cl_12_238 (kd_179 hL) (Nat.le_of_ble_eq_true rfl) (dxX12_worked_2 10 rfl) h (fun s92 h => ?_) (Nat.le_refl _) (Nat.le_refl _)
                  obtain ⟨hFs92, h⟩ := h
                  have hKs92 : kd s92 = kd σ := hFs92.1.trans (rfl : kd σ = kd σ)
                  have hLs92 : Lay s92 := hL.fr hFs92
                  refine x_aload_n (i := 0) (dxX12_worked_2 11 rfl) rfl rfl ?_
                  refine gf_12_47 (kd_179 hLs92) (rv_179_24 hLs92) (dxX12_worked_2 12 rfl) ?_
                  refine x_iload_n (i := 2) (dxX12_worked_2 13 rfl) rfl rfl ?_
                  refine x_aload_n (i := 0) (dxX12_worked_2 14 rfl) rfl rfl ?_
                  refine gf_12_53 (kd_179 hLs92) (rv_179_26 hLs92) (dxX12_worked_2 15 rfl) ?_
                  refine x_iload_n (i := 2) (dxX12_worked_2 16 rfl) rfl rfl ?_
                  obtain ⟨hi94, h⟩ := h
                  refine x_iald (kd_194 hLs92) hi94 (dxX12_worked_2 17 rfl) ?_
                  obtain ⟨hi95, h⟩ := h
                  refine x_iast (kd_192 hLs92) hi95 (dxX12_worked_2 18 rfl) ?_
                  refine x_sto (fun s96 e97 => ?_)
                  replace h := h s96 e97
                  have hKs96 : kd s96 = kd σ := by rw [e97]; exact hKs92
                  have hLs96 : Lay s96 := by rw [e97]; exact hLs92.si
                  refine x_aload_n (i := 0) (dxX12_worked_2 19 rfl) rfl rfl ?_
                  refine gf_12_50 (kd_179 hLs96) (rv_179_25 hLs96) (dxX12_worked_2 20 rfl) ?_
                  refine x_iload_n (i := 2) (dxX12_worked_2 21 rfl) rfl rfl ?_
                  refine x_iload (dxX12_worked_2 22 rfl) rfl ?_
                  obtain ⟨hi98, h⟩ := h
                  refine x_iast (kd_193 hLs96) hi98 (dxX12_worked_2 23 rfl) ?_
                  refine x_sto (fun s99 e100 => ?_)
                  replace h := h s99 e100
                  have hKs99 : kd s99 = kd σ := by rw [e100]; exact hKs96
                  have hLs99 : Lay s99 := by rw [e100]; exact hLs96.si
                  refine x_aload_n (i := 0) (dxX12_worked_2 24 rfl) rfl rfl ?_
                  refine gf_12_53 (kd_179 hLs99) (rv_179_26 hLs99) (dxX12_worked_2 25 rfl) ?_
                  refine x_iload_n (i := 2) (dxX12_worked_2 26 rfl) rfl rfl ?_
                  refine x_iconst (v := 0) (dxX12_worked_2 27 rfl) rfl ?_
                  obtain ⟨hi101, h⟩ := h
                  refine x_iast (kd_194 hLs99) hi101 (dxX12_worked_2 28 rfl) ?_
                  refine x_sto (fun s102 e103 => ?_)
                  replace h := h s102 e103
                  have hKs102 : kd s102 = kd σ := by rw [e103]; exact hKs99
                  have hLs102 : Lay s102 := by rw [e103]; exact hLs99.si
                  refine x_aload_n (i := 0) (dxX12_worked_2 29 rfl) rfl rfl ?_
                  refine gf_12_56 (kd_179 hLs102) (rv_179_27 hLs102) (dxX12_worked_2 30 rfl) ?_
                  refine x_iload_n (i := 2) (dxX12_worked_2 31 rfl) rfl rfl ?_
                  refine x_bipush (v := 20) (dxX12_worked_3 0 rfl) rfl ?_
                  obtain ⟨hi104, h⟩ := h
                  refine x_iast (kd_195 hLs102) hi104 (dxX12_worked_3 1 rfl) ?_
                  refine x_sto (fun s105 e106 => ?_)
                  replace h := h s105 e106
                  have hKs105 : kd s105 = kd σ := by rw [e106]; exact hKs102
                  have hLs105 : Lay s105 := by rw [e106]; exact hLs102.si
                  refine x_goto (tgt := 329) (dxX12_worked_3 2 rfl) (by decide) ?_
                  obtain ⟨x107, e108⟩ : ∃ y : Int32, y = l3 + 1 := ⟨_, rfl⟩
                  replace h := h x107 e108
                  refine x_iinc (v := x107) (dxX12_worked_5 16 rfl) (i := 3) rfl (by rw [e108]; rfl) (Nat.le_of_ble_eq_true rfl) rfl rfl ?_
                  refine x_goto (tgt := 14) (dxX12_worked_5 17 rfl) (by decide) ?_
                  refine x_mask [true, true, true, true, false, false] (L1 := [some (.ref 179), some (.int l1), some (.int l2), some (.int x107), none, none]) rfl ?_
                  exact h
            · replace h := h.2 hc
              refine x_aload_n (i := 0) (dxX12_worked_1 28 rfl) rfl rfl ?_
              refine gf_12_62 (kd_179 hL) (rv_179_29 hL) (dxX12_worked_1 29 rfl) ?_
              refine x_iload_n (i := 2) (dxX12_worked_1 30 rfl) rfl rfl ?_
              refine x_iload (dxX12_worked_1 31 rfl) rfl ?_
              obtain ⟨hi109, h⟩ := h
              refine x_iast (kd_197 hL) hi109 (dxX12_worked_2 0 rfl) ?_
              refine x_sto (fun s110 e111 => ?_)
              replace h := h s110 e111
              have hKs110 : kd s110 = kd σ := by rw [e111]; exact (rfl : kd σ = kd σ)
              have hLs110 : Lay s110 := by rw [e111]; exact hL.si
              refine x_goto (tgt := 329) (dxX12_worked_2 1 rfl) (by decide) ?_
              obtain ⟨x112, e113⟩ : ∃ y : Int32, y = l3 + 1 := ⟨_, rfl⟩
              replace h := h x112 e113
              refine x_iinc (v := x112) (dxX12_worked_5 16 rfl) (i := 3) rfl (by rw [e113]; rfl) (Nat.le_of_ble_eq_true rfl) rfl rfl ?_
              refine x_goto (tgt := 14) (dxX12_worked_5 17 rfl) (by decide) ?_
              refine x_mask [true, true, true, true, false, false] (L1 := [some (.ref 179), some (.int l1), some (.int l2), some (.int x112), none, none]) rfl ?_
              exact h
          · replace h := h.2 hc
            refine x_aload_n (i := 0) (dxX12_worked_1 16 rfl) rfl rfl ?_
            refine x_iload_n (i := 2) (dxX12_worked_1 17 rfl) rfl rfl ?_
            refine cl_12_238 (kd_179 hL) (Nat.le_of_ble_eq_true rfl) (dxX12_worked_1 18 rfl) h (fun s114 h => ?_) (Nat.le_refl _) (Nat.le_refl _)
            obtain ⟨hFs114, h⟩ := h
            have hKs114 : kd s114 = kd σ := hFs114.1.trans (rfl : kd σ = kd σ)
            have hLs114 : Lay s114 := hL.fr hFs114
            refine x_aload_n (i := 0) (dxX12_worked_1 19 rfl) rfl rfl ?_
            refine gf_12_56 (kd_179 hLs114) (rv_179_27 hLs114) (dxX12_worked_1 20 rfl) ?_
            refine x_iload_n (i := 2) (dxX12_worked_1 21 rfl) rfl rfl ?_
            refine x_iload (dxX12_worked_1 22 rfl) rfl ?_
            obtain ⟨hi116, h⟩ := h
            refine x_iast (kd_195 hLs114) hi116 (dxX12_worked_1 23 rfl) ?_
            refine x_sto (fun s117 e118 => ?_)
            replace h := h s117 e118
            have hKs117 : kd s117 = kd σ := by rw [e118]; exact hKs114
            have hLs117 : Lay s117 := by rw [e118]; exact hLs114.si
            refine x_goto (tgt := 329) (dxX12_worked_1 24 rfl) (by decide) ?_
            obtain ⟨x119, e120⟩ : ∃ y : Int32, y = l3 + 1 := ⟨_, rfl⟩
            replace h := h x119 e120
            refine x_iinc (v := x119) (dxX12_worked_5 16 rfl) (i := 3) rfl (by rw [e120]; rfl) (Nat.le_of_ble_eq_true rfl) rfl rfl ?_
            refine x_goto (tgt := 14) (dxX12_worked_5 17 rfl) (by decide) ?_
            refine x_mask [true, true, true, true, false, false] (L1 := [some (.ref 179), some (.int l1), some (.int l2), some (.int x119), none, none]) rfl ?_
            exact h
      · replace h := h.2 hc
        obtain ⟨x121, e122⟩ : ∃ y : Int32, y = l2 + 1 := ⟨_, rfl⟩
        replace h := h x121 e122
        refine x_iinc (v := x121) (dxX12_worked_0 27 rfl) (i := 2) rfl (by rw [e122]; rfl) (Nat.le_of_ble_eq_true rfl) rfl rfl ?_
        refine x_aload_n (i := 0) (dxX12_worked_0 28 rfl) rfl rfl ?_
        refine gf_12_65 (kd_179 hL) (rv_179_30 hL) (dxX12_worked_0 29 rfl) ?_
        refine x_iload_n (i := 2) (dxX12_worked_0 30 rfl) rfl rfl ?_
        refine x_iload (dxX12_worked_0 31 rfl) rfl ?_
        refine x_bipush (v := 30) (dxX12_worked_1 0 rfl) rfl ?_
        refine x_icmp_ne (tgt := 65) (dxX12_worked_1 1 rfl) (by decide) (fun hc => ?_) (fun hc => ?_)
        · replace h := h.1 hc
          refine x_iconst (v := 0) (dxX12_worked_1 4 rfl) rfl ?_
          obtain ⟨hi123, h⟩ := h
          refine x_iast (kd_198 hL) hi123 (dxX12_worked_1 5 rfl) ?_
          refine x_sto (fun s124 e125 => ?_)
          replace h := h s124 e125
          have hKs124 : kd s124 = kd σ := by rw [e125]; exact (rfl : kd σ = kd σ)
          have hLs124 : Lay s124 := by rw [e125]; exact hL.si
          refine x_aload_n (i := 0) (dxX12_worked_1 6 rfl) rfl rfl ?_
          refine x_iload_n (i := 2) (dxX12_worked_1 7 rfl) rfl rfl ?_
          refine cl_12_242 (kd_179 hLs124) (Nat.le_of_ble_eq_true rfl) (dxX12_worked_1 8 rfl) h (fun s126 h => ?_) (Nat.le_refl _) (Nat.le_refl _)
          obtain ⟨hFs126, h⟩ := h
          have hKs126 : kd s126 = kd σ := hFs126.1.trans hKs124
          have hLs126 : Lay s126 := hLs124.fr hFs126
          refine x_goto (tgt := 329) (dxX12_worked_1 9 rfl) (by decide) ?_
          obtain ⟨x128, e129⟩ : ∃ y : Int32, y = l3 + 1 := ⟨_, rfl⟩
          replace h := h x128 e129
          refine x_iinc (v := x128) (dxX12_worked_5 16 rfl) (i := 3) rfl (by rw [e129]; rfl) (Nat.le_of_ble_eq_true rfl) rfl rfl ?_
          refine x_goto (tgt := 14) (dxX12_worked_5 17 rfl) (by decide) ?_
          refine x_mask [true, true, true, true, false, false] (L1 := [some (.ref 179), some (.int l1), some (.int x121), some (.int x128), none, none]) rfl ?_
          exact h
        · replace h := h.2 hc
          refine x_iconst (v := 1) (dxX12_worked_1 2 rfl) rfl ?_
          refine x_goto (tgt := 66) (dxX12_worked_1 3 rfl) (by decide) ?_
          obtain ⟨hi130, h⟩ := h
          refine x_iast (kd_198 hL) hi130 (dxX12_worked_1 5 rfl) ?_
          refine x_sto (fun s131 e132 => ?_)
          replace h := h s131 e132
          have hKs131 : kd s131 = kd σ := by rw [e132]; exact (rfl : kd σ = kd σ)
          have hLs131 : Lay s131 := by rw [e132]; exact hL.si
          refine x_aload_n (i := 0) (dxX12_worked_1 6 rfl) rfl rfl ?_
          refine x_iload_n (i := 2) (dxX12_worked_1 7 rfl) rfl rfl ?_
          refine cl_12_242 (kd_179 hLs131) (Nat.le_of_ble_eq_true rfl) (dxX12_worked_1 8 rfl) h (fun s133 h => ?_) (Nat.le_refl _) (Nat.le_refl _)
          obtain ⟨hFs133, h⟩ := h
          have hKs133 : kd s133 = kd σ := hFs133.1.trans hKs131
          have hLs133 : Lay s133 := hLs131.fr hFs133
          refine x_goto (tgt := 329) (dxX12_worked_1 9 rfl) (by decide) ?_
          obtain ⟨x135, e136⟩ : ∃ y : Int32, y = l3 + 1 := ⟨_, rfl⟩
          replace h := h x135 e136
          refine x_iinc (v := x135) (dxX12_worked_5 16 rfl) (i := 3) rfl (by rw [e136]; rfl) (Nat.le_of_ble_eq_true rfl) rfl rfl ?_
          refine x_goto (tgt := 14) (dxX12_worked_5 17 rfl) (by decide) ?_
          refine x_mask [true, true, true, true, false, false] (L1 := [some (.ref 179), some (.int l1), some (.int x121), some (.int x135), none, none]) rfl ?_
          exact h
