theorem vcX10_isNear {g : GV} {d : Nat} {P : Int32 → PS → Prop} {σ : PS} (hL : Lay σ) (p0 : Int32) (h : (p0 < (-12) → P 0 σ) ∧ (¬ p0 < (-12) → (12 < p0 → P 0 σ) ∧ (¬ 12 < p0 → P 1 σ))) : CX10_isNear g d [.int p0] σ P := by
  refine x_entry (L := [some (.int p0)]) pn_10 (Nat.le_of_ble_eq_true rfl) ⟨0, rfl⟩ ?_
  show VX10_isNear g d P 0 [some (.int p0)] [] σ
  refine x_iload_n (i := 0) (dxX10_isNear_0 0 rfl) rfl rfl ?_
  refine x_bipush (v := (-12)) (dxX10_isNear_0 1 rfl) rfl ?_
  refine x_icmp_lt (tgt := 16) (dxX10_isNear_0 2 rfl) (by decide) (fun hc => ?_) (fun hc => ?_)
  · replace h := h.1 hc
    refine x_iconst (v := 0) (dxX10_isNear_0 8 rfl) rfl ?_
    exact x_iret (ty := .boolean) rfl rfl (dxX10_isNear_0 9 rfl) ⟨_, rfl, h⟩
  · replace h := h.2 hc
    refine x_iload_n (i := 0) (dxX10_isNear_0 3 rfl) rfl rfl ?_
    refine x_bipush (v := 12) (dxX10_isNear_0 4 rfl) rfl ?_
    refine x_icmp_gt (tgt := 16) (dxX10_isNear_0 5 rfl) (by decide) (fun hc => ?_) (fun hc => ?_)
    · replace h := h.1 hc
      refine x_iconst (v := 0) (dxX10_isNear_0 8 rfl) rfl ?_
      exact x_iret (ty := .boolean) rfl rfl (dxX10_isNear_0 9 rfl) ⟨_, rfl, h⟩
    · replace h := h.2 hc
      refine x_iconst (v := 1) (dxX10_isNear_0 6 rfl) rfl ?_
      refine x_goto (tgt := 17) (dxX10_isNear_0 7 rfl) (by decide) ?_
      exact x_iret (ty := .boolean) rfl rfl (dxX10_isNear_0 9 rfl) ⟨_, rfl, h⟩
theorem vcX10_go {g : GV} {d : Nat} {P : Int32 → PS → Prop} {σ : PS} (hL : Lay σ) (p0 : Int32) (p1 : Int32) (p2 : Int32) (h : ∀ x1 : Int32, x1 = jabs p1 → ∀ x3 : Int32, x3 = jabs p2 → (p1 ≤ 0 → VX10_go g (d + 1) P 21 [some (.ref 144), some (.int p0), none, some (.int p2), some (.int x1), some (.int x3), none, none, none, none, none, none, none] [.int 3] σ) ∧ (¬ p1 ≤ 0 → VX10_go g (d + 1) P 21 [some (.ref 144), some (.int p0), none, some (.int p2), some (.int x1), some (.int x3), none, none, none, none, none, none, none] [.int 1] σ)) : CX10_go g (d + 1) [.ref 144, .int p0, .int p1, .int p2] σ P := by
  refine x_entry (L := [some (.ref 144), some (.int p0), some (.int p1), some (.int p2), none, none, none, none, none, none, none, none, none]) pn_10 (Nat.le_of_ble_eq_true rfl) ⟨9, rfl⟩ ?_
  show VX10_go g (d + 1) P 0 [some (.ref 144), some (.int p0), some (.int p1), some (.int p2), none, none, none, none, none, none, none, none, none] [] σ
  refine x_iload_n (i := 2) (dxX10_go_0 0 rfl) rfl rfl ?_
  refine cl_10_32 (Nat.le_of_ble_eq_true rfl) (dxX10_go_0 1 rfl) ?_
  refine x_topi (fun x1 e2 => ?_)
  replace h := h x1 e2
  refine x_istore (dxX10_go_0 2 rfl) (Nat.le_of_ble_eq_true rfl) rfl rfl ?_
  refine x_iload_n (i := 3) (dxX10_go_0 3 rfl) rfl rfl ?_
  refine cl_10_32 (Nat.le_of_ble_eq_true rfl) (dxX10_go_0 4 rfl) ?_
  refine x_topi (fun x3 e4 => ?_)
  replace h := h x3 e4
  refine x_istore (dxX10_go_0 5 rfl) (Nat.le_of_ble_eq_true rfl) rfl rfl ?_
  refine x_iload_n (i := 2) (dxX10_go_0 6 rfl) rfl rfl ?_
  refine x_if_le (tgt := 20) (dxX10_go_0 7 rfl) (by decide) (fun hc => ?_) (fun hc => ?_)
  · replace h := h.1 hc
    refine x_iconst (v := 3) (dxX10_go_0 10 rfl) rfl ?_
    refine x_mask [true, true, false, true, true, true, false, false, false, false, false, false, false] (L1 := [some (.ref 144), some (.int p0), none, some (.int p2), some (.int x1), some (.int x3), none, none, none, none, none, none, none]) rfl ?_
    exact h
  · replace h := h.2 hc
    refine x_iconst (v := 1) (dxX10_go_0 8 rfl) rfl ?_
    refine x_goto (tgt := 21) (dxX10_go_0 9 rfl) (by decide) ?_
    refine x_mask [true, true, false, true, true, true, false, false, false, false, false, false, false] (L1 := [some (.ref 144), some (.int p0), none, some (.int p2), some (.int x1), some (.int x3), none, none, none, none, none, none, none]) rfl ?_
    exact h
theorem vcX10_go_21 {g : GV} {d : Nat} {P : Int32 → PS → Prop} {σ : PS} (hL : Lay σ) (l1 : Int32) (l3 : Int32) (l4 : Int32) (l5 : Int32) (t0 : Int32) (h : (l3 ≤ 0 → (¬ t0 = 1 → ∀ x5 : Int32, x5 = 3 - (0 / 2) → ∀ s7 : PS, s7 = si σ 144 1 l1 → ∀ s9 : PS, s9 = si s7 144 2 0 → VX10_go g (d + 1) P 74 [some (.ref 144), none, none, none, some (.int l4), some (.int l5), some (.int t0), some (.int 0), some (.int x5), some (.int 0), some (.int 0), some (.int 0), none] [] s9) ∧ (t0 = 1 → ∀ x11 : Int32, x11 = 0 / 2 → ∀ s13 : PS, s13 = si σ 144 1 l1 → ∀ s15 : PS, s15 = si s13 144 2 0 → VX10_go g (d + 1) P 74 [some (.ref 144), none, none, none, some (.int l4), some (.int l5), some (.int t0), some (.int 0), some (.int x11), some (.int 0), some (.int 0), some (.int 0), none] [] s15)) ∧ (¬ l3 ≤ 0 → (¬ t0 = 1 → ∀ x17 : Int32, x17 = 3 - (2 / 2) → ∀ s19 : PS, s19 = si σ 144 1 l1 → ∀ s21 : PS, s21 = si s19 144 2 0 → VX10_go g (d + 1) P 74 [some (.ref 144), none, none, none, some (.int l4), some (.int l5), some (.int t0), some (.int 2), some (.int x17), some (.int 0), some (.int 0), some (.int 0), none] [] s21) ∧ (t0 = 1 → ∀ x23 : Int32, x23 = 2 / 2 → ∀ s25 : PS, s25 = si σ 144 1 l1 → ∀ s27 : PS, s27 = si s25 144 2 0 → VX10_go g (d + 1) P 74 [some (.ref 144), none, none, none, some (.int l4), some (.int l5), some (.int t0), some (.int 2), some (.int x23), some (.int 0), some (.int 0), some (.int 0), none] [] s27))) : VX10_go g (d + 1) P 21 [some (.ref 144), some (.int l1), none, some (.int l3), some (.int l4), some (.int l5), none, none, none, none, none, none, none] [.int t0] σ := by
  refine x_istore (dxX10_go_0 11 rfl) (Nat.le_of_ble_eq_true rfl) rfl rfl ?_
  refine x_iload_n (i := 3) (dxX10_go_0 12 rfl) rfl rfl ?_
  refine x_if_le (tgt := 31) (dxX10_go_0 13 rfl) (by decide) (fun hc => ?_) (fun hc => ?_)
  · replace h := h.1 hc
    refine x_iconst (v := 0) (dxX10_go_0 16 rfl) rfl ?_
    refine x_istore (dxX10_go_0 17 rfl) (Nat.le_of_ble_eq_true rfl) rfl rfl ?_
    refine x_iload (dxX10_go_0 18 rfl) rfl ?_
    refine x_iconst (v := 1) (dxX10_go_0 19 rfl) rfl ?_
    refine x_icmp_ne (tgt := 47) (dxX10_go_0 20 rfl) (by decide) (fun hc => ?_) (fun hc => ?_)
    · replace h := h.1 hc
      refine x_iconst (v := 3) (dxX10_go_0 25 rfl) rfl ?_
      refine x_iload (dxX10_go_0 26 rfl) rfl ?_
      refine x_iconst (v := 2) (dxX10_go_0 27 rfl) rfl ?_
      refine x_idiv (dxX10_go_0 28 rfl) (by decide) ?_
      refine x_isub (dxX10_go_0 29 rfl) ?_
      refine x_topi (fun x5 e6 => ?_)
      replace h := h x5 e6
      refine x_istore (dxX10_go_0 30 rfl) (Nat.le_of_ble_eq_true rfl) rfl rfl ?_
      refine x_iconst (v := 0) (dxX10_go_0 31 rfl) rfl ?_
      refine x_istore (dxX10_go_1 0 rfl) (Nat.le_of_ble_eq_true rfl) rfl rfl ?_
      refine x_iconst (v := 0) (dxX10_go_1 1 rfl) rfl ?_
      refine x_istore (dxX10_go_1 2 rfl) (Nat.le_of_ble_eq_true rfl) rfl rfl ?_
      refine x_aload_n (i := 0) (dxX10_go_1 3 rfl) rfl rfl ?_
      refine x_iload_n (i := 1) (dxX10_go_1 4 rfl) rfl rfl ?_
      refine pf_10_38 (kd_144 hL) (dxX10_go_1 5 rfl) ?_
      refine x_sto (fun s7 e8 => ?_)
      replace h := h s7 e8
      have hKs7 : kd s7 = kd σ := by rw [e8]; exact (rfl : kd σ = kd σ)
      have hLs7 : Lay s7 := by rw [e8]; exact hL.si
      refine x_aload_n (i := 0) (dxX10_go_1 6 rfl) rfl rfl ?_
      refine x_iconst (v := 0) (dxX10_go_1 7 rfl) rfl ?_
      refine pf_10_41 (kd_144 hLs7) (dxX10_go_1 8 rfl) ?_
      refine x_sto (fun s9 e10 => ?_)
      replace h := h s9 e10
      have hKs9 : kd s9 = kd σ := by rw [e10]; exact hKs7
      have hLs9 : Lay s9 := by rw [e10]; exact hLs7.si
      refine x_iconst (v := 0) (dxX10_go_1 9 rfl) rfl ?_
      refine x_istore (dxX10_go_1 10 rfl) (Nat.le_of_ble_eq_true rfl) rfl rfl ?_
      refine x_mask [true, false, false, false, true, true, true, true, true, true, true, true, false] (L1 := [some (.ref 144), none, none, none, some (.int l4), some (.int l5), some (.int t0), some (.int 0), some (.int x5), some (.int 0), some (.int 0), some (.int 0), none]) rfl ?_
      exact h
    · replace h := h.2 hc
      refine x_iload (dxX10_go_0 21 rfl) rfl ?_
      refine x_iconst (v := 2) (dxX10_go_0 22 rfl) rfl ?_
      refine x_idiv (dxX10_go_0 23 rfl) (by decide) ?_
      refine x_goto (tgt := 53) (dxX10_go_0 24 rfl) (by decide) ?_
      refine x_topi (fun x11 e12 => ?_)
      replace h := h x11 e12
      refine x_istore (dxX10_go_0 30 rfl) (Nat.le_of_ble_eq_true rfl) rfl rfl ?_
      refine x_iconst (v := 0) (dxX10_go_0 31 rfl) rfl ?_
      refine x_istore (dxX10_go_1 0 rfl) (Nat.le_of_ble_eq_true rfl) rfl rfl ?_
      refine x_iconst (v := 0) (dxX10_go_1 1 rfl) rfl ?_
      refine x_istore (dxX10_go_1 2 rfl) (Nat.le_of_ble_eq_true rfl) rfl rfl ?_
      refine x_aload_n (i := 0) (dxX10_go_1 3 rfl) rfl rfl ?_
      refine x_iload_n (i := 1) (dxX10_go_1 4 rfl) rfl rfl ?_
      refine pf_10_38 (kd_144 hL) (dxX10_go_1 5 rfl) ?_
      refine x_sto (fun s13 e14 => ?_)
      replace h := h s13 e14
      have hKs13 : kd s13 = kd σ := by rw [e14]; exact (rfl : kd σ = kd σ)
      have hLs13 : Lay s13 := by rw [e14]; exact hL.si
      refine x_aload_n (i := 0) (dxX10_go_1 6 rfl) rfl rfl ?_
      refine x_iconst (v := 0) (dxX10_go_1 7 rfl) rfl ?_
      refine pf_10_41 (kd_144 hLs13) (dxX10_go_1 8 rfl) ?_
      refine x_sto (fun s15 e16 => ?_)
      replace h := h s15 e16
      have hKs15 : kd s15 = kd σ := by rw [e16]; exact hKs13
      have hLs15 : Lay s15 := by rw [e16]; exact hLs13.si
      refine x_iconst (v := 0) (dxX10_go_1 9 rfl) rfl ?_
      refine x_istore (dxX10_go_1 10 rfl) (Nat.le_of_ble_eq_true rfl) rfl rfl ?_
      refine x_mask [true, false, false, false, true, true, true, true, true, true, true, true, false] (L1 := [some (.ref 144), none, none, none, some (.int l4), some (.int l5), some (.int t0), some (.int 0), some (.int x11), some (.int 0), some (.int 0), some (.int 0), none]) rfl ?_
      exact h
  · replace h := h.2 hc
    refine x_iconst (v := 2) (dxX10_go_0 14 rfl) rfl ?_
    refine x_goto (tgt := 32) (dxX10_go_0 15 rfl) (by decide) ?_
    refine x_istore (dxX10_go_0 17 rfl) (Nat.le_of_ble_eq_true rfl) rfl rfl ?_
    refine x_iload (dxX10_go_0 18 rfl) rfl ?_
    refine x_iconst (v := 1) (dxX10_go_0 19 rfl) rfl ?_
    refine x_icmp_ne (tgt := 47) (dxX10_go_0 20 rfl) (by decide) (fun hc => ?_) (fun hc => ?_)
    · replace h := h.1 hc
      refine x_iconst (v := 3) (dxX10_go_0 25 rfl) rfl ?_
      refine x_iload (dxX10_go_0 26 rfl) rfl ?_
      refine x_iconst (v := 2) (dxX10_go_0 27 rfl) rfl ?_
      refine x_idiv (dxX10_go_0 28 rfl) (by decide) ?_
      refine x_isub (dxX10_go_0 29 rfl) ?_
      refine x_topi (fun x17 e18 => ?_)
      replace h := h x17 e18
      refine x_istore (dxX10_go_0 30 rfl) (Nat.le_of_ble_eq_true rfl) rfl rfl ?_
      refine x_iconst (v := 0) (dxX10_go_0 31 rfl) rfl ?_
      refine x_istore (dxX10_go_1 0 rfl) (Nat.le_of_ble_eq_true rfl) rfl rfl ?_
      refine x_iconst (v := 0) (dxX10_go_1 1 rfl) rfl ?_
      refine x_istore (dxX10_go_1 2 rfl) (Nat.le_of_ble_eq_true rfl) rfl rfl ?_
      refine x_aload_n (i := 0) (dxX10_go_1 3 rfl) rfl rfl ?_
      refine x_iload_n (i := 1) (dxX10_go_1 4 rfl) rfl rfl ?_
      refine pf_10_38 (kd_144 hL) (dxX10_go_1 5 rfl) ?_
      refine x_sto (fun s19 e20 => ?_)
      replace h := h s19 e20
      have hKs19 : kd s19 = kd σ := by rw [e20]; exact (rfl : kd σ = kd σ)
      have hLs19 : Lay s19 := by rw [e20]; exact hL.si
      refine x_aload_n (i := 0) (dxX10_go_1 6 rfl) rfl rfl ?_
      refine x_iconst (v := 0) (dxX10_go_1 7 rfl) rfl ?_
      refine pf_10_41 (kd_144 hLs19) (dxX10_go_1 8 rfl) ?_
      refine x_sto (fun s21 e22 => ?_)
      replace h := h s21 e22
      have hKs21 : kd s21 = kd σ := by rw [e22]; exact hKs19
      have hLs21 : Lay s21 := by rw [e22]; exact hLs19.si
      refine x_iconst (v := 0) (dxX10_go_1 9 rfl) rfl ?_
      refine x_istore (dxX10_go_1 10 rfl) (Nat.le_of_ble_eq_true rfl) rfl rfl ?_
      refine x_mask [true, false, false, false, true, true, true, true, true, true, true, true, false] (L1 := [some (.ref 144), none, none, none, some (.int l4), some (.int l5), some (.int t0), some (.int 2), some (.int x17), some (.int 0), some (.int 0), some (.int 0), none]) rfl ?_
      exact h
    · replace h := h.2 hc
      refine x_iload (dxX10_go_0 21 rfl) rfl ?_
      refine x_iconst (v := 2) (dxX10_go_0 22 rfl) rfl ?_
      refine x_idiv (dxX10_go_0 23 rfl) (by decide) ?_
      refine x_goto (tgt := 53) (dxX10_go_0 24 rfl) (by decide) ?_
      refine x_topi (fun x23 e24 => ?_)
      replace h := h x23 e24
      refine x_istore (dxX10_go_0 30 rfl) (Nat.le_of_ble_eq_true rfl) rfl rfl ?_
      refine x_iconst (v := 0) (dxX10_go_0 31 rfl) rfl ?_
      refine x_istore (dxX10_go_1 0 rfl) (Nat.le_of_ble_eq_true rfl) rfl rfl ?_
      refine x_iconst (v := 0) (dxX10_go_1 1 rfl) rfl ?_
      refine x_istore (dxX10_go_1 2 rfl) (Nat.le_of_ble_eq_true rfl) rfl rfl ?_
      refine x_aload_n (i := 0) (dxX10_go_1 3 rfl) rfl rfl ?_
      refine x_iload_n (i := 1) (dxX10_go_1 4 rfl) rfl rfl ?_
      refine pf_10_38 (kd_144 hL) (dxX10_go_1 5 rfl) ?_
      refine x_sto (fun s25 e26 => ?_)
      replace h := h s25 e26
      have hKs25 : kd s25 = kd σ := by rw [e26]; exact (rfl : kd σ = kd σ)
      have hLs25 : Lay s25 := by rw [e26]; exact hL.si
      refine x_aload_n (i := 0) (dxX10_go_1 6 rfl) rfl rfl ?_
      refine x_iconst (v := 0) (dxX10_go_1 7 rfl) rfl ?_
      refine pf_10_41 (kd_144 hLs25) (dxX10_go_1 8 rfl) ?_
      refine x_sto (fun s27 e28 => ?_)
      replace h := h s27 e28
      have hKs27 : kd s27 = kd σ := by rw [e28]; exact hKs25
      have hLs27 : Lay s27 := by rw [e28]; exact hLs25.si
      refine x_iconst (v := 0) (dxX10_go_1 9 rfl) rfl ?_
      refine x_istore (dxX10_go_1 10 rfl) (Nat.le_of_ble_eq_true rfl) rfl rfl ?_
      refine x_mask [true, false, false, false, true, true, true, true, true, true, true, true, false] (L1 := [some (.ref 144), none, none, none, some (.int l4), some (.int l5), some (.int t0), some (.int 2), some (.int x23), some (.int 0), some (.int 0), some (.int 0), none]) rfl ?_
      exact h
theorem vcX10_go_74 {g : GV} {d : Nat} {P : Int32 → PS → Prop} {σ : PS} (hL : Lay σ) (l4 : Int32) (l5 : Int32) (l6 : Int32) (l7 : Int32) (l8 : Int32) (l9 : Int32) (l10 : Int32) (l11 : Int32) (h : (24 ≤ l11 → P 1 σ) ∧ (¬ 24 ≤ l11 → (l9 < l4 → VX10_go g (d + 1) P 95 [some (.ref 144), none, none, none, some (.int l4), some (.int l5), some (.int l6), some (.int l7), some (.int l8), some (.int l9), some (.int l10), some (.int l11), none] [] σ) ∧ (¬ l9 < l4 → (l5 ≤ l10 → P 1 σ) ∧ (¬ l5 ≤ l10 → VX10_go g (d + 1) P 95 [some (.ref 144), none, none, none, some (.int l4), some (.int l5), some (.int l6), some (.int l7), some (.int l8), some (.int l9), some (.int l10), some (.int l11), none] [] σ)))) : VX10_go g (d + 1) P 74 [some (.ref 144), none, none, none, some (.int l4), some (.int l5), some (.int l6), some (.int l7), some (.int l8), some (.int l9), some (.int l10), some (.int l11), none] [] σ := by
  refine x_iload (dxX10_go_1 11 rfl) rfl ?_
  refine x_bipush (v := 24) (dxX10_go_1 12 rfl) rfl ?_
  refine x_icmp_ge (tgt := 204) (dxX10_go_1 13 rfl) (by decide) (fun hc => ?_) (fun hc => ?_)
  · replace h := h.1 hc
    refine x_iconst (v := 1) (dxX10_go_3 15 rfl) rfl ?_
    exact x_iret (ty := .boolean) rfl rfl (dxX10_go_3 16 rfl) ⟨_, rfl, h⟩
  · replace h := h.2 hc
    refine x_iload (dxX10_go_1 14 rfl) rfl ?_
    refine x_iload (dxX10_go_1 15 rfl) rfl ?_
    refine x_icmp_lt (tgt := 95) (dxX10_go_1 16 rfl) (by decide) (fun hc => ?_) (fun hc => ?_)
    · replace h := h.1 hc
      exact h
    · replace h := h.2 hc
      refine x_iload (dxX10_go_1 17 rfl) rfl ?_
      refine x_iload (dxX10_go_1 18 rfl) rfl ?_
      refine x_icmp_ge (tgt := 204) (dxX10_go_1 19 rfl) (by decide) (fun hc => ?_) (fun hc => ?_)
      · replace h := h.1 hc
        refine x_iconst (v := 1) (dxX10_go_3 15 rfl) rfl ?_
        exact x_iret (ty := .boolean) rfl rfl (dxX10_go_3 16 rfl) ⟨_, rfl, h⟩
      · replace h := h.2 hc
        exact h
theorem vcX10_go_95 {g : GV} {d : Nat} {P : Int32 → PS → Prop} {σ : PS} (hL : Lay σ) (l4 : Int32) (l5 : Int32) (l6 : Int32) (l7 : Int32) (l8 : Int32) (l9 : Int32) (l10 : Int32) (l11 : Int32) (h : ∀ x29 : Int32, x29 = (((2 * l9) + 1) * l5) - (((2 * l10) + 1) * l4) → (¬ x29 = 0 → (0 ≤ x29 → CX10_cross g d [.ref 144, .int l7] σ (fun (s31 : PS) => Fr σ s31 ∧ ∀ x33 : Int32, x33 = l10 + 1 → ∀ x35 : Int32, x35 = l11 + 1 → VX10_go g (d + 1) P 74 [some (.ref 144), none, none, none, some (.int l4), some (.int l5), some (.int l6), some (.int l7), some (.int l8), some (.int l9), some (.int x33), some (.int x35), none] [] s31)) ∧ (¬ 0 ≤ x29 → CX10_cross g d [.ref 144, .int l6] σ (fun (s37 : PS) => Fr σ s37 ∧ ∀ x39 : Int32, x39 = l9 + 1 → ∀ x41 : Int32, x41 = l11 + 1 → VX10_go g (d + 1) P 74 [some (.ref 144), none, none, none, some (.int l4), some (.int l5), some (.int l6), some (.int l7), some (.int l8), some (.int x39), some (.int l10), some (.int x41), none] [] s37))) ∧ (x29 = 0 → vp_in (((mi σ 144 1) * 4) + (jrem (l8 + (mi σ 144 2)) 4)) 40 ∧ ((mi σ 132 (Int32.toNatClampNeg (((mi σ 144 1) * 4) + (jrem (l8 + (mi σ 144 2)) 4)))) = 4 → CX10_cross g d [.ref 144, .int l6] σ (fun (s44 : PS) => Fr σ s44 ∧ CX10_cross g d [.ref 144, .int l7] s44 (fun (s46 : PS) => Fr s44 s46 ∧ ∀ x48 : Int32, x48 = l9 + 1 → ∀ x50 : Int32, x50 = l10 + 1 → ∀ x52 : Int32, x52 = l11 + 1 → VX10_go g (d + 1) P 74 [some (.ref 144), none, none, none, some (.int l4), some (.int l5), some (.int l6), some (.int l7), some (.int l8), some (.int x48), some (.int x50), some (.int x52), none] [] s46))) ∧ (¬ (mi σ 132 (Int32.toNatClampNeg (((mi σ 144 1) * 4) + (jrem (l8 + (mi σ 144 2)) 4)))) = 4 → P 0 σ))) : VX10_go g (d + 1) P 95 [some (.ref 144), none, none, none, some (.int l4), some (.int l5), some (.int l6), some (.int l7), some (.int l8), some (.int l9), some (.int l10), some (.int l11), none] [] σ := by
  refine x_iconst (v := 2) (dxX10_go_1 20 rfl) rfl ?_
  refine x_iload (dxX10_go_1 21 rfl) rfl ?_
  refine x_imul (dxX10_go_1 22 rfl) ?_
  refine x_iconst (v := 1) (dxX10_go_1 23 rfl) rfl ?_
  refine x_iadd (dxX10_go_1 24 rfl) ?_
  refine x_iload (dxX10_go_1 25 rfl) rfl ?_
  refine x_imul (dxX10_go_1 26 rfl) ?_
  refine x_iconst (v := 2) (dxX10_go_1 27 rfl) rfl ?_
  refine x_iload (dxX10_go_1 28 rfl) rfl ?_
  refine x_imul (dxX10_go_1 29 rfl) ?_
  refine x_iconst (v := 1) (dxX10_go_1 30 rfl) rfl ?_
  refine x_iadd (dxX10_go_1 31 rfl) ?_
  refine x_iload (dxX10_go_2 0 rfl) rfl ?_
  refine x_imul (dxX10_go_2 1 rfl) ?_
  refine x_isub (dxX10_go_2 2 rfl) ?_
  refine x_topi (fun x29 e30 => ?_)
  replace h := h x29 e30
  refine x_istore (dxX10_go_2 3 rfl) (Nat.le_of_ble_eq_true rfl) rfl rfl ?_
  refine x_iload (dxX10_go_2 4 rfl) rfl ?_
  refine x_if_ne (tgt := 172) (dxX10_go_2 5 rfl) (by decide) (fun hc => ?_) (fun hc => ?_)
  · replace h := h.1 hc
    refine x_iload (dxX10_go_3 2 rfl) rfl ?_
    refine x_if_ge (tgt := 189) (dxX10_go_3 3 rfl) (by decide) (fun hc => ?_) (fun hc => ?_)
    · replace h := h.1 hc
      refine x_aload_n (i := 0) (dxX10_go_3 9 rfl) rfl rfl ?_
      refine x_iload (dxX10_go_3 10 rfl) rfl ?_
      refine cl_10_49 (kd_144 hL) (Nat.le_of_ble_eq_true rfl) (dxX10_go_3 11 rfl) h (fun s31 h => ?_) (Nat.le_refl _) (Nat.le_refl _)
      obtain ⟨hFs31, h⟩ := h
      have hKs31 : kd s31 = kd σ := hFs31.1.trans (rfl : kd σ = kd σ)
      have hLs31 : Lay s31 := hL.fr hFs31
      obtain ⟨x33, e34⟩ : ∃ y : Int32, y = l10 + 1 := ⟨_, rfl⟩
      replace h := h x33 e34
      refine x_iinc (v := x33) (dxX10_go_3 12 rfl) (i := 10) rfl (by rw [e34]; rfl) (Nat.le_of_ble_eq_true rfl) rfl rfl ?_
      obtain ⟨x35, e36⟩ : ∃ y : Int32, y = l11 + 1 := ⟨_, rfl⟩
      replace h := h x35 e36
      refine x_iinc (v := x35) (dxX10_go_3 13 rfl) (i := 11) rfl (by rw [e36]; rfl) (Nat.le_of_ble_eq_true rfl) rfl rfl ?_
      refine x_goto (tgt := 74) (dxX10_go_3 14 rfl) (by decide) ?_
      refine x_mask [true, false, false, false, true, true, true, true, true, true, true, true, false] (L1 := [some (.ref 144), none, none, none, some (.int l4), some (.int l5), some (.int l6), some (.int l7), some (.int l8), some (.int l9), some (.int x33), some (.int x35), none]) rfl ?_
      exact h
    · replace h := h.2 hc
      refine x_aload_n (i := 0) (dxX10_go_3 4 rfl) rfl rfl ?_
      refine x_iload (dxX10_go_3 5 rfl) rfl ?_
      refine cl_10_49 (kd_144 hL) (Nat.le_of_ble_eq_true rfl) (dxX10_go_3 6 rfl) h (fun s37 h => ?_) (Nat.le_refl _) (Nat.le_refl _)
      obtain ⟨hFs37, h⟩ := h
      have hKs37 : kd s37 = kd σ := hFs37.1.trans (rfl : kd σ = kd σ)
      have hLs37 : Lay s37 := hL.fr hFs37
      obtain ⟨x39, e40⟩ : ∃ y : Int32, y = l9 + 1 := ⟨_, rfl⟩
      replace h := h x39 e40
      refine x_iinc (v := x39) (dxX10_go_3 7 rfl) (i := 9) rfl (by rw [e40]; rfl) (Nat.le_of_ble_eq_true rfl) rfl rfl ?_
      refine x_goto (tgt := 198) (dxX10_go_3 8 rfl) (by decide) ?_
      obtain ⟨x41, e42⟩ : ∃ y : Int32, y = l11 + 1 := ⟨_, rfl⟩
      replace h := h x41 e42
      refine x_iinc (v := x41) (dxX10_go_3 13 rfl) (i := 11) rfl (by rw [e42]; rfl) (Nat.le_of_ble_eq_true rfl) rfl rfl ?_
      refine x_goto (tgt := 74) (dxX10_go_3 14 rfl) (by decide) ?_
      refine x_mask [true, false, false, false, true, true, true, true, true, true, true, true, false] (L1 := [some (.ref 144), none, none, none, some (.int l4), some (.int l5), some (.int l6), some (.int l7), some (.int l8), some (.int x39), some (.int l10), some (.int x41), none]) rfl ?_
      exact h
  · replace h := h.2 hc
    refine x_aload_n (i := 0) (dxX10_go_2 6 rfl) rfl rfl ?_
    refine gf_10_28 (kd_144 hL) (rv_144_0 hL) (dxX10_go_2 7 rfl) ?_
    refine gf_10_44 (kd_129 hL) (rv_129_3 hL) (dxX10_go_2 8 rfl) ?_
    refine x_aload_n (i := 0) (dxX10_go_2 9 rfl) rfl rfl ?_
    refine gf_10_38 (kd_144 hL) rfl (dxX10_go_2 10 rfl) ?_
    refine x_iconst (v := 4) (dxX10_go_2 11 rfl) rfl ?_
    refine x_imul (dxX10_go_2 12 rfl) ?_
    refine x_iload (dxX10_go_2 13 rfl) rfl ?_
    refine x_aload_n (i := 0) (dxX10_go_2 14 rfl) rfl rfl ?_
    refine gf_10_41 (kd_144 hL) rfl (dxX10_go_2 15 rfl) ?_
    refine x_iadd (dxX10_go_2 16 rfl) ?_
    refine x_iconst (v := 4) (dxX10_go_2 17 rfl) rfl ?_
    refine x_irem (dxX10_go_2 18 rfl) (by decide) ?_
    refine x_iadd (dxX10_go_2 19 rfl) ?_
    obtain ⟨hi43, h⟩ := h
    refine x_iald (kd_132 hL) hi43 (dxX10_go_2 20 rfl) ?_
    refine x_iconst (v := 4) (dxX10_go_2 21 rfl) rfl ?_
    refine x_icmp_eq (tgt := 151) (dxX10_go_2 22 rfl) (by decide) (fun hc => ?_) (fun hc => ?_)
    · replace h := h.1 hc
      refine x_aload_n (i := 0) (dxX10_go_2 25 rfl) rfl rfl ?_
      refine x_iload (dxX10_go_2 26 rfl) rfl ?_
      refine cl_10_49 (kd_144 hL) (Nat.le_of_ble_eq_true rfl) (dxX10_go_2 27 rfl) h (fun s44 h => ?_) (Nat.le_refl _) (Nat.le_refl _)
      obtain ⟨hFs44, h⟩ := h
      have hKs44 : kd s44 = kd σ := hFs44.1.trans (rfl : kd σ = kd σ)
      have hLs44 : Lay s44 := hL.fr hFs44
      refine x_aload_n (i := 0) (dxX10_go_2 28 rfl) rfl rfl ?_
      refine x_iload (dxX10_go_2 29 rfl) rfl ?_
      refine cl_10_49 (kd_144 hLs44) (Nat.le_of_ble_eq_true rfl) (dxX10_go_2 30 rfl) h (fun s46 h => ?_) (Nat.le_refl _) (Nat.le_refl _)
      obtain ⟨hFs46, h⟩ := h
      have hKs46 : kd s46 = kd σ := hFs46.1.trans hKs44
      have hLs46 : Lay s46 := hLs44.fr hFs46
      obtain ⟨x48, e49⟩ : ∃ y : Int32, y = l9 + 1 := ⟨_, rfl⟩
      replace h := h x48 e49
      refine x_iinc (v := x48) (dxX10_go_2 31 rfl) (i := 9) rfl (by rw [e49]; rfl) (Nat.le_of_ble_eq_true rfl) rfl rfl ?_
      obtain ⟨x50, e51⟩ : ∃ y : Int32, y = l10 + 1 := ⟨_, rfl⟩
      replace h := h x50 e51
      refine x_iinc (v := x50) (dxX10_go_3 0 rfl) (i := 10) rfl (by rw [e51]; rfl) (Nat.le_of_ble_eq_true rfl) rfl rfl ?_
      refine x_goto (tgt := 198) (dxX10_go_3 1 rfl) (by decide) ?_
      obtain ⟨x52, e53⟩ : ∃ y : Int32, y = l11 + 1 := ⟨_, rfl⟩
      replace h := h x52 e53
      refine x_iinc (v := x52) (dxX10_go_3 13 rfl) (i := 11) rfl (by rw [e53]; rfl) (Nat.le_of_ble_eq_true rfl) rfl rfl ?_
      refine x_goto (tgt := 74) (dxX10_go_3 14 rfl) (by decide) ?_
      refine x_mask [true, false, false, false, true, true, true, true, true, true, true, true, false] (L1 := [some (.ref 144), none, none, none, some (.int l4), some (.int l5), some (.int l6), some (.int l7), some (.int l8), some (.int x48), some (.int x50), some (.int x52), none]) rfl ?_
      exact h
    · replace h := h.2 hc
      refine x_iconst (v := 0) (dxX10_go_2 23 rfl) rfl ?_
      exact x_iret (ty := .boolean) rfl rfl (dxX10_go_2 24 rfl) ⟨_, rfl, h⟩
theorem vcX10_cross {g : GV} {d : Nat} {P : PS → Prop} {σ : PS} (hL : Lay σ) (p0 : Int32) (h : ∀ x1 : Int32, x1 = ((mi σ 144 1) * 4) + (jrem (p0 + (mi σ 144 2)) 4) → vp_in x1 40 ∧ ∀ s4 : PS, s4 = si σ 144 1 (mi σ 130 (Int32.toNatClampNeg x1)) → vp_in x1 40 ∧ ∀ s7 : PS, s7 = si s4 144 2 (jrem (((mi s4 131 (Int32.toNatClampNeg x1)) + 6) - p0) 4) → P s7) : CX10_cross g d [.ref 144, .int p0] σ P := by
  refine x_entry (L := [some (.ref 144), some (.int p0), none]) pn_10 (Nat.le_of_ble_eq_true rfl) ⟨1, rfl⟩ ?_
  show VX10_cross g d P 0 [some (.ref 144), some (.int p0), none] [] σ
  refine x_aload_n (i := 0) (dxX10_cross_0 0 rfl) rfl rfl ?_
  refine gf_10_38 (kd_144 hL) rfl (dxX10_cross_0 1 rfl) ?_
  refine x_iconst (v := 4) (dxX10_cross_0 2 rfl) rfl ?_
  refine x_imul (dxX10_cross_0 3 rfl) ?_
  refine x_iload_n (i := 1) (dxX10_cross_0 4 rfl) rfl rfl ?_
  refine x_aload_n (i := 0) (dxX10_cross_0 5 rfl) rfl rfl ?_
  refine gf_10_41 (kd_144 hL) rfl (dxX10_cross_0 6 rfl) ?_
  refine x_iadd (dxX10_cross_0 7 rfl) ?_
  refine x_iconst (v := 4) (dxX10_cross_0 8 rfl) rfl ?_
  refine x_irem (dxX10_cross_0 9 rfl) (by decide) ?_
  refine x_iadd (dxX10_cross_0 10 rfl) ?_
  refine x_topi (fun x1 e2 => ?_)
  replace h := h x1 e2
  refine x_istore_n (i := 2) (dxX10_cross_0 11 rfl) rfl (Nat.le_of_ble_eq_true rfl) rfl rfl ?_
  refine x_aload_n (i := 0) (dxX10_cross_0 12 rfl) rfl rfl ?_
  refine x_aload_n (i := 0) (dxX10_cross_0 13 rfl) rfl rfl ?_
  refine gf_10_28 (kd_144 hL) (rv_144_0 hL) (dxX10_cross_0 14 rfl) ?_
  refine gf_10_53 (kd_129 hL) (rv_129_1 hL) (dxX10_cross_0 15 rfl) ?_
  refine x_iload_n (i := 2) (dxX10_cross_0 16 rfl) rfl rfl ?_
  obtain ⟨hi3, h⟩ := h
  refine x_iald (kd_130 hL) hi3 (dxX10_cross_0 17 rfl) ?_
  refine pf_10_38 (kd_144 hL) (dxX10_cross_0 18 rfl) ?_
  refine x_sto (fun s4 e5 => ?_)
  replace h := h s4 e5
  have hKs4 : kd s4 = kd σ := by rw [e5]; exact (rfl : kd σ = kd σ)
  have hLs4 : Lay s4 := by rw [e5]; exact hL.si
  refine x_aload_n (i := 0) (dxX10_cross_0 19 rfl) rfl rfl ?_
  refine x_aload_n (i := 0) (dxX10_cross_0 20 rfl) rfl rfl ?_
  refine gf_10_28 (kd_144 hLs4) (rv_144_0 hLs4) (dxX10_cross_0 21 rfl) ?_
  refine gf_10_56 (kd_129 hLs4) (rv_129_2 hLs4) (dxX10_cross_0 22 rfl) ?_
  refine x_iload_n (i := 2) (dxX10_cross_0 23 rfl) rfl rfl ?_
  obtain ⟨hi6, h⟩ := h
  refine x_iald (kd_131 hLs4) hi6 (dxX10_cross_0 24 rfl) ?_
  refine x_bipush (v := 6) (dxX10_cross_0 25 rfl) rfl ?_
  refine x_iadd (dxX10_cross_0 26 rfl) ?_
  refine x_iload_n (i := 1) (dxX10_cross_0 27 rfl) rfl rfl ?_
  refine x_isub (dxX10_cross_0 28 rfl) ?_
  refine x_iconst (v := 4) (dxX10_cross_0 29 rfl) rfl ?_
  refine x_irem (dxX10_cross_0 30 rfl) (by decide) ?_
  refine pf_10_41 (kd_144 hLs4) (dxX10_cross_0 31 rfl) ?_
  refine x_sto (fun s7 e8 => ?_)
  replace h := h s7 e8
  have hKs7 : kd s7 = kd σ := by rw [e8]; exact hKs4
  have hLs7 : Lay s7 := by rw [e8]; exact hLs4.si
  exact x_vret rfl (dxX10_cross_1 0 rfl) ⟨rfl, h⟩
theorem vcX10_look {g : GV} {d : Nat} {P : PS → Prop} {σ : PS} (hL : Lay σ) (p0 : Int32) (h : (¬ (mi σ 144 3) = p0 → ∀ s1 : PS, s1 = si σ 144 3 p0 → CJ7_fill_53178 g d [.ref 146, .int 0] s1 (fun (s3 : PS) => Fr s1 s3 ∧ VX10_look g (d + 1) P 25 [some (.ref 144), some (.int p0), some (.int (-12)), none, none] [] s3)) ∧ ((mi σ 144 3) = p0 → P σ)) : CX10_look g (d + 1) [.ref 144, .int p0] σ P := by
  refine x_entry (L := [some (.ref 144), some (.int p0), none, none, none]) pn_10 (Nat.le_of_ble_eq_true rfl) ⟨3, rfl⟩ ?_
  show VX10_look g (d + 1) P 0 [some (.ref 144), some (.int p0), none, none, none] [] σ
  refine x_aload_n (i := 0) (dxX10_look_0 0 rfl) rfl rfl ?_
  refine gf_10_9 (kd_144 hL) rfl (dxX10_look_0 1 rfl) ?_
  refine x_iload_n (i := 1) (dxX10_look_0 2 rfl) rfl rfl ?_
  refine x_icmp_ne (tgt := 9) (dxX10_look_0 3 rfl) (by decide) (fun hc => ?_) (fun hc => ?_)
  · replace h := h.1 hc
    refine x_aload_n (i := 0) (dxX10_look_0 5 rfl) rfl rfl ?_
    refine x_iload_n (i := 1) (dxX10_look_0 6 rfl) rfl rfl ?_
    refine pf_10_9 (kd_144 hL) (dxX10_look_0 7 rfl) ?_
    refine x_sto (fun s1 e2 => ?_)
    replace h := h s1 e2
    have hKs1 : kd s1 = kd σ := by rw [e2]; exact (rfl : kd σ = kd σ)
    have hLs1 : Lay s1 := by rw [e2]; exact hL.si
    refine x_aload_n (i := 0) (dxX10_look_0 8 rfl) rfl rfl ?_
    refine gf_10_19 (kd_144 hLs1) (rv_144_5 hLs1) (dxX10_look_0 9 rfl) ?_
    refine x_iconst (v := 0) (dxX10_look_0 10 rfl) rfl ?_
    refine cl_10_59 (Nat.le_of_ble_eq_true rfl) (dxX10_look_0 11 rfl) h (fun s3 h => ?_) (Nat.le_refl _) (Nat.le_refl _)
    obtain ⟨hFs3, h⟩ := h
    have hKs3 : kd s3 = kd σ := hFs3.1.trans hKs1
    have hLs3 : Lay s3 := hLs1.fr hFs3
    refine x_bipush (v := (-12)) (dxX10_look_0 12 rfl) rfl ?_
    refine x_istore_n (i := 2) (dxX10_look_0 13 rfl) rfl (Nat.le_of_ble_eq_true rfl) rfl rfl ?_
    exact h
  · replace h := h.2 hc
    exact x_vret rfl (dxX10_look_0 4 rfl) ⟨rfl, h⟩
theorem vcX10_look_25 {g : GV} {d : Nat} {P : PS → Prop} {σ : PS} (hL : Lay σ) (l1 : Int32) (l2 : Int32) (h : (12 < l2 → P σ) ∧ (¬ 12 < l2 → VX10_look g (d + 1) P 34 [some (.ref 144), some (.int l1), some (.int l2), some (.int (-12)), none] [] σ)) : VX10_look g (d + 1) P 25 [some (.ref 144), some (.int l1), some (.int l2), none, none] [] σ := by
  refine x_iload_n (i := 2) (dxX10_look_0 14 rfl) rfl rfl ?_
  refine x_bipush (v := 12) (dxX10_look_0 15 rfl) rfl ?_
  refine x_icmp_gt (tgt := 121) (dxX10_look_0 16 rfl) (by decide) (fun hc => ?_) (fun hc => ?_)
  · replace h := h.1 hc
    exact x_vret rfl (dxX10_look_2 1 rfl) ⟨rfl, h⟩
  · replace h := h.2 hc
    refine x_bipush (v := (-12)) (dxX10_look_0 17 rfl) rfl ?_
    refine x_istore_n (i := 3) (dxX10_look_0 18 rfl) rfl (Nat.le_of_ble_eq_true rfl) rfl rfl ?_
    exact h
theorem vcX10_look_34 {g : GV} {d : Nat} {P : PS → Prop} {σ : PS} (hL : Lay σ) (l1 : Int32) (l2 : Int32) (l3 : Int32) (h : (12 < l3 → ∀ x5 : Int32, x5 = l2 + 1 → VX10_look g (d + 1) P 25 [some (.ref 144), some (.int l1), some (.int x5), none, none] [] σ) ∧ (¬ 12 < l3 → ∀ x7 : Int32, x7 = (l2 * l2) + (l3 * l3) → (144 < x7 → ∀ x9 : Int32, x9 = l3 + 1 → VX10_look g (d + 1) P 34 [some (.ref 144), some (.int l1), some (.int l2), some (.int x9), none] [] σ) ∧ (¬ 144 < x7 → CX10_go g d [.ref 144, .int l1, .int l2, .int l3] σ (fun (v12 : Int32) (s11 : PS) => Fr σ s11 ∧ (v12 = 0 → ∀ x13 : Int32, x13 = l3 + 1 → VX10_look g (d + 1) P 34 [some (.ref 144), some (.int l1), some (.int l2), some (.int x13), none] [] s11) ∧ (¬ v12 = 0 → CX10_keep g d [.ref 144, .int (mi s11 144 1), .int x7, .int l2, .int l3] s11 (fun (s15 : PS) => Fr s11 s15 ∧ (x7 ≤ 0 → ∀ x17 : Int32, x17 = l3 + 1 → VX10_look g (d + 1) P 34 [some (.ref 144), some (.int l1), some (.int l2), some (.int x17), none] [] s15) ∧ (¬ x7 ≤ 0 → (¬ (mi s15 144 1) = l1 → ∀ x19 : Int32, x19 = l3 + 1 → VX10_look g (d + 1) P 34 [some (.ref 144), some (.int l1), some (.int l2), some (.int x19), none] [] s15) ∧ ((mi s15 144 1) = l1 → (¬ (mi s15 144 2) = 0 → ∀ x21 : Int32, x21 = l3 + 1 → VX10_look g (d + 1) P 34 [some (.ref 144), some (.int l1), some (.int l2), some (.int x21), none] [] s15) ∧ ((mi s15 144 2) = 0 → CX10_keep g d [.ref 144, .int 10, .int x7, .int l2, .int l3] s15 (fun (s23 : PS) => Fr s15 s23 ∧ ∀ x25 : Int32, x25 = l3 + 1 → VX10_look g (d + 1) P 34 [some (.ref 144), some (.int l1), some (.int l2), some (.int x25), none] [] s23)))))))))) : VX10_look g (d + 1) P 34 [some (.ref 144), some (.int l1), some (.int l2), some (.int l3), none] [] σ := by
  refine x_iload_n (i := 3) (dxX10_look_0 19 rfl) rfl rfl ?_
  refine x_bipush (v := 12) (dxX10_look_0 20 rfl) rfl ?_
  refine x_icmp_gt (tgt := 115) (dxX10_look_0 21 rfl) (by decide) (fun hc => ?_) (fun hc => ?_)
  · replace h := h.1 hc
    obtain ⟨x5, e6⟩ : ∃ y : Int32, y = l2 + 1 := ⟨_, rfl⟩
    replace h := h x5 e6
    refine x_iinc (v := x5) (dxX10_look_1 31 rfl) (i := 2) rfl (by rw [e6]; rfl) (Nat.le_of_ble_eq_true rfl) rfl rfl ?_
    refine x_goto (tgt := 25) (dxX10_look_2 0 rfl) (by decide) ?_
    refine x_mask [true, true, true, false, false] (L1 := [some (.ref 144), some (.int l1), some (.int x5), none, none]) rfl ?_
    exact h
  · replace h := h.2 hc
    refine x_iload_n (i := 2) (dxX10_look_0 22 rfl) rfl rfl ?_
    refine x_iload_n (i := 2) (dxX10_look_0 23 rfl) rfl rfl ?_
    refine x_imul (dxX10_look_0 24 rfl) ?_
    refine x_iload_n (i := 3) (dxX10_look_0 25 rfl) rfl rfl ?_
    refine x_iload_n (i := 3) (dxX10_look_0 26 rfl) rfl rfl ?_
    refine x_imul (dxX10_look_0 27 rfl) ?_
    refine x_iadd (dxX10_look_0 28 rfl) ?_
    refine x_topi (fun x7 e8 => ?_)
    replace h := h x7 e8
    refine x_istore (dxX10_look_0 29 rfl) (Nat.le_of_ble_eq_true rfl) rfl rfl ?_
    refine x_iload (dxX10_look_0 30 rfl) rfl ?_
    refine x_sipush (v := 144) (dxX10_look_0 31 rfl) rfl ?_
    refine x_icmp_gt (tgt := 109) (dxX10_look_1 0 rfl) (by decide) (fun hc => ?_) (fun hc => ?_)
    · replace h := h.1 hc
      obtain ⟨x9, e10⟩ : ∃ y : Int32, y = l3 + 1 := ⟨_, rfl⟩
      replace h := h x9 e10
      refine x_iinc (v := x9) (dxX10_look_1 29 rfl) (i := 3) rfl (by rw [e10]; rfl) (Nat.le_of_ble_eq_true rfl) rfl rfl ?_
      refine x_goto (tgt := 34) (dxX10_look_1 30 rfl) (by decide) ?_
      refine x_mask [true, true, true, true, false] (L1 := [some (.ref 144), some (.int l1), some (.int l2), some (.int x9), none]) rfl ?_
      exact h
    · replace h := h.2 hc
      refine x_aload_n (i := 0) (dxX10_look_1 1 rfl) rfl rfl ?_
      refine x_iload_n (i := 1) (dxX10_look_1 2 rfl) rfl rfl ?_
      refine x_iload_n (i := 2) (dxX10_look_1 3 rfl) rfl rfl ?_
      refine x_iload_n (i := 3) (dxX10_look_1 4 rfl) rfl rfl ?_
      refine cl_10_65 (kd_144 hL) (Nat.le_of_ble_eq_true rfl) (dxX10_look_1 5 rfl) h (fun v12 s11 h => ?_) (Nat.le_refl _) (Nat.le_refl _)
      obtain ⟨hFs11, h⟩ := h
      have hKs11 : kd s11 = kd σ := hFs11.1.trans (rfl : kd σ = kd σ)
      have hLs11 : Lay s11 := hL.fr hFs11
      refine x_if_eq (tgt := 109) (dxX10_look_1 6 rfl) (by decide) (fun hc => ?_) (fun hc => ?_)
      · replace h := h.1 hc
        obtain ⟨x13, e14⟩ : ∃ y : Int32, y = l3 + 1 := ⟨_, rfl⟩
        replace h := h x13 e14
        refine x_iinc (v := x13) (dxX10_look_1 29 rfl) (i := 3) rfl (by rw [e14]; rfl) (Nat.le_of_ble_eq_true rfl) rfl rfl ?_
        refine x_goto (tgt := 34) (dxX10_look_1 30 rfl) (by decide) ?_
        refine x_mask [true, true, true, true, false] (L1 := [some (.ref 144), some (.int l1), some (.int l2), some (.int x13), none]) rfl ?_
        exact h
      · replace h := h.2 hc
        refine x_aload_n (i := 0) (dxX10_look_1 7 rfl) rfl rfl ?_
        refine x_aload_n (i := 0) (dxX10_look_1 8 rfl) rfl rfl ?_
        refine gf_10_38 (kd_144 hLs11) rfl (dxX10_look_1 9 rfl) ?_
        refine x_iload (dxX10_look_1 10 rfl) rfl ?_
        refine x_iload_n (i := 2) (dxX10_look_1 11 rfl) rfl rfl ?_
        refine x_iload_n (i := 3) (dxX10_look_1 12 rfl) rfl rfl ?_
        refine cl_10_69 (kd_144 hLs11) (Nat.le_of_ble_eq_true rfl) (dxX10_look_1 13 rfl) h (fun s15 h => ?_) (Nat.le_refl _) (Nat.le_refl _)
        obtain ⟨hFs15, h⟩ := h
        have hKs15 : kd s15 = kd σ := hFs15.1.trans hKs11
        have hLs15 : Lay s15 := hLs11.fr hFs15
        refine x_iload (dxX10_look_1 14 rfl) rfl ?_
        refine x_if_le (tgt := 109) (dxX10_look_1 15 rfl) (by decide) (fun hc => ?_) (fun hc => ?_)
        · replace h := h.1 hc
          obtain ⟨x17, e18⟩ : ∃ y : Int32, y = l3 + 1 := ⟨_, rfl⟩
          replace h := h x17 e18
          refine x_iinc (v := x17) (dxX10_look_1 29 rfl) (i := 3) rfl (by rw [e18]; rfl) (Nat.le_of_ble_eq_true rfl) rfl rfl ?_
          refine x_goto (tgt := 34) (dxX10_look_1 30 rfl) (by decide) ?_
          refine x_mask [true, true, true, true, false] (L1 := [some (.ref 144), some (.int l1), some (.int l2), some (.int x17), none]) rfl ?_
          exact h
        · replace h := h.2 hc
          refine x_aload_n (i := 0) (dxX10_look_1 16 rfl) rfl rfl ?_
          refine gf_10_38 (kd_144 hLs15) rfl (dxX10_look_1 17 rfl) ?_
          refine x_iload_n (i := 1) (dxX10_look_1 18 rfl) rfl rfl ?_
          refine x_icmp_ne (tgt := 109) (dxX10_look_1 19 rfl) (by decide) (fun hc => ?_) (fun hc => ?_)
          · replace h := h.1 hc
            obtain ⟨x19, e20⟩ : ∃ y : Int32, y = l3 + 1 := ⟨_, rfl⟩
            replace h := h x19 e20
            refine x_iinc (v := x19) (dxX10_look_1 29 rfl) (i := 3) rfl (by rw [e20]; rfl) (Nat.le_of_ble_eq_true rfl) rfl rfl ?_
            refine x_goto (tgt := 34) (dxX10_look_1 30 rfl) (by decide) ?_
            refine x_mask [true, true, true, true, false] (L1 := [some (.ref 144), some (.int l1), some (.int l2), some (.int x19), none]) rfl ?_
            exact h
          · replace h := h.2 hc
            refine x_aload_n (i := 0) (dxX10_look_1 20 rfl) rfl rfl ?_
            refine gf_10_41 (kd_144 hLs15) rfl (dxX10_look_1 21 rfl) ?_
            refine x_if_ne (tgt := 109) (dxX10_look_1 22 rfl) (by decide) (fun hc => ?_) (fun hc => ?_)
            · replace h := h.1 hc
              obtain ⟨x21, e22⟩ : ∃ y : Int32, y = l3 + 1 := ⟨_, rfl⟩
              replace h := h x21 e22
              refine x_iinc (v := x21) (dxX10_look_1 29 rfl) (i := 3) rfl (by rw [e22]; rfl) (Nat.le_of_ble_eq_true rfl) rfl rfl ?_
              refine x_goto (tgt := 34) (dxX10_look_1 30 rfl) (by decide) ?_
              refine x_mask [true, true, true, true, false] (L1 := [some (.ref 144), some (.int l1), some (.int l2), some (.int x21), none]) rfl ?_
              exact h
            · replace h := h.2 hc
              refine x_aload_n (i := 0) (dxX10_look_1 23 rfl) rfl rfl ?_
              refine x_bipush (v := 10) (dxX10_look_1 24 rfl) rfl ?_
              refine x_iload (dxX10_look_1 25 rfl) rfl ?_
              refine x_iload_n (i := 2) (dxX10_look_1 26 rfl) rfl rfl ?_
              refine x_iload_n (i := 3) (dxX10_look_1 27 rfl) rfl rfl ?_
              refine cl_10_69 (kd_144 hLs15) (Nat.le_of_ble_eq_true rfl) (dxX10_look_1 28 rfl) h (fun s23 h => ?_) (Nat.le_refl _) (Nat.le_refl _)
              obtain ⟨hFs23, h⟩ := h
              have hKs23 : kd s23 = kd σ := hFs23.1.trans hKs15
              have hLs23 : Lay s23 := hLs15.fr hFs23
              obtain ⟨x25, e26⟩ : ∃ y : Int32, y = l3 + 1 := ⟨_, rfl⟩
              replace h := h x25 e26
              refine x_iinc (v := x25) (dxX10_look_1 29 rfl) (i := 3) rfl (by rw [e26]; rfl) (Nat.le_of_ble_eq_true rfl) rfl rfl ?_
              refine x_goto (tgt := 34) (dxX10_look_1 30 rfl) (by decide) ?_
              refine x_mask [true, true, true, true, false] (L1 := [some (.ref 144), some (.int l1), some (.int l2), some (.int x25), none]) rfl ?_
              exact h
theorem vcX10_keep {g : GV} {d : Nat} {P : PS → Prop} {σ : PS} (hL : Lay σ) (p0 : Int32) (p1 : Int32) (p2 : Int32) (p3 : Int32) (h : vp_in p0 11 ∧ ((mi σ 146 (Int32.toNatClampNeg p0)) = 0 → vp_in p0 11 ∧ ∀ s3 : PS, s3 = si σ 145 (Int32.toNatClampNeg p0) p1 → vp_in p0 11 ∧ ∀ s6 : PS, s6 = si s3 147 (Int32.toNatClampNeg p0) p2 → vp_in p0 11 ∧ ∀ s9 : PS, s9 = si s6 148 (Int32.toNatClampNeg p0) p3 → vp_in p0 11 ∧ ∀ s12 : PS, s12 = si s9 146 (Int32.toNatClampNeg p0) 1 → P s12) ∧ (¬ (mi σ 146 (Int32.toNatClampNeg p0)) = 0 → vp_in p0 11 ∧ ((mi σ 145 (Int32.toNatClampNeg p0)) ≤ p1 → vp_in p0 11 ∧ (¬ p1 = (mi σ 145 (Int32.toNatClampNeg p0)) → P σ) ∧ (p1 = (mi σ 145 (Int32.toNatClampNeg p0)) → vp_in p0 11 ∧ vp_in p0 11 ∧ ∀ s18 : PS, s18 = si σ 146 (Int32.toNatClampNeg p0) ((mi σ 146 (Int32.toNatClampNeg p0)) + 1) → P s18)) ∧ (¬ (mi σ 145 (Int32.toNatClampNeg p0)) ≤ p1 → vp_in p0 11 ∧ ∀ s21 : PS, s21 = si σ 145 (Int32.toNatClampNeg p0) p1 → vp_in p0 11 ∧ ∀ s24 : PS, s24 = si s21 147 (Int32.toNatClampNeg p0) p2 → vp_in p0 11 ∧ ∀ s27 : PS, s27 = si s24 148 (Int32.toNatClampNeg p0) p3 → vp_in p0 11 ∧ ∀ s30 : PS, s30 = si s27 146 (Int32.toNatClampNeg p0) 1 → P s30))) : CX10_keep g d [.ref 144, .int p0, .int p1, .int p2, .int p3] σ P := by
  refine x_entry (L := [some (.ref 144), some (.int p0), some (.int p1), some (.int p2), some (.int p3)]) pn_10 (Nat.le_of_ble_eq_true rfl) ⟨0, rfl⟩ ?_
  show VX10_keep g d P 0 [some (.ref 144), some (.int p0), some (.int p1), some (.int p2), some (.int p3)] [] σ
  refine x_aload_n (i := 0) (dxX10_keep_0 0 rfl) rfl rfl ?_
  refine gf_10_19 (kd_144 hL) (rv_144_5 hL) (dxX10_keep_0 1 rfl) ?_
  refine x_iload_n (i := 1) (dxX10_keep_0 2 rfl) rfl rfl ?_
  obtain ⟨hi1, h⟩ := h
  refine x_iald (kd_146 hL) hi1 (dxX10_keep_0 3 rfl) ?_
  refine x_if_eq (tgt := 19) (dxX10_keep_0 4 rfl) (by decide) (fun hc => ?_) (fun hc => ?_)
  · replace h := h.1 hc
    refine x_aload_n (i := 0) (dxX10_keep_0 11 rfl) rfl rfl ?_
    refine gf_10_15 (kd_144 hL) (rv_144_4 hL) (dxX10_keep_0 12 rfl) ?_
    refine x_iload_n (i := 1) (dxX10_keep_0 13 rfl) rfl rfl ?_
    refine x_iload_n (i := 2) (dxX10_keep_0 14 rfl) rfl rfl ?_
    obtain ⟨hi2, h⟩ := h
    refine x_iast (kd_145 hL) hi2 (dxX10_keep_0 15 rfl) ?_
    refine x_sto (fun s3 e4 => ?_)
    replace h := h s3 e4
    have hKs3 : kd s3 = kd σ := by rw [e4]; exact (rfl : kd σ = kd σ)
    have hLs3 : Lay s3 := by rw [e4]; exact hL.si
    refine x_aload_n (i := 0) (dxX10_keep_0 16 rfl) rfl rfl ?_
    refine gf_10_22 (kd_144 hLs3) (rv_144_6 hLs3) (dxX10_keep_0 17 rfl) ?_
    refine x_iload_n (i := 1) (dxX10_keep_0 18 rfl) rfl rfl ?_
    refine x_iload_n (i := 3) (dxX10_keep_0 19 rfl) rfl rfl ?_
    obtain ⟨hi5, h⟩ := h
    refine x_iast (kd_147 hLs3) hi5 (dxX10_keep_0 20 rfl) ?_
    refine x_sto (fun s6 e7 => ?_)
    replace h := h s6 e7
    have hKs6 : kd s6 = kd σ := by rw [e7]; exact hKs3
    have hLs6 : Lay s6 := by rw [e7]; exact hLs3.si
    refine x_aload_n (i := 0) (dxX10_keep_0 21 rfl) rfl rfl ?_
    refine gf_10_25 (kd_144 hLs6) (rv_144_7 hLs6) (dxX10_keep_0 22 rfl) ?_
    refine x_iload_n (i := 1) (dxX10_keep_0 23 rfl) rfl rfl ?_
    refine x_iload (dxX10_keep_0 24 rfl) rfl ?_
    obtain ⟨hi8, h⟩ := h
    refine x_iast (kd_148 hLs6) hi8 (dxX10_keep_0 25 rfl) ?_
    refine x_sto (fun s9 e10 => ?_)
    replace h := h s9 e10
    have hKs9 : kd s9 = kd σ := by rw [e10]; exact hKs6
    have hLs9 : Lay s9 := by rw [e10]; exact hLs6.si
    refine x_aload_n (i := 0) (dxX10_keep_0 26 rfl) rfl rfl ?_
    refine gf_10_19 (kd_144 hLs9) (rv_144_5 hLs9) (dxX10_keep_0 27 rfl) ?_
    refine x_iload_n (i := 1) (dxX10_keep_0 28 rfl) rfl rfl ?_
    refine x_iconst (v := 1) (dxX10_keep_0 29 rfl) rfl ?_
    obtain ⟨hi11, h⟩ := h
    refine x_iast (kd_146 hLs9) hi11 (dxX10_keep_0 30 rfl) ?_
    refine x_sto (fun s12 e13 => ?_)
    replace h := h s12 e13
    have hKs12 : kd s12 = kd σ := by rw [e13]; exact hKs9
    have hLs12 : Lay s12 := by rw [e13]; exact hLs9.si
    refine x_goto (tgt := 71) (dxX10_keep_0 31 rfl) (by decide) ?_
    exact x_vret rfl (dxX10_keep_1 14 rfl) ⟨rfl, h⟩
  · replace h := h.2 hc
    refine x_iload_n (i := 2) (dxX10_keep_0 5 rfl) rfl rfl ?_
    refine x_aload_n (i := 0) (dxX10_keep_0 6 rfl) rfl rfl ?_
    refine gf_10_15 (kd_144 hL) (rv_144_4 hL) (dxX10_keep_0 7 rfl) ?_
    refine x_iload_n (i := 1) (dxX10_keep_0 8 rfl) rfl rfl ?_
    obtain ⟨hi14, h⟩ := h
    refine x_iald (kd_145 hL) hi14 (dxX10_keep_0 9 rfl) ?_
    refine x_icmp_ge (tgt := 51) (dxX10_keep_0 10 rfl) (by decide) (fun hc => ?_) (fun hc => ?_)
    · replace h := h.1 hc
      refine x_iload_n (i := 2) (dxX10_keep_1 0 rfl) rfl rfl ?_
      refine x_aload_n (i := 0) (dxX10_keep_1 1 rfl) rfl rfl ?_
      refine gf_10_15 (kd_144 hL) (rv_144_4 hL) (dxX10_keep_1 2 rfl) ?_
      refine x_iload_n (i := 1) (dxX10_keep_1 3 rfl) rfl rfl ?_
      obtain ⟨hi15, h⟩ := h
      refine x_iald (kd_145 hL) hi15 (dxX10_keep_1 4 rfl) ?_
      refine x_icmp_ne (tgt := 71) (dxX10_keep_1 5 rfl) (by decide) (fun hc => ?_) (fun hc => ?_)
      · replace h := h.1 hc
        exact x_vret rfl (dxX10_keep_1 14 rfl) ⟨rfl, h⟩
      · replace h := h.2 hc
        refine x_aload_n (i := 0) (dxX10_keep_1 6 rfl) rfl rfl ?_
        refine gf_10_19 (kd_144 hL) (rv_144_5 hL) (dxX10_keep_1 7 rfl) ?_
        refine x_iload_n (i := 1) (dxX10_keep_1 8 rfl) rfl rfl ?_
        refine x_dup2 (dxX10_keep_1 9 rfl) rfl rfl ?_
        obtain ⟨hi16, h⟩ := h
        refine x_iald (kd_146 hL) hi16 (dxX10_keep_1 10 rfl) ?_
        refine x_iconst (v := 1) (dxX10_keep_1 11 rfl) rfl ?_
        refine x_iadd (dxX10_keep_1 12 rfl) ?_
        obtain ⟨hi17, h⟩ := h
        refine x_iast (kd_146 hL) hi17 (dxX10_keep_1 13 rfl) ?_
        refine x_sto (fun s18 e19 => ?_)
        replace h := h s18 e19
        have hKs18 : kd s18 = kd σ := by rw [e19]; exact (rfl : kd σ = kd σ)
        have hLs18 : Lay s18 := by rw [e19]; exact hL.si
        exact x_vret rfl (dxX10_keep_1 14 rfl) ⟨rfl, h⟩
    · replace h := h.2 hc
      refine x_aload_n (i := 0) (dxX10_keep_0 11 rfl) rfl rfl ?_
      refine gf_10_15 (kd_144 hL) (rv_144_4 hL) (dxX10_keep_0 12 rfl) ?_
      refine x_iload_n (i := 1) (dxX10_keep_0 13 rfl) rfl rfl ?_
      refine x_iload_n (i := 2) (dxX10_keep_0 14 rfl) rfl rfl ?_
      obtain ⟨hi20, h⟩ := h
      refine x_iast (kd_145 hL) hi20 (dxX10_keep_0 15 rfl) ?_
      refine x_sto (fun s21 e22 => ?_)
      replace h := h s21 e22
      have hKs21 : kd s21 = kd σ := by rw [e22]; exact (rfl : kd σ = kd σ)
      have hLs21 : Lay s21 := by rw [e22]; exact hL.si
      refine x_aload_n (i := 0) (dxX10_keep_0 16 rfl) rfl rfl ?_
      refine gf_10_22 (kd_144 hLs21) (rv_144_6 hLs21) (dxX10_keep_0 17 rfl) ?_
      refine x_iload_n (i := 1) (dxX10_keep_0 18 rfl) rfl rfl ?_
      refine x_iload_n (i := 3) (dxX10_keep_0 19 rfl) rfl rfl ?_
      obtain ⟨hi23, h⟩ := h
      refine x_iast (kd_147 hLs21) hi23 (dxX10_keep_0 20 rfl) ?_
      refine x_sto (fun s24 e25 => ?_)
      replace h := h s24 e25
      have hKs24 : kd s24 = kd σ := by rw [e25]; exact hKs21
      have hLs24 : Lay s24 := by rw [e25]; exact hLs21.si
      refine x_aload_n (i := 0) (dxX10_keep_0 21 rfl) rfl rfl ?_
      refine gf_10_25 (kd_144 hLs24) (rv_144_7 hLs24) (dxX10_keep_0 22 rfl) ?_
      refine x_iload_n (i := 1) (dxX10_keep_0 23 rfl) rfl rfl ?_
      refine x_iload (dxX10_keep_0 24 rfl) rfl ?_
      obtain ⟨hi26, h⟩ := h
      refine x_iast (kd_148 hLs24) hi26 (dxX10_keep_0 25 rfl) ?_
      refine x_sto (fun s27 e28 => ?_)
      replace h := h s27 e28
      have hKs27 : kd s27 = kd σ := by rw [e28]; exact hKs24
      have hLs27 : Lay s27 := by rw [e28]; exact hLs24.si
      refine x_aload_n (i := 0) (dxX10_keep_0 26 rfl) rfl rfl ?_
      refine gf_10_19 (kd_144 hLs27) (rv_144_5 hLs27) (dxX10_keep_0 27 rfl) ?_
      refine x_iload_n (i := 1) (dxX10_keep_0 28 rfl) rfl rfl ?_
      refine x_iconst (v := 1) (dxX10_keep_0 29 rfl) rfl ?_
      obtain ⟨hi29, h⟩ := h
      refine x_iast (kd_146 hLs27) hi29 (dxX10_keep_0 30 rfl) ?_
      refine x_sto (fun s30 e31 => ?_)
      replace h := h s30 e31
      have hKs30 : kd s30 = kd σ := by rw [e31]; exact hKs27
      have hLs30 : Lay s30 := by rw [e31]; exact hLs27.si
      refine x_goto (tgt := 71) (dxX10_keep_0 31 rfl) (by decide) ?_
      exact x_vret rfl (dxX10_keep_1 14 rfl) ⟨rfl, h⟩
theorem vcX10_tell {g : GV} {d : Nat} {P : Int32 → PS → Prop} {σ : PS} (hL : Lay σ) (p0 : Int32) (p1 : Int32) (h : (p1 = 0 → vp_in p0 11 ∧ P (mi σ 145 (Int32.toNatClampNeg p0)) σ) ∧ (p1 = 1 → vp_in p0 11 ∧ P (mi σ 146 (Int32.toNatClampNeg p0)) σ) ∧ (p1 = 2 → vp_in p0 11 ∧ P (mi σ 147 (Int32.toNatClampNeg p0)) σ) ∧ (¬ p1 = 0 ∧ ¬ p1 = 1 ∧ ¬ p1 = 2 → vp_in p0 11 ∧ P (mi σ 148 (Int32.toNatClampNeg p0)) σ)) : CX10_tell g d [.ref 144, .int p0, .int p1] σ P := by
  refine x_entry (L := [some (.ref 144), some (.int p0), some (.int p1)]) pn_10 (Nat.le_of_ble_eq_true rfl) ⟨0, rfl⟩ ?_
  show VX10_tell g d P 0 [some (.ref 144), some (.int p0), some (.int p1)] [] σ
  refine x_iload_n (i := 2) (dxX10_tell_0 0 rfl) rfl rfl ?_
  by_cases hx0 : p1 = 0
  · replace h := h.1 hx0
    refine x_tableIn (tgt := 28) (dxX10_tell_0 1 rfl) (by rw [hx0]; decide) (by rw [hx0]; decide) (by rw [hx0]; rfl) (by decide) ?_
    refine x_aload_n (i := 0) (dxX10_tell_0 2 rfl) rfl rfl ?_
    refine gf_10_15 (kd_144 hL) (rv_144_4 hL) (dxX10_tell_0 3 rfl) ?_
    refine x_iload_n (i := 1) (dxX10_tell_0 4 rfl) rfl rfl ?_
    obtain ⟨hi1, h⟩ := h
    refine x_iald (kd_145 hL) hi1 (dxX10_tell_0 5 rfl) ?_
    exact x_iret (ty := .int) rfl rfl (dxX10_tell_0 6 rfl) ⟨_, rfl, h⟩
  by_cases hx1 : p1 = 1
  · replace h := h.2.1 hx1
    refine x_tableIn (tgt := 35) (dxX10_tell_0 1 rfl) (by rw [hx1]; decide) (by rw [hx1]; decide) (by rw [hx1]; rfl) (by decide) ?_
    refine x_aload_n (i := 0) (dxX10_tell_0 7 rfl) rfl rfl ?_
    refine gf_10_19 (kd_144 hL) (rv_144_5 hL) (dxX10_tell_0 8 rfl) ?_
    refine x_iload_n (i := 1) (dxX10_tell_0 9 rfl) rfl rfl ?_
    obtain ⟨hi2, h⟩ := h
    refine x_iald (kd_146 hL) hi2 (dxX10_tell_0 10 rfl) ?_
    exact x_iret (ty := .int) rfl rfl (dxX10_tell_0 11 rfl) ⟨_, rfl, h⟩
  by_cases hx2 : p1 = 2
  · replace h := h.2.2.1 hx2
    refine x_tableIn (tgt := 42) (dxX10_tell_0 1 rfl) (by rw [hx2]; decide) (by rw [hx2]; decide) (by rw [hx2]; rfl) (by decide) ?_
    refine x_aload_n (i := 0) (dxX10_tell_0 12 rfl) rfl rfl ?_
    refine gf_10_22 (kd_144 hL) (rv_144_6 hL) (dxX10_tell_0 13 rfl) ?_
    refine x_iload_n (i := 1) (dxX10_tell_0 14 rfl) rfl rfl ?_
    obtain ⟨hi3, h⟩ := h
    refine x_iald (kd_147 hL) hi3 (dxX10_tell_0 15 rfl) ?_
    exact x_iret (ty := .int) rfl rfl (dxX10_tell_0 16 rfl) ⟨_, rfl, h⟩
  replace h := h.2.2.2 ⟨hx0, hx1, hx2⟩
  refine x_tableOut (tgt := 49) (dxX10_tell_0 1 rfl) (tab_out (n := 2) (by decide) (fun j hj => by rcases (show j = 0 ∨ j = 1 ∨ j = 2 by omega) with rfl | rfl | rfl <;> assumption)) (by decide) ?_
  refine x_aload_n (i := 0) (dxX10_tell_0 17 rfl) rfl rfl ?_
  refine gf_10_25 (kd_144 hL) (rv_144_7 hL) (dxX10_tell_0 18 rfl) ?_
  refine x_iload_n (i := 1) (dxX10_tell_0 19 rfl) rfl rfl ?_
  obtain ⟨hi4, h⟩ := h
  refine x_iald (kd_148 hL) hi4 (dxX10_tell_0 20 rfl) ?_
  exact x_iret (ty := .int) rfl rfl (dxX10_tell_0 21 rfl) ⟨_, rfl, h⟩
theorem vcX10_farthestEnd {g : GV} {d : Nat} {P : Int32 → PS → Prop} {σ : PS} (hL : Lay σ)  (h : VX10_farthestEnd g d P 6 [some (.ref 144), some (.int (-1)), some (.int (-1)), some (.int 0)] [] σ) : CX10_farthestEnd g d [.ref 144] σ P := by
  refine x_entry (L := [some (.ref 144), none, none, none]) pn_10 (Nat.le_of_ble_eq_true rfl) ⟨3, rfl⟩ ?_
  show VX10_farthestEnd g d P 0 [some (.ref 144), none, none, none] [] σ
  refine x_iconst (v := (-1)) (dxX10_farthestEnd_0 0 rfl) rfl ?_
  refine x_istore_n (i := 1) (dxX10_farthestEnd_0 1 rfl) rfl (Nat.le_of_ble_eq_true rfl) rfl rfl ?_
  refine x_iconst (v := (-1)) (dxX10_farthestEnd_0 2 rfl) rfl ?_
  refine x_istore_n (i := 2) (dxX10_farthestEnd_0 3 rfl) rfl (Nat.le_of_ble_eq_true rfl) rfl rfl ?_
  refine x_iconst (v := 0) (dxX10_farthestEnd_0 4 rfl) rfl ?_
  refine x_istore_n (i := 3) (dxX10_farthestEnd_0 5 rfl) rfl (Nat.le_of_ble_eq_true rfl) rfl rfl ?_
  exact h
theorem vcX10_farthestEnd_6 {g : GV} {d : Nat} {P : Int32 → PS → Prop} {σ : PS} (hL : Lay σ) (l1 : Int32) (l2 : Int32) (l3 : Int32) (h : ((mi σ 129 0) ≤ l3 → P l1 σ) ∧ (¬ (mi σ 129 0) ≤ l3 → vp_in l3 11 ∧ ((mi σ 146 (Int32.toNatClampNeg l3)) ≤ 0 → ∀ x2 : Int32, x2 = l3 + 1 → VX10_farthestEnd g d P 6 [some (.ref 144), some (.int l1), some (.int l2), some (.int x2)] [] σ) ∧ (¬ (mi σ 146 (Int32.toNatClampNeg l3)) ≤ 0 → vp_in l3 11 ∧ ((mi σ 145 (Int32.toNatClampNeg l3)) ≤ l2 → ∀ x5 : Int32, x5 = l3 + 1 → VX10_farthestEnd g d P 6 [some (.ref 144), some (.int l1), some (.int l2), some (.int x5)] [] σ) ∧ (¬ (mi σ 145 (Int32.toNatClampNeg l3)) ≤ l2 → vp_in l3 11 ∧ ∀ x8 : Int32, x8 = mi σ 145 (Int32.toNatClampNeg l3) → ∀ x10 : Int32, x10 = l3 + 1 → VX10_farthestEnd g d P 6 [some (.ref 144), some (.int l3), some (.int x8), some (.int x10)] [] σ)))) : VX10_farthestEnd g d P 6 [some (.ref 144), some (.int l1), some (.int l2), some (.int l3)] [] σ := by
  refine x_iload_n (i := 3) (dxX10_farthestEnd_0 6 rfl) rfl rfl ?_
  refine x_aload_n (i := 0) (dxX10_farthestEnd_0 7 rfl) rfl rfl ?_
  refine gf_10_28 (kd_144 hL) (rv_144_0 hL) (dxX10_farthestEnd_0 8 rfl) ?_
  refine gf_10_73 (kd_129 hL) rfl (dxX10_farthestEnd_0 9 rfl) ?_
  refine x_icmp_ge (tgt := 51) (dxX10_farthestEnd_0 10 rfl) (by decide) (fun hc => ?_) (fun hc => ?_)
  · replace h := h.1 hc
    refine x_iload_n (i := 1) (dxX10_farthestEnd_0 31 rfl) rfl rfl ?_
    exact x_iret (ty := .int) rfl rfl (dxX10_farthestEnd_1 0 rfl) ⟨_, rfl, h⟩
  · replace h := h.2 hc
    refine x_aload_n (i := 0) (dxX10_farthestEnd_0 11 rfl) rfl rfl ?_
    refine gf_10_19 (kd_144 hL) (rv_144_5 hL) (dxX10_farthestEnd_0 12 rfl) ?_
    refine x_iload_n (i := 3) (dxX10_farthestEnd_0 13 rfl) rfl rfl ?_
    obtain ⟨hi1, h⟩ := h
    refine x_iald (kd_146 hL) hi1 (dxX10_farthestEnd_0 14 rfl) ?_
    refine x_if_le (tgt := 45) (dxX10_farthestEnd_0 15 rfl) (by decide) (fun hc => ?_) (fun hc => ?_)
    · replace h := h.1 hc
      obtain ⟨x2, e3⟩ : ∃ y : Int32, y = l3 + 1 := ⟨_, rfl⟩
      replace h := h x2 e3
      refine x_iinc (v := x2) (dxX10_farthestEnd_0 29 rfl) (i := 3) rfl (by rw [e3]; rfl) (Nat.le_of_ble_eq_true rfl) rfl rfl ?_
      refine x_goto (tgt := 6) (dxX10_farthestEnd_0 30 rfl) (by decide) ?_
      exact h
    · replace h := h.2 hc
      refine x_aload_n (i := 0) (dxX10_farthestEnd_0 16 rfl) rfl rfl ?_
      refine gf_10_15 (kd_144 hL) (rv_144_4 hL) (dxX10_farthestEnd_0 17 rfl) ?_
      refine x_iload_n (i := 3) (dxX10_farthestEnd_0 18 rfl) rfl rfl ?_
      obtain ⟨hi4, h⟩ := h
      refine x_iald (kd_145 hL) hi4 (dxX10_farthestEnd_0 19 rfl) ?_
      refine x_iload_n (i := 2) (dxX10_farthestEnd_0 20 rfl) rfl rfl ?_
      refine x_icmp_le (tgt := 45) (dxX10_farthestEnd_0 21 rfl) (by decide) (fun hc => ?_) (fun hc => ?_)
      · replace h := h.1 hc
        obtain ⟨x5, e6⟩ : ∃ y : Int32, y = l3 + 1 := ⟨_, rfl⟩
        replace h := h x5 e6
        refine x_iinc (v := x5) (dxX10_farthestEnd_0 29 rfl) (i := 3) rfl (by rw [e6]; rfl) (Nat.le_of_ble_eq_true rfl) rfl rfl ?_
        refine x_goto (tgt := 6) (dxX10_farthestEnd_0 30 rfl) (by decide) ?_
        exact h
      · replace h := h.2 hc
        refine x_iload_n (i := 3) (dxX10_farthestEnd_0 22 rfl) rfl rfl ?_
        refine x_istore_n (i := 1) (dxX10_farthestEnd_0 23 rfl) rfl (Nat.le_of_ble_eq_true rfl) rfl rfl ?_
        refine x_aload_n (i := 0) (dxX10_farthestEnd_0 24 rfl) rfl rfl ?_
        refine gf_10_15 (kd_144 hL) (rv_144_4 hL) (dxX10_farthestEnd_0 25 rfl) ?_
        refine x_iload_n (i := 3) (dxX10_farthestEnd_0 26 rfl) rfl rfl ?_
        obtain ⟨hi7, h⟩ := h
        refine x_iald (kd_145 hL) hi7 (dxX10_farthestEnd_0 27 rfl) ?_
        refine x_topi (fun x8 e9 => ?_)
        replace h := h x8 e9
        refine x_istore_n (i := 2) (dxX10_farthestEnd_0 28 rfl) rfl (Nat.le_of_ble_eq_true rfl) rfl rfl ?_
        obtain ⟨x10, e11⟩ : ∃ y : Int32, y = l3 + 1 := ⟨_, rfl⟩
        replace h := h x10 e11
        refine x_iinc (v := x10) (dxX10_farthestEnd_0 29 rfl) (i := 3) rfl (by rw [e11]; rfl) (Nat.le_of_ble_eq_true rfl) rfl rfl ?_
        refine x_goto (tgt := 6) (dxX10_farthestEnd_0 30 rfl) (by decide) ?_
        exact h
