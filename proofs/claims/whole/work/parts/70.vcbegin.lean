/-! ===== Acts.begin as a formula ===== -/
theorem vcX0_begin {g : GV} {d : Nat} {P : Nat → PS → Prop} {σ : PS} (hL : Lay σ)  (h : (¬ (mi σ 38 1) = 40 → vp_in (mi σ 38 1) 41 ∧ ∃ a2 : Nat, mr σ 39 (Int32.toNatClampNeg (mi σ 38 1)) = some a2 ∧ vp_in ((mi σ 38 1) + 1) 41 ∧ ∃ a5 : Nat, mr σ 39 (Int32.toNatClampNeg ((mi σ 38 1) + 1)) = some a5 ∧ ∃ n7, kd σ a2 = some (.inr (0, n7)) ∧ ∃ n9, kd σ a5 = some (.inr (0, n9)) ∧ (¬ (0 : Int32) < 0 ∧ ¬ (0 : Int32) < 0 ∧ ¬ (22 : Int32) < 0 ∧ Int32.toNatClampNeg (0 : Int32) + Int32.toNatClampNeg (22 : Int32) ≤ n7 ∧ Int32.toNatClampNeg (0 : Int32) + Int32.toNatClampNeg (22 : Int32) ≤ n9) ∧ ∀ s12 : PS, s12 = sa σ a5 (va_cpy (mi σ a2) (mi σ a5) (Int32.toNatClampNeg (0 : Int32)) (Int32.toNatClampNeg (0 : Int32)) (Int32.toNatClampNeg (22 : Int32))) → ∀ s14 : PS, s14 = si s12 38 1 ((mi s12 38 1) + 1) → ∀ s16 : PS, s16 = si s14 38 2 (mi s14 38 1) → vp_in (mi s16 38 1) 41 ∧ ∃ a19 : Nat, mr s16 39 (Int32.toNatClampNeg (mi s16 38 1)) = some a19 ∧ P a19 s16) ∧ ((mi σ 38 1) = 40 → ∃ a21 : Nat, mr σ 39 (Int32.toNatClampNeg 0) = some a21 ∧ VX0_begin g d P 18 [some (.ref 38), some (.ref a21), some (.int 0)] [] σ)) : CX0_begin g d [.ref 38] σ P := by
  refine x_entry (L := [some (.ref 38), none, none]) pn_0 (Nat.le_of_ble_eq_true rfl) ⟨2, rfl⟩ ?_
  show VX0_begin g d P 0 [some (.ref 38), none, none] [] σ
  refine x_aload_n (i := 0) (dxX0_begin_0 0 rfl) rfl rfl ?_
  refine gf_0_16 (kd_38 hL) rfl (dxX0_begin_0 1 rfl) ?_
  refine x_bipush (v := 40) (dxX0_begin_0 2 rfl) rfl ?_
  refine x_icmp_ne (tgt := 62) (dxX0_begin_0 3 rfl) (by decide) (fun hc => ?_) (fun hc => ?_)
  · replace h := h.1 hc
    refine x_aload_n (i := 0) (dxX0_begin_1 5 rfl) rfl rfl ?_
    refine gf_0_13 (kd_38 hL) (rv_38_0 hL) (dxX0_begin_1 6 rfl) ?_
    refine x_aload_n (i := 0) (dxX0_begin_1 7 rfl) rfl rfl ?_
    refine gf_0_16 (kd_38 hL) rfl (dxX0_begin_1 8 rfl) ?_
    obtain ⟨hi1, h⟩ := h
    obtain ⟨a2, ha3, h⟩ := h
    refine x_aald (Or.inl rfl) (kd_39 hL) hi1 ha3 (dxX0_begin_1 9 rfl) ?_
    refine x_iconst (v := 0) (dxX0_begin_1 10 rfl) rfl ?_
    refine x_aload_n (i := 0) (dxX0_begin_1 11 rfl) rfl rfl ?_
    refine gf_0_13 (kd_38 hL) (rv_38_0 hL) (dxX0_begin_1 12 rfl) ?_
    refine x_aload_n (i := 0) (dxX0_begin_1 13 rfl) rfl rfl ?_
    refine gf_0_16 (kd_38 hL) rfl (dxX0_begin_1 14 rfl) ?_
    refine x_iconst (v := 1) (dxX0_begin_1 15 rfl) rfl ?_
    refine x_iadd (dxX0_begin_1 16 rfl) ?_
    obtain ⟨hi4, h⟩ := h
    obtain ⟨a5, ha6, h⟩ := h
    refine x_aald (Or.inl rfl) (kd_39 hL) hi4 ha6 (dxX0_begin_1 17 rfl) ?_
    refine x_iconst (v := 0) (dxX0_begin_1 18 rfl) rfl ?_
    refine x_bipush (v := 22) (dxX0_begin_1 19 rfl) rfl ?_
    obtain ⟨n7, hk8, h⟩ := h
    obtain ⟨n9, hk10, h⟩ := h
    obtain ⟨hc11, h⟩ := h
    refine cl_0_29 ((congrFun (rfl : kd σ = kd σ) _).trans ((congrFun (rfl : kd σ = kd σ) _).symm.trans hk8)) ((congrFun (rfl : kd σ = kd σ) _).trans ((congrFun (rfl : kd σ = kd σ) _).symm.trans hk10)) hc11.1 hc11.2.1 hc11.2.2.1 hc11.2.2.2.1 hc11.2.2.2.2 (Nat.le_of_ble_eq_true rfl) (dxX0_begin_1 20 rfl) ?_
    refine x_sto (fun s12 e13 => ?_)
    replace h := h s12 e13
    have hKs12 : kd s12 = kd σ := by rw [e13]; exact (rfl : kd σ = kd σ)
    have hLs12 : Lay s12 := by rw [e13]; exact hL.sa
    refine x_aload_n (i := 0) (dxX0_begin_1 21 rfl) rfl rfl ?_
    refine x_dup (dxX0_begin_1 22 rfl) rfl ?_
    refine gf_0_16 (kd_38 hLs12) rfl (dxX0_begin_1 23 rfl) ?_
    refine x_iconst (v := 1) (dxX0_begin_1 24 rfl) rfl ?_
    refine x_iadd (dxX0_begin_1 25 rfl) ?_
    refine pf_0_16 (kd_38 hLs12) (dxX0_begin_1 26 rfl) ?_
    refine x_sto (fun s14 e15 => ?_)
    replace h := h s14 e15
    have hKs14 : kd s14 = kd σ := by rw [e15]; exact hKs12
    have hLs14 : Lay s14 := by rw [e15]; exact hLs12.si
    refine x_aload_n (i := 0) (dxX0_begin_1 27 rfl) rfl rfl ?_
    refine x_aload_n (i := 0) (dxX0_begin_1 28 rfl) rfl rfl ?_
    refine gf_0_16 (kd_38 hLs14) rfl (dxX0_begin_1 29 rfl) ?_
    refine pf_0_20 (kd_38 hLs14) (dxX0_begin_1 30 rfl) ?_
    refine x_sto (fun s16 e17 => ?_)
    replace h := h s16 e17
    have hKs16 : kd s16 = kd σ := by rw [e17]; exact hKs14
    have hLs16 : Lay s16 := by rw [e17]; exact hLs14.si
    refine x_aload_n (i := 0) (dxX0_begin_1 31 rfl) rfl rfl ?_
    refine gf_0_13 (kd_38 hLs16) (rv_38_0 hLs16) (dxX0_begin_2 0 rfl) ?_
    refine x_aload_n (i := 0) (dxX0_begin_2 1 rfl) rfl rfl ?_
    refine gf_0_16 (kd_38 hLs16) rfl (dxX0_begin_2 2 rfl) ?_
    obtain ⟨hi18, h⟩ := h
    obtain ⟨a19, ha20, h⟩ := h
    refine x_aald (Or.inl rfl) (kd_39 hLs16) hi18 ha20 (dxX0_begin_2 3 rfl) ?_
    exact x_aret rfl (dxX0_begin_2 4 rfl) ⟨_, rfl, h⟩
  · replace h := h.2 hc
    refine x_aload_n (i := 0) (dxX0_begin_0 4 rfl) rfl rfl ?_
    refine gf_0_13 (kd_38 hL) (rv_38_0 hL) (dxX0_begin_0 5 rfl) ?_
    refine x_iconst (v := 0) (dxX0_begin_0 6 rfl) rfl ?_
    obtain ⟨a21, ha22, h⟩ := h
    refine x_aald (Or.inl rfl) (kd_39 hL) (vpl 41 0 rfl) ha22 (dxX0_begin_0 7 rfl) ?_
    refine x_astore_n (i := 1) (dxX0_begin_0 8 rfl) rfl (Nat.le_of_ble_eq_true rfl) rfl rfl ?_
    refine x_iconst (v := 0) (dxX0_begin_0 9 rfl) rfl ?_
    refine x_istore_n (i := 2) (dxX0_begin_0 10 rfl) rfl (Nat.le_of_ble_eq_true rfl) rfl rfl ?_
    exact h
theorem vcX0_begin_18 {g : GV} {d : Nat} {P : Nat → PS → Prop} {σ : PS} (hL : Lay σ) (l1 nl1 : Nat) (kl1 : kd σ l1 = some (.inr (0, nl1))) (l2 : Int32) (h : (40 ≤ l2 → ∀ s23 : PS, s23 = sq σ 39 (Int32.toNatClampNeg 40) (some l1) → ∀ s25 : PS, s25 = si s23 38 1 ((mi s23 38 1) - 1) → vp_in (mi s25 38 1) 41 ∧ ∃ a28 : Nat, mr s25 39 (Int32.toNatClampNeg (mi s25 38 1)) = some a28 ∧ vp_in ((mi s25 38 1) + 1) 41 ∧ ∃ a31 : Nat, mr s25 39 (Int32.toNatClampNeg ((mi s25 38 1) + 1)) = some a31 ∧ ∃ n33, kd s25 a28 = some (.inr (0, n33)) ∧ ∃ n35, kd s25 a31 = some (.inr (0, n35)) ∧ (¬ (0 : Int32) < 0 ∧ ¬ (0 : Int32) < 0 ∧ ¬ (22 : Int32) < 0 ∧ Int32.toNatClampNeg (0 : Int32) + Int32.toNatClampNeg (22 : Int32) ≤ n33 ∧ Int32.toNatClampNeg (0 : Int32) + Int32.toNatClampNeg (22 : Int32) ≤ n35) ∧ ∀ s38 : PS, s38 = sa s25 a31 (va_cpy (mi s25 a28) (mi s25 a31) (Int32.toNatClampNeg (0 : Int32)) (Int32.toNatClampNeg (0 : Int32)) (Int32.toNatClampNeg (22 : Int32))) → ∀ s40 : PS, s40 = si s38 38 1 ((mi s38 38 1) + 1) → ∀ s42 : PS, s42 = si s40 38 2 (mi s40 38 1) → vp_in (mi s42 38 1) 41 ∧ ∃ a45 : Nat, mr s42 39 (Int32.toNatClampNeg (mi s42 38 1)) = some a45 ∧ P a45 s42) ∧ (¬ 40 ≤ l2 → vp_in (l2 + 1) 41 ∧ ∃ a48 : Nat, mr σ 39 (Int32.toNatClampNeg (l2 + 1)) = some a48 ∧ ∃ n50, kd σ a48 = some (.inr (0, n50)) ∧ vp_in l2 41 ∧ ∀ s53 : PS, s53 = sq σ 39 (Int32.toNatClampNeg l2) (some a48) → ∀ x55 : Int32, x55 = l2 + 1 → VX0_begin g d P 18 [some (.ref 38), some (.ref l1), some (.int x55)] [] s53)) : VX0_begin g d P 18 [some (.ref 38), some (.ref l1), some (.int l2)] [] σ := by
  refine x_iload_n (i := 2) (dxX0_begin_0 11 rfl) rfl rfl ?_
  refine x_bipush (v := 40) (dxX0_begin_0 12 rfl) rfl ?_
  refine x_icmp_ge (tgt := 44) (dxX0_begin_0 13 rfl) (by decide) (fun hc => ?_) (fun hc => ?_)
  · replace h := h.1 hc
    refine x_aload_n (i := 0) (dxX0_begin_0 26 rfl) rfl rfl ?_
    refine gf_0_13 (kd_38 hL) (rv_38_0 hL) (dxX0_begin_0 27 rfl) ?_
    refine x_bipush (v := 40) (dxX0_begin_0 28 rfl) rfl ?_
    refine x_aload_n (i := 1) (dxX0_begin_0 29 rfl) rfl rfl ?_
    refine x_aast (kd_39 hL) ((congrFun (rfl : kd σ = kd σ) _).trans kl1) (vpl 41 40 rfl) (dxX0_begin_0 30 rfl) ?_
    refine x_sto (fun s23 e24 => ?_)
    replace h := h s23 e24
    have hKs23 : kd s23 = kd σ := by rw [e24]; exact (rfl : kd σ = kd σ)
    have hLs23 : Lay s23 := by rw [e24]; exact hL.sq39
    refine x_aload_n (i := 0) (dxX0_begin_0 31 rfl) rfl rfl ?_
    refine x_dup (dxX0_begin_1 0 rfl) rfl ?_
    refine gf_0_16 (kd_38 hLs23) rfl (dxX0_begin_1 1 rfl) ?_
    refine x_iconst (v := 1) (dxX0_begin_1 2 rfl) rfl ?_
    refine x_isub (dxX0_begin_1 3 rfl) ?_
    refine pf_0_16 (kd_38 hLs23) (dxX0_begin_1 4 rfl) ?_
    refine x_sto (fun s25 e26 => ?_)
    replace h := h s25 e26
    have hKs25 : kd s25 = kd σ := by rw [e26]; exact hKs23
    have hLs25 : Lay s25 := by rw [e26]; exact hLs23.si
    refine x_aload_n (i := 0) (dxX0_begin_1 5 rfl) rfl rfl ?_
    refine gf_0_13 (kd_38 hLs25) (rv_38_0 hLs25) (dxX0_begin_1 6 rfl) ?_
    refine x_aload_n (i := 0) (dxX0_begin_1 7 rfl) rfl rfl ?_
    refine gf_0_16 (kd_38 hLs25) rfl (dxX0_begin_1 8 rfl) ?_
    obtain ⟨hi27, h⟩ := h
    obtain ⟨a28, ha29, h⟩ := h
    refine x_aald (Or.inl rfl) (kd_39 hLs25) hi27 ha29 (dxX0_begin_1 9 rfl) ?_
    refine x_iconst (v := 0) (dxX0_begin_1 10 rfl) rfl ?_
    refine x_aload_n (i := 0) (dxX0_begin_1 11 rfl) rfl rfl ?_
    refine gf_0_13 (kd_38 hLs25) (rv_38_0 hLs25) (dxX0_begin_1 12 rfl) ?_
    refine x_aload_n (i := 0) (dxX0_begin_1 13 rfl) rfl rfl ?_
    refine gf_0_16 (kd_38 hLs25) rfl (dxX0_begin_1 14 rfl) ?_
    refine x_iconst (v := 1) (dxX0_begin_1 15 rfl) rfl ?_
    refine x_iadd (dxX0_begin_1 16 rfl) ?_
    obtain ⟨hi30, h⟩ := h
    obtain ⟨a31, ha32, h⟩ := h
    refine x_aald (Or.inl rfl) (kd_39 hLs25) hi30 ha32 (dxX0_begin_1 17 rfl) ?_
    refine x_iconst (v := 0) (dxX0_begin_1 18 rfl) rfl ?_
    refine x_bipush (v := 22) (dxX0_begin_1 19 rfl) rfl ?_
    obtain ⟨n33, hk34, h⟩ := h
    obtain ⟨n35, hk36, h⟩ := h
    obtain ⟨hc37, h⟩ := h
    refine cl_0_29 ((congrFun hKs25 _).trans ((congrFun hKs25 _).symm.trans hk34)) ((congrFun hKs25 _).trans ((congrFun hKs25 _).symm.trans hk36)) hc37.1 hc37.2.1 hc37.2.2.1 hc37.2.2.2.1 hc37.2.2.2.2 (Nat.le_of_ble_eq_true rfl) (dxX0_begin_1 20 rfl) ?_
    refine x_sto (fun s38 e39 => ?_)
    replace h := h s38 e39
    have hKs38 : kd s38 = kd σ := by rw [e39]; exact hKs25
    have hLs38 : Lay s38 := by rw [e39]; exact hLs25.sa
    refine x_aload_n (i := 0) (dxX0_begin_1 21 rfl) rfl rfl ?_
    refine x_dup (dxX0_begin_1 22 rfl) rfl ?_
    refine gf_0_16 (kd_38 hLs38) rfl (dxX0_begin_1 23 rfl) ?_
    refine x_iconst (v := 1) (dxX0_begin_1 24 rfl) rfl ?_
    refine x_iadd (dxX0_begin_1 25 rfl) ?_
    refine pf_0_16 (kd_38 hLs38) (dxX0_begin_1 26 rfl) ?_
    refine x_sto (fun s40 e41 => ?_)
    replace h := h s40 e41
    have hKs40 : kd s40 = kd σ := by rw [e41]; exact hKs38
    have hLs40 : Lay s40 := by rw [e41]; exact hLs38.si
    refine x_aload_n (i := 0) (dxX0_begin_1 27 rfl) rfl rfl ?_
    refine x_aload_n (i := 0) (dxX0_begin_1 28 rfl) rfl rfl ?_
    refine gf_0_16 (kd_38 hLs40) rfl (dxX0_begin_1 29 rfl) ?_
    refine pf_0_20 (kd_38 hLs40) (dxX0_begin_1 30 rfl) ?_
    refine x_sto (fun s42 e43 => ?_)
    replace h := h s42 e43
    have hKs42 : kd s42 = kd σ := by rw [e43]; exact hKs40
    have hLs42 : Lay s42 := by rw [e43]; exact hLs40.si
    refine x_aload_n (i := 0) (dxX0_begin_1 31 rfl) rfl rfl ?_
    refine gf_0_13 (kd_38 hLs42) (rv_38_0 hLs42) (dxX0_begin_2 0 rfl) ?_
    refine x_aload_n (i := 0) (dxX0_begin_2 1 rfl) rfl rfl ?_
    refine gf_0_16 (kd_38 hLs42) rfl (dxX0_begin_2 2 rfl) ?_
    obtain ⟨hi44, h⟩ := h
    obtain ⟨a45, ha46, h⟩ := h
    refine x_aald (Or.inl rfl) (kd_39 hLs42) hi44 ha46 (dxX0_begin_2 3 rfl) ?_
    exact x_aret rfl (dxX0_begin_2 4 rfl) ⟨_, rfl, h⟩
  · replace h := h.2 hc
    refine x_aload_n (i := 0) (dxX0_begin_0 14 rfl) rfl rfl ?_
    refine gf_0_13 (kd_38 hL) (rv_38_0 hL) (dxX0_begin_0 15 rfl) ?_
    refine x_iload_n (i := 2) (dxX0_begin_0 16 rfl) rfl rfl ?_
    refine x_aload_n (i := 0) (dxX0_begin_0 17 rfl) rfl rfl ?_
    refine gf_0_13 (kd_38 hL) (rv_38_0 hL) (dxX0_begin_0 18 rfl) ?_
    refine x_iload_n (i := 2) (dxX0_begin_0 19 rfl) rfl rfl ?_
    refine x_iconst (v := 1) (dxX0_begin_0 20 rfl) rfl ?_
    refine x_iadd (dxX0_begin_0 21 rfl) ?_
    obtain ⟨hi47, h⟩ := h
    obtain ⟨a48, ha49, h⟩ := h
    refine x_aald (Or.inl rfl) (kd_39 hL) hi47 ha49 (dxX0_begin_0 22 rfl) ?_
    obtain ⟨n50, hk51, h⟩ := h
    obtain ⟨hi52, h⟩ := h
    refine x_aast (kd_39 hL) ((congrFun (rfl : kd σ = kd σ) _).trans ((congrFun (rfl : kd σ = kd σ) _).symm.trans hk51)) hi52 (dxX0_begin_0 23 rfl) ?_
    refine x_sto (fun s53 e54 => ?_)
    replace h := h s53 e54
    have hKs53 : kd s53 = kd σ := by rw [e54]; exact (rfl : kd σ = kd σ)
    have hLs53 : Lay s53 := by rw [e54]; exact hL.sq39
    obtain ⟨x55, e56⟩ : ∃ y : Int32, y = l2 + 1 := ⟨_, rfl⟩
    replace h := h x55 e56
    refine x_iinc (v := x55) (dxX0_begin_0 24 rfl) (i := 2) rfl (by rw [e56]; rfl) (Nat.le_of_ble_eq_true rfl) rfl rfl ?_
    refine x_goto (tgt := 18) (dxX0_begin_0 25 rfl) (by decide) ?_
    exact h
