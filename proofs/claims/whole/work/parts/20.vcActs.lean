theorem vcX0_mates {g : GV} {d : Nat} {P : Nat → PS → Prop} {σ : PS} (hL : Lay σ)  (h : vp_in (mi σ 38 1) 41 ∧ ∃ a2 : Nat, mr σ 39 (Int32.toNatClampNeg (mi σ 38 1)) = some a2 ∧ P a2 σ) : CX0_mates g d [.ref 38] σ P := by
  refine x_entry (L := [some (.ref 38)]) pn_0 (Nat.le_of_ble_eq_true rfl) ⟨0, rfl⟩ ?_
  show VX0_mates g d P 0 [some (.ref 38)] [] σ
  refine x_aload_n (i := 0) (dxX0_mates_0 0 rfl) rfl rfl ?_
  refine gf_0_13 (kd_38 hL) (rv_38_0 hL) (dxX0_mates_0 1 rfl) ?_
  refine x_aload_n (i := 0) (dxX0_mates_0 2 rfl) rfl rfl ?_
  refine gf_0_16 (kd_38 hL) rfl (dxX0_mates_0 3 rfl) ?_
  obtain ⟨hi1, h⟩ := h
  obtain ⟨a2, ha3, h⟩ := h
  refine x_aald (Or.inl rfl) (kd_39 hL) hi1 ha3 (dxX0_mates_0 4 rfl) ?_
  exact x_aret rfl (dxX0_mates_0 5 rfl) ⟨_, rfl, h⟩
theorem vcX0_forget {g : GV} {d : Nat} {P : PS → Prop} {σ : PS} (hL : Lay σ)  (h : ∀ s1 : PS, s1 = si σ 38 1 0 → ∀ s3 : PS, s3 = si s1 38 2 0 → ∃ a5 : Nat, mr s3 39 (Int32.toNatClampNeg 0) = some a5 ∧ CJ7_fill_53178 g d [.ref a5, .int (-1)] s3 (fun (s7 : PS) => Fr s3 s7 ∧ P s7)) : CX0_forget g (d + 1) [.ref 38] σ P := by
  refine x_entry (L := [some (.ref 38)]) pn_0 (Nat.le_of_ble_eq_true rfl) ⟨0, rfl⟩ ?_
  show VX0_forget g (d + 1) P 0 [some (.ref 38)] [] σ
  refine x_aload_n (i := 0) (dxX0_forget_0 0 rfl) rfl rfl ?_
  refine x_iconst (v := 0) (dxX0_forget_0 1 rfl) rfl ?_
  refine pf_0_16 (kd_38 hL) (dxX0_forget_0 2 rfl) ?_
  refine x_sto (fun s1 e2 => ?_)
  replace h := h s1 e2
  have hKs1 : kd s1 = kd σ := by rw [e2]; exact (rfl : kd σ = kd σ)
  have hLs1 : Lay s1 := by rw [e2]; exact hL.si
  refine x_aload_n (i := 0) (dxX0_forget_0 3 rfl) rfl rfl ?_
  refine x_iconst (v := 0) (dxX0_forget_0 4 rfl) rfl ?_
  refine pf_0_20 (kd_38 hLs1) (dxX0_forget_0 5 rfl) ?_
  refine x_sto (fun s3 e4 => ?_)
  replace h := h s3 e4
  have hKs3 : kd s3 = kd σ := by rw [e4]; exact hKs1
  have hLs3 : Lay s3 := by rw [e4]; exact hLs1.si
  refine x_aload_n (i := 0) (dxX0_forget_0 6 rfl) rfl rfl ?_
  refine gf_0_13 (kd_38 hLs3) (rv_38_0 hLs3) (dxX0_forget_0 7 rfl) ?_
  refine x_iconst (v := 0) (dxX0_forget_0 8 rfl) rfl ?_
  obtain ⟨a5, ha6, h⟩ := h
  refine x_aald (Or.inl rfl) (kd_39 hLs3) (vpl 41 0 rfl) ha6 (dxX0_forget_0 9 rfl) ?_
  refine x_iconst (v := (-1)) (dxX0_forget_0 10 rfl) rfl ?_
  refine cl_0_23 (Nat.le_of_ble_eq_true rfl) (dxX0_forget_0 11 rfl) h (fun s7 h => ?_) (Nat.le_refl _) (Nat.le_refl _)
  obtain ⟨hFs7, h⟩ := h
  have hKs7 : kd s7 = kd σ := hFs7.1.trans hKs3
  have hLs7 : Lay s7 := hLs3.fr hFs7
  exact x_vret rfl (dxX0_forget_0 12 rfl) ⟨rfl, h⟩
-- FAIL ('GluedPaper$Acts', 'begin', '()[I') Exception(('op', '.aastore', ('GluedPaper$Acts', 'begin', '()[I'), 51))
