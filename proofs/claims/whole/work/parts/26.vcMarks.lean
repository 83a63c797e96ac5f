theorem vcX6_lay {g : GV} {d : Nat} {P : PS → Prop} {σ : PS} (hL : Lay σ) (p0 : Int32) (p1 np1 : Nat) (kp1 : kd σ p1 = some (.inr (0, np1))) (p2 np2 : Nat) (kp2 : kd σ p2 = some (.inr (0, np2))) (h : vp_in p0 4 ∧ ∀ s2 : PS, s2 = si σ 168 (Int32.toNatClampNeg p0) (vp_nar .boolean 1) → vp_in p0 4 ∧ ∃ a5 : Nat, mr s2 169 (Int32.toNatClampNeg p0) = some a5 ∧ ∃ n7, kd s2 a5 = some (.inr (0, n7)) ∧ (¬ (0 : Int32) < 0 ∧ ¬ (0 : Int32) < 0 ∧ ¬ (16 : Int32) < 0 ∧ Int32.toNatClampNeg (0 : Int32) + Int32.toNatClampNeg (16 : Int32) ≤ np1 ∧ Int32.toNatClampNeg (0 : Int32) + Int32.toNatClampNeg (16 : Int32) ≤ n7) ∧ ∀ s10 : PS, s10 = sa s2 a5 (va_cpy (mi s2 p1) (mi s2 a5) (Int32.toNatClampNeg (0 : Int32)) (Int32.toNatClampNeg (0 : Int32)) (Int32.toNatClampNeg (16 : Int32))) → vp_in p0 4 ∧ ∃ a13 : Nat, mr s10 174 (Int32.toNatClampNeg p0) = some a13 ∧ ∃ n15, kd s10 a13 = some (.inr (0, n15)) ∧ (¬ (0 : Int32) < 0 ∧ ¬ (0 : Int32) < 0 ∧ ¬ (22 : Int32) < 0 ∧ Int32.toNatClampNeg (0 : Int32) + Int32.toNatClampNeg (22 : Int32) ≤ np2 ∧ Int32.toNatClampNeg (0 : Int32) + Int32.toNatClampNeg (22 : Int32) ≤ n15) ∧ ∀ s18 : PS, s18 = sa s10 a13 (va_cpy (mi s10 p2) (mi s10 a13) (Int32.toNatClampNeg (0 : Int32)) (Int32.toNatClampNeg (0 : Int32)) (Int32.toNatClampNeg (22 : Int32))) → P s18) : CX6_lay g d [.ref 167, .int p0, .ref p1, .ref p2] σ P := by
  refine x_entry (L := [some (.ref 167), some (.int p0), some (.ref p1), some (.ref p2)]) pn_6 (Nat.le_of_ble_eq_true rfl) ⟨0, rfl⟩ ?_
  show VX6_lay g d P 0 [some (.ref 167), some (.int p0), some (.ref p1), some (.ref p2)] [] σ
  refine x_aload_n (i := 0) (dxX6_lay_0 0 rfl) rfl rfl ?_
  refine gf_6_11 (kd_167 hL) (rv_167_0 hL) (dxX6_lay_0 1 rfl) ?_
  refine x_iload_n (i := 1) (dxX6_lay_0 2 rfl) rfl rfl ?_
  refine x_iconst (v := 1) (dxX6_lay_0 3 rfl) rfl ?_
  obtain ⟨hi1, h⟩ := h
  refine x_zast (kd_168 hL) hi1 (dxX6_lay_0 4 rfl) ?_
  refine x_sto (fun s2 e3 => ?_)
  replace h := h s2 e3
  have hKs2 : kd s2 = kd σ := by rw [e3]; exact (rfl : kd σ = kd σ)
  have hLs2 : Lay s2 := by rw [e3]; exact hL.si
  refine x_aload_n (i := 2) (dxX6_lay_0 5 rfl) rfl rfl ?_
  refine x_iconst (v := 0) (dxX6_lay_0 6 rfl) rfl ?_
  refine x_aload_n (i := 0) (dxX6_lay_0 7 rfl) rfl rfl ?_
  refine gf_6_19 (kd_167 hLs2) (rv_167_1 hLs2) (dxX6_lay_0 8 rfl) ?_
  refine x_iload_n (i := 1) (dxX6_lay_0 9 rfl) rfl rfl ?_
  obtain ⟨hi4, h⟩ := h
  obtain ⟨a5, ha6, h⟩ := h
  refine x_aald (Or.inl rfl) (kd_169 hLs2) hi4 ha6 (dxX6_lay_0 10 rfl) ?_
  refine x_iconst (v := 0) (dxX6_lay_0 11 rfl) rfl ?_
  refine x_bipush (v := 16) (dxX6_lay_0 12 rfl) rfl ?_
  obtain ⟨n7, hk8, h⟩ := h
  obtain ⟨hc9, h⟩ := h
  refine cl_6_25 ((congrFun hKs2 _).trans kp1) ((congrFun hKs2 _).trans ((congrFun hKs2 _).symm.trans hk8)) hc9.1 hc9.2.1 hc9.2.2.1 hc9.2.2.2.1 hc9.2.2.2.2 (Nat.le_of_ble_eq_true rfl) (dxX6_lay_0 13 rfl) ?_
  refine x_sto (fun s10 e11 => ?_)
  replace h := h s10 e11
  have hKs10 : kd s10 = kd σ := by rw [e11]; exact hKs2
  have hLs10 : Lay s10 := by rw [e11]; exact hLs2.sa
  refine x_aload_n (i := 3) (dxX6_lay_0 14 rfl) rfl rfl ?_
  refine x_iconst (v := 0) (dxX6_lay_0 15 rfl) rfl ?_
  refine x_aload_n (i := 0) (dxX6_lay_0 16 rfl) rfl rfl ?_
  refine gf_6_22 (kd_167 hLs10) (rv_167_2 hLs10) (dxX6_lay_0 17 rfl) ?_
  refine x_iload_n (i := 1) (dxX6_lay_0 18 rfl) rfl rfl ?_
  obtain ⟨hi12, h⟩ := h
  obtain ⟨a13, ha14, h⟩ := h
  refine x_aald (Or.inl rfl) (kd_174 hLs10) hi12 ha14 (dxX6_lay_0 19 rfl) ?_
  refine x_iconst (v := 0) (dxX6_lay_0 20 rfl) rfl ?_
  refine x_bipush (v := 22) (dxX6_lay_0 21 rfl) rfl ?_
  obtain ⟨n15, hk16, h⟩ := h
  obtain ⟨hc17, h⟩ := h
  refine cl_6_25 ((congrFun hKs10 _).trans kp2) ((congrFun hKs10 _).trans ((congrFun hKs10 _).symm.trans hk16)) hc17.1 hc17.2.1 hc17.2.2.1 hc17.2.2.2.1 hc17.2.2.2.2 (Nat.le_of_ble_eq_true rfl) (dxX6_lay_0 22 rfl) ?_
  refine x_sto (fun s18 e19 => ?_)
  replace h := h s18 e19
  have hKs18 : kd s18 = kd σ := by rw [e19]; exact hKs10
  have hLs18 : Lay s18 := by rw [e19]; exact hLs10.sa
  exact x_vret rfl (dxX6_lay_0 23 rfl) ⟨rfl, h⟩
