/-! copies over a cut layout, written by wip/gen/cpy.py Y 224 186 sp_shapes -/
def LayY (σ : PS) : Prop := (∀ q ∈ layK.take 224, kd σ q.1 = some q.2) ∧ ∀ q ∈ layR.take 186, mr σ q.1 q.2.1 = some q.2.2
theorem LayY.fr {σ s : PS} (h : LayY σ) (f : Fr σ s) : LayY s := ⟨fun q hq => by rw [f.1]; exact h.1 q hq, fun q hq => by rw [f.2]; exact h.2 q hq⟩
theorem LayY.si {s : PS} {a i : Nat} {v : Int32} (h : LayY s) : LayY (si s a i v) := h
theorem kd_179Y {s : PS} (h : LayY s) : kd s 179 = some (.inl 12) := h.1 (179, .inl 12) (List.mem_of_getElem? (i := 169) (by decide +kernel))
theorem kd_201Y {s : PS} (h : LayY s) : kd s 201 = some (.inr (0, 10)) := h.1 (201, .inr (0, 10)) (List.mem_of_getElem? (i := 191) (by decide +kernel))
theorem kd_202Y {s : PS} (h : LayY s) : kd s 202 = some (.inr (0, 10)) := h.1 (202, .inr (0, 10)) (List.mem_of_getElem? (i := 192) (by decide +kernel))
theorem kd_203Y {s : PS} (h : LayY s) : kd s 203 = some (.inr (0, 24)) := h.1 (203, .inr (0, 24)) (List.mem_of_getElem? (i := 193) (by decide +kernel))
theorem kd_204Y {s : PS} (h : LayY s) : kd s 204 = some (.inr (0, 24)) := h.1 (204, .inr (0, 24)) (List.mem_of_getElem? (i := 194) (by decide +kernel))
theorem kd_205Y {s : PS} (h : LayY s) : kd s 205 = some (.inr (0, 24)) := h.1 (205, .inr (0, 24)) (List.mem_of_getElem? (i := 195) (by decide +kernel))
theorem kd_206Y {s : PS} (h : LayY s) : kd s 206 = some (.inr (0, 40)) := h.1 (206, .inr (0, 40)) (List.mem_of_getElem? (i := 196) (by decide +kernel))
theorem kd_209Y {s : PS} (h : LayY s) : kd s 209 = some (.inr (0, 24)) := h.1 (209, .inr (0, 24)) (List.mem_of_getElem? (i := 199) (by decide +kernel))
theorem mr_179_36Y {s : PS} (h : LayY s) : mr s 179 36 = some 201 := h.2 (179, 36, 201) (List.mem_of_getElem? (i := 153) (by decide +kernel))
theorem rv_179_36Y {s : PS} (h : LayY s) : fv s 12 179 36 = .ref 201 := by
  show va_rf (mr s 179 36) = _
  rw [mr_179_36Y h]
  rfl
theorem mr_179_37Y {s : PS} (h : LayY s) : mr s 179 37 = some 202 := h.2 (179, 37, 202) (List.mem_of_getElem? (i := 154) (by decide +kernel))
theorem rv_179_37Y {s : PS} (h : LayY s) : fv s 12 179 37 = .ref 202 := by
  show va_rf (mr s 179 37) = _
  rw [mr_179_37Y h]
  rfl
theorem mr_179_39Y {s : PS} (h : LayY s) : mr s 179 39 = some 203 := h.2 (179, 39, 203) (List.mem_of_getElem? (i := 155) (by decide +kernel))
theorem rv_179_39Y {s : PS} (h : LayY s) : fv s 12 179 39 = .ref 203 := by
  show va_rf (mr s 179 39) = _
  rw [mr_179_39Y h]
  rfl
theorem mr_179_40Y {s : PS} (h : LayY s) : mr s 179 40 = some 204 := h.2 (179, 40, 204) (List.mem_of_getElem? (i := 156) (by decide +kernel))
theorem rv_179_40Y {s : PS} (h : LayY s) : fv s 12 179 40 = .ref 204 := by
  show va_rf (mr s 179 40) = _
  rw [mr_179_40Y h]
  rfl
theorem mr_179_41Y {s : PS} (h : LayY s) : mr s 179 41 = some 205 := h.2 (179, 41, 205) (List.mem_of_getElem? (i := 157) (by decide +kernel))
theorem rv_179_41Y {s : PS} (h : LayY s) : fv s 12 179 41 = .ref 205 := by
  show va_rf (mr s 179 41) = _
  rw [mr_179_41Y h]
  rfl
theorem mr_179_42Y {s : PS} (h : LayY s) : mr s 179 42 = some 206 := h.2 (179, 42, 206) (List.mem_of_getElem? (i := 158) (by decide +kernel))
theorem rv_179_42Y {s : PS} (h : LayY s) : fv s 12 179 42 = .ref 206 := by
  show va_rf (mr s 179 42) = _
  rw [mr_179_42Y h]
  rfl
theorem mr_179_45Y {s : PS} (h : LayY s) : mr s 179 45 = some 209 := h.2 (179, 45, 209) (List.mem_of_getElem? (i := 161) (by decide +kernel))
theorem rv_179_45Y {s : PS} (h : LayY s) : fv s 12 179 45 = .ref 209 := by
  show va_rf (mr s 179 45) = _
  rw [mr_179_45Y h]
  rfl
theorem vcX12_cellAtY {g : GV} {d : Nat} {P : Int32 → PS → Prop} {σ : PS} (hL : LayY σ) (p0 : Int32) (p1 : Int32) (h : VX12_cellAt g d P 2 [some (.ref 179), some (.int p0), some (.int p1), some (.int 0)] [] σ) : CX12_cellAt g d [.ref 179, .int p0, .int p1] σ P := by
  refine x_entry (L := [some (.ref 179), some (.int p0), some (.int p1), none]) pn_12 (Nat.le_of_ble_eq_true rfl) ⟨1, rfl⟩ ?_
  show VX12_cellAt g d P 0 [some (.ref 179), some (.int p0), some (.int p1), none] [] σ
  refine x_iconst (v := 0) (dxX12_cellAt_0 0 rfl) rfl ?_
  refine x_istore_n (i := 3) (dxX12_cellAt_0 1 rfl) rfl (Nat.le_of_ble_eq_true rfl) rfl rfl ?_
  exact h
theorem vcX12_cellAt_2Y {g : GV} {d : Nat} {P : Int32 → PS → Prop} {σ : PS} (hL : LayY σ) (l1 : Int32) (l2 : Int32) (l3 : Int32) (h : ((mi σ 179 35) ≤ l3 → P (-1) σ) ∧ (¬ (mi σ 179 35) ≤ l3 → vp_in l3 10 ∧ (¬ (mi σ 201 (Int32.toNatClampNeg l3)) = l1 → ∀ x2 : Int32, x2 = l3 + 1 → VX12_cellAt g d P 2 [some (.ref 179), some (.int l1), some (.int l2), some (.int x2)] [] σ) ∧ ((mi σ 201 (Int32.toNatClampNeg l3)) = l1 → vp_in l3 10 ∧ (¬ (mi σ 202 (Int32.toNatClampNeg l3)) = l2 → ∀ x5 : Int32, x5 = l3 + 1 → VX12_cellAt g d P 2 [some (.ref 179), some (.int l1), some (.int l2), some (.int x5)] [] σ) ∧ ((mi σ 202 (Int32.toNatClampNeg l3)) = l2 → P l3 σ)))) : VX12_cellAt g d P 2 [some (.ref 179), some (.int l1), some (.int l2), some (.int l3)] [] σ := by
  refine x_iload_n (i := 3) (dxX12_cellAt_0 2 rfl) rfl rfl ?_
  refine x_aload_n (i := 0) (dxX12_cellAt_0 3 rfl) rfl rfl ?_
  refine gf_12_177 (kd_179Y hL) rfl (dxX12_cellAt_0 4 rfl) ?_
  refine x_icmp_ge (tgt := 38) (dxX12_cellAt_0 5 rfl) (by decide) (fun hc => ?_) (fun hc => ?_)
  · replace h := h.1 hc
    refine x_iconst (v := (-1)) (dxX12_cellAt_0 22 rfl) rfl ?_
    exact x_iret (ty := .int) rfl rfl (dxX12_cellAt_0 23 rfl) ⟨_, rfl, h⟩
  · replace h := h.2 hc
    refine x_aload_n (i := 0) (dxX12_cellAt_0 6 rfl) rfl rfl ?_
    refine gf_12_75 (kd_179Y hL) (rv_179_36Y hL) (dxX12_cellAt_0 7 rfl) ?_
    refine x_iload_n (i := 3) (dxX12_cellAt_0 8 rfl) rfl rfl ?_
    obtain ⟨hi1, h⟩ := h
    refine x_iald (kd_201Y hL) hi1 (dxX12_cellAt_0 9 rfl) ?_
    refine x_iload_n (i := 1) (dxX12_cellAt_0 10 rfl) rfl rfl ?_
    refine x_icmp_ne (tgt := 32) (dxX12_cellAt_0 11 rfl) (by decide) (fun hc => ?_) (fun hc => ?_)
    · replace h := h.1 hc
      obtain ⟨x2, e3⟩ : ∃ y : Int32, y = l3 + 1 := ⟨_, rfl⟩
      replace h := h x2 e3
      refine x_iinc (v := x2) (dxX12_cellAt_0 20 rfl) (i := 3) rfl (by rw [e3]; rfl) (Nat.le_of_ble_eq_true rfl) rfl rfl ?_
      refine x_goto (tgt := 2) (dxX12_cellAt_0 21 rfl) (by decide) ?_
      exact h
    · replace h := h.2 hc
      refine x_aload_n (i := 0) (dxX12_cellAt_0 12 rfl) rfl rfl ?_
      refine gf_12_78 (kd_179Y hL) (rv_179_37Y hL) (dxX12_cellAt_0 13 rfl) ?_
      refine x_iload_n (i := 3) (dxX12_cellAt_0 14 rfl) rfl rfl ?_
      obtain ⟨hi4, h⟩ := h
      refine x_iald (kd_202Y hL) hi4 (dxX12_cellAt_0 15 rfl) ?_
      refine x_iload_n (i := 2) (dxX12_cellAt_0 16 rfl) rfl rfl ?_
      refine x_icmp_ne (tgt := 32) (dxX12_cellAt_0 17 rfl) (by decide) (fun hc => ?_) (fun hc => ?_)
      · replace h := h.1 hc
        obtain ⟨x5, e6⟩ : ∃ y : Int32, y = l3 + 1 := ⟨_, rfl⟩
        replace h := h x5 e6
        refine x_iinc (v := x5) (dxX12_cellAt_0 20 rfl) (i := 3) rfl (by rw [e6]; rfl) (Nat.le_of_ble_eq_true rfl) rfl rfl ?_
        refine x_goto (tgt := 2) (dxX12_cellAt_0 21 rfl) (by decide) ?_
        exact h
      · replace h := h.2 hc
        refine x_iload_n (i := 3) (dxX12_cellAt_0 18 rfl) rfl rfl ?_
        exact x_iret (ty := .int) rfl rfl (dxX12_cellAt_0 19 rfl) ⟨_, rfl, h⟩
theorem vcX12_eastY {g : GV} {d : Nat} {P : Int32 → PS → Prop} {σ : PS} (hL : LayY σ) (p0 : Int32) (h : (¬ p0 = 1 → (¬ p0 = 3 → P 0 σ) ∧ (p0 = 3 → P (-1) σ)) ∧ (p0 = 1 → P 1 σ)) : CX12_east g d [.int p0] σ P := by
  refine x_entry (L := [some (.int p0)]) pn_12 (Nat.le_of_ble_eq_true rfl) ⟨0, rfl⟩ ?_
  show VX12_east g d P 0 [some (.int p0)] [] σ
  refine x_iload_n (i := 0) (dxX12_east_0 0 rfl) rfl rfl ?_
  refine x_iconst (v := 1) (dxX12_east_0 1 rfl) rfl ?_
  refine x_icmp_ne (tgt := 9) (dxX12_east_0 2 rfl) (by decide) (fun hc => ?_) (fun hc => ?_)
  · replace h := h.1 hc
    refine x_iload_n (i := 0) (dxX12_east_0 5 rfl) rfl rfl ?_
    refine x_iconst (v := 3) (dxX12_east_0 6 rfl) rfl ?_
    refine x_icmp_ne (tgt := 18) (dxX12_east_0 7 rfl) (by decide) (fun hc => ?_) (fun hc => ?_)
    · replace h := h.1 hc
      refine x_iconst (v := 0) (dxX12_east_0 10 rfl) rfl ?_
      exact x_iret (ty := .int) rfl rfl (dxX12_east_0 11 rfl) ⟨_, rfl, h⟩
    · replace h := h.2 hc
      refine x_iconst (v := (-1)) (dxX12_east_0 8 rfl) rfl ?_
      refine x_goto (tgt := 19) (dxX12_east_0 9 rfl) (by decide) ?_
      exact x_iret (ty := .int) rfl rfl (dxX12_east_0 11 rfl) ⟨_, rfl, h⟩
  · replace h := h.2 hc
    refine x_iconst (v := 1) (dxX12_east_0 3 rfl) rfl ?_
    refine x_goto (tgt := 19) (dxX12_east_0 4 rfl) (by decide) ?_
    exact x_iret (ty := .int) rfl rfl (dxX12_east_0 11 rfl) ⟨_, rfl, h⟩
theorem vcX12_northY {g : GV} {d : Nat} {P : Int32 → PS → Prop} {σ : PS} (hL : LayY σ) (p0 : Int32) (h : (¬ p0 = 2 → (¬ p0 = 0 → P 0 σ) ∧ (p0 = 0 → P (-1) σ)) ∧ (p0 = 2 → P 1 σ)) : CX12_north g d [.int p0] σ P := by
  refine x_entry (L := [some (.int p0)]) pn_12 (Nat.le_of_ble_eq_true rfl) ⟨0, rfl⟩ ?_
  show VX12_north g d P 0 [some (.int p0)] [] σ
  refine x_iload_n (i := 0) (dxX12_north_0 0 rfl) rfl rfl ?_
  refine x_iconst (v := 2) (dxX12_north_0 1 rfl) rfl ?_
  refine x_icmp_ne (tgt := 9) (dxX12_north_0 2 rfl) (by decide) (fun hc => ?_) (fun hc => ?_)
  · replace h := h.1 hc
    refine x_iload_n (i := 0) (dxX12_north_0 5 rfl) rfl rfl ?_
    refine x_if_ne (tgt := 17) (dxX12_north_0 6 rfl) (by decide) (fun hc => ?_) (fun hc => ?_)
    · replace h := h.1 hc
      refine x_iconst (v := 0) (dxX12_north_0 9 rfl) rfl ?_
      exact x_iret (ty := .int) rfl rfl (dxX12_north_0 10 rfl) ⟨_, rfl, h⟩
    · replace h := h.2 hc
      refine x_iconst (v := (-1)) (dxX12_north_0 7 rfl) rfl ?_
      refine x_goto (tgt := 18) (dxX12_north_0 8 rfl) (by decide) ?_
      exact x_iret (ty := .int) rfl rfl (dxX12_north_0 10 rfl) ⟨_, rfl, h⟩
  · replace h := h.2 hc
    refine x_iconst (v := 1) (dxX12_north_0 3 rfl) rfl ?_
    refine x_goto (tgt := 18) (dxX12_north_0 4 rfl) (by decide) ?_
    exact x_iret (ty := .int) rfl rfl (dxX12_north_0 10 rfl) ⟨_, rfl, h⟩
theorem vcX12_behindY {g : GV} {d : Nat} {P : Int32 → PS → Prop} {σ : PS} (hL : LayY σ) (p0 : Int32) (p1 : Int32) (h : vp_in p0 10 ∧ CX12_east g d [.int p1] σ (fun (v3 : Int32) (s2 : PS) => Fr σ s2 ∧ vp_in p0 10 ∧ CX12_north g d [.int p1] s2 (fun (v6 : Int32) (s5 : PS) => Fr s2 s5 ∧ CX12_cellAt g d [.ref 179, .int ((mi σ 201 (Int32.toNatClampNeg p0)) + v3), .int ((mi s2 202 (Int32.toNatClampNeg p0)) + v6)] s5 (fun (v8 : Int32) (s7 : PS) => Fr s5 s7 ∧ P v8 s7)))) : CX12_behind g (d + 1) [.ref 179, .int p0, .int p1] σ P := by
  refine x_entry (L := [some (.ref 179), some (.int p0), some (.int p1)]) pn_12 (Nat.le_of_ble_eq_true rfl) ⟨0, rfl⟩ ?_
  show VX12_behind g (d + 1) P 0 [some (.ref 179), some (.int p0), some (.int p1)] [] σ
  refine x_aload_n (i := 0) (dxX12_behind_0 0 rfl) rfl rfl ?_
  refine x_aload_n (i := 0) (dxX12_behind_0 1 rfl) rfl rfl ?_
  refine gf_12_75 (kd_179Y hL) (rv_179_36Y hL) (dxX12_behind_0 2 rfl) ?_
  refine x_iload_n (i := 1) (dxX12_behind_0 3 rfl) rfl rfl ?_
  obtain ⟨hi1, h⟩ := h
  refine x_iald (kd_201Y hL) hi1 (dxX12_behind_0 4 rfl) ?_
  refine x_iload_n (i := 2) (dxX12_behind_0 5 rfl) rfl rfl ?_
  refine cl_12_323 (Nat.le_of_ble_eq_true rfl) (dxX12_behind_0 6 rfl) h (fun v3 s2 h => ?_) (Nat.le_refl _) (Nat.le_refl _)
  obtain ⟨hFs2, h⟩ := h
  have hKs2 : kd s2 = kd σ := hFs2.1.trans (rfl : kd σ = kd σ)
  have hLs2 : LayY s2 := hL.fr hFs2
  refine x_iadd (dxX12_behind_0 7 rfl) ?_
  refine x_aload_n (i := 0) (dxX12_behind_0 8 rfl) rfl rfl ?_
  refine gf_12_78 (kd_179Y hLs2) (rv_179_37Y hLs2) (dxX12_behind_0 9 rfl) ?_
  refine x_iload_n (i := 1) (dxX12_behind_0 10 rfl) rfl rfl ?_
  obtain ⟨hi4, h⟩ := h
  refine x_iald (kd_202Y hLs2) hi4 (dxX12_behind_0 11 rfl) ?_
  refine x_iload_n (i := 2) (dxX12_behind_0 12 rfl) rfl rfl ?_
  refine cl_12_326 (Nat.le_of_ble_eq_true rfl) (dxX12_behind_0 13 rfl) h (fun v6 s5 h => ?_) (Nat.le_refl _) (Nat.le_refl _)
  obtain ⟨hFs5, h⟩ := h
  have hKs5 : kd s5 = kd σ := hFs5.1.trans hKs2
  have hLs5 : LayY s5 := hLs2.fr hFs5
  refine x_iadd (dxX12_behind_0 14 rfl) ?_
  refine cl_12_329 (kd_179Y hLs5) (Nat.le_of_ble_eq_true rfl) (dxX12_behind_0 15 rfl) h (fun v8 s7 h => ?_) (Nat.le_refl _) (Nat.le_refl _)
  obtain ⟨hFs7, h⟩ := h
  have hKs7 : kd s7 = kd σ := hFs7.1.trans hKs5
  have hLs7 : LayY s7 := hLs5.fr hFs7
  exact x_iret (ty := .int) rfl rfl (dxX12_behind_0 16 rfl) ⟨_, rfl, h⟩
theorem vcX12_shapesY {g : GV} {d : Nat} {P : PS → Prop} {σ : PS} (hL : LayY σ)  (h : VX12_shapes g (d + 1) P 2 [some (.ref 179), some (.int 0), none, none, none, none] [] σ) : CX12_shapes g (d + 1) [.ref 179] σ P := by
  refine x_entry (L := [some (.ref 179), none, none, none, none, none]) pn_12 (Nat.le_of_ble_eq_true rfl) ⟨5, rfl⟩ ?_
  show VX12_shapes g (d + 1) P 0 [some (.ref 179), none, none, none, none, none] [] σ
  refine x_iconst (v := 0) (dxX12_shapes_0 0 rfl) rfl ?_
  refine x_istore_n (i := 1) (dxX12_shapes_0 1 rfl) rfl (Nat.le_of_ble_eq_true rfl) rfl rfl ?_
  exact h
theorem vcX12_shapes_2Y {g : GV} {d : Nat} {P : PS → Prop} {σ : PS} (hL : LayY σ) (l1 : Int32) (h : (40 ≤ l1 → ∀ s1 : PS, s1 = si σ 179 38 0 → VX12_shapes g (d + 1) P 32 [some (.ref 179), some (.int 0), some (.int 0), some (.int 0), none, none] [] s1) ∧ (¬ 40 ≤ l1 → vp_in l1 40 ∧ ∀ s4 : PS, s4 = si σ 206 (Int32.toNatClampNeg l1) (-1) → ∀ x6 : Int32, x6 = l1 + 1 → VX12_shapes g (d + 1) P 2 [some (.ref 179), some (.int x6), none, none, none, none] [] s4)) : VX12_shapes g (d + 1) P 2 [some (.ref 179), some (.int l1), none, none, none, none] [] σ := by
  refine x_iload_n (i := 1) (dxX12_shapes_0 2 rfl) rfl rfl ?_
  refine x_bipush (v := 40) (dxX12_shapes_0 3 rfl) rfl ?_
  refine x_icmp_ge (tgt := 21) (dxX12_shapes_0 4 rfl) (by decide) (fun hc => ?_) (fun hc => ?_)
  · replace h := h.1 hc
    refine x_aload_n (i := 0) (dxX12_shapes_0 12 rfl) rfl rfl ?_
    refine x_iconst (v := 0) (dxX12_shapes_0 13 rfl) rfl ?_
    refine pf_12_332 (kd_179Y hL) (dxX12_shapes_0 14 rfl) ?_
    refine x_sto (fun s1 e2 => ?_)
    replace h := h s1 e2
    have hKs1 : kd s1 = kd σ := by rw [e2]; exact (rfl : kd σ = kd σ)
    have hLs1 : LayY s1 := by rw [e2]; exact hL.si
    refine x_iconst (v := 0) (dxX12_shapes_0 15 rfl) rfl ?_
    refine x_istore_n (i := 1) (dxX12_shapes_0 16 rfl) rfl (Nat.le_of_ble_eq_true rfl) rfl rfl ?_
    refine x_iconst (v := 0) (dxX12_shapes_0 17 rfl) rfl ?_
    refine x_istore_n (i := 2) (dxX12_shapes_0 18 rfl) rfl (Nat.le_of_ble_eq_true rfl) rfl rfl ?_
    refine x_iconst (v := 0) (dxX12_shapes_0 19 rfl) rfl ?_
    refine x_istore_n (i := 3) (dxX12_shapes_0 20 rfl) rfl (Nat.le_of_ble_eq_true rfl) rfl rfl ?_
    exact h
  · replace h := h.2 hc
    refine x_aload_n (i := 0) (dxX12_shapes_0 5 rfl) rfl rfl ?_
    refine gf_12_90 (kd_179Y hL) (rv_179_42Y hL) (dxX12_shapes_0 6 rfl) ?_
    refine x_iload_n (i := 1) (dxX12_shapes_0 7 rfl) rfl rfl ?_
    refine x_iconst (v := (-1)) (dxX12_shapes_0 8 rfl) rfl ?_
    obtain ⟨hi3, h⟩ := h
    refine x_iast (kd_206Y hL) hi3 (dxX12_shapes_0 9 rfl) ?_
    refine x_sto (fun s4 e5 => ?_)
    replace h := h s4 e5
    have hKs4 : kd s4 = kd σ := by rw [e5]; exact (rfl : kd σ = kd σ)
    have hLs4 : LayY s4 := by rw [e5]; exact hL.si
    obtain ⟨x6, e7⟩ : ∃ y : Int32, y = l1 + 1 := ⟨_, rfl⟩
    replace h := h x6 e7
    refine x_iinc (v := x6) (dxX12_shapes_0 10 rfl) (i := 1) rfl (by rw [e7]; rfl) (Nat.le_of_ble_eq_true rfl) rfl rfl ?_
    refine x_goto (tgt := 2) (dxX12_shapes_0 11 rfl) (by decide) ?_
    exact h
theorem vcX12_shapes_32Y {g : GV} {d : Nat} {P : PS → Prop} {σ : PS} (hL : LayY σ) (l1 : Int32) (l2 : Int32) (l3 : Int32) (h : ((mi σ 179 38) = 0 → VX12_shapes g (d + 1) P 47 [some (.ref 179), some (.int l1), some (.int l2), some (.int l3), none, none] [] σ) ∧ (¬ (mi σ 179 38) = 0 → (¬ l1 = 0 → VX12_shapes g (d + 1) P 47 [some (.ref 179), some (.int l1), some (.int l2), some (.int l3), none, none] [] σ) ∧ (l1 = 0 → (l2 = 0 → ∀ s8 : PS, s8 = si σ 205 (Int32.toNatClampNeg 0) l3 → ∀ s10 : PS, s10 = si s8 179 47 0 → VX12_shapes g (d + 1) P 219 [some (.ref 179), none, none, none, some (.int 0), none] [] s10) ∧ (¬ l2 = 0 → VX12_shapes g (d + 1) P 47 [some (.ref 179), some (.int l1), some (.int l2), some (.int l3), none, none] [] σ)))) : VX12_shapes g (d + 1) P 32 [some (.ref 179), some (.int l1), some (.int l2), some (.int l3), none, none] [] σ := by
  refine x_aload_n (i := 0) (dxX12_shapes_0 21 rfl) rfl rfl ?_
  refine gf_12_332 (kd_179Y hL) rfl (dxX12_shapes_0 22 rfl) ?_
  refine x_if_eq (tgt := 47) (dxX12_shapes_0 23 rfl) (by decide) (fun hc => ?_) (fun hc => ?_)
  · replace h := h.1 hc
    exact h
  · replace h := h.2 hc
    refine x_iload_n (i := 1) (dxX12_shapes_0 24 rfl) rfl rfl ?_
    refine x_if_ne (tgt := 47) (dxX12_shapes_0 25 rfl) (by decide) (fun hc => ?_) (fun hc => ?_)
    · replace h := h.1 hc
      exact h
    · replace h := h.2 hc
      refine x_iload_n (i := 2) (dxX12_shapes_0 26 rfl) rfl rfl ?_
      refine x_if_eq (tgt := 204) (dxX12_shapes_0 27 rfl) (by decide) (fun hc => ?_) (fun hc => ?_)
      · replace h := h.1 hc
        refine x_aload_n (i := 0) (dxX12_shapes_3 27 rfl) rfl rfl ?_
        refine gf_12_87 (kd_179Y hL) (rv_179_41Y hL) (dxX12_shapes_3 28 rfl) ?_
        refine x_iconst (v := 0) (dxX12_shapes_3 29 rfl) rfl ?_
        refine x_iload_n (i := 3) (dxX12_shapes_3 30 rfl) rfl rfl ?_
        refine x_iast (kd_205Y hL) (vpl 24 0 rfl) (dxX12_shapes_3 31 rfl) ?_
        refine x_sto (fun s8 e9 => ?_)
        replace h := h s8 e9
        have hKs8 : kd s8 = kd σ := by rw [e9]; exact (rfl : kd σ = kd σ)
        have hLs8 : LayY s8 := by rw [e9]; exact hL.si
        refine x_aload_n (i := 0) (dxX12_shapes_4 0 rfl) rfl rfl ?_
        refine x_iconst (v := 0) (dxX12_shapes_4 1 rfl) rfl ?_
        refine pf_12_338 (Or.inl rfl) (kd_179Y hLs8) (dxX12_shapes_4 2 rfl) ?_
        refine x_sto (fun s10 e11 => ?_)
        replace h := h s10 e11
        have hKs10 : kd s10 = kd σ := by rw [e11]; exact hKs8
        have hLs10 : LayY s10 := by rw [e11]; exact hLs8.si
        refine x_iconst (v := 0) (dxX12_shapes_4 3 rfl) rfl ?_
        refine x_istore (dxX12_shapes_4 4 rfl) (Nat.le_of_ble_eq_true rfl) rfl rfl ?_
        refine x_mask [true, false, false, false, true, false] (L1 := [some (.ref 179), none, none, none, some (.int 0), none]) rfl ?_
        exact h
      · replace h := h.2 hc
        exact h
theorem vcX12_shapes_47Y {g : GV} {d : Nat} {P : PS → Prop} {σ : PS} (hL : LayY σ) (l1 : Int32) (l2 : Int32) (l3 : Int32) (h : vp_in (mi σ 179 38) 24 ∧ ∀ s13 : PS, s13 = si σ 203 (Int32.toNatClampNeg (mi σ 179 38)) l1 → vp_in (mi s13 179 38) 24 ∧ ∀ s16 : PS, s16 = si s13 204 (Int32.toNatClampNeg (mi s13 179 38)) l2 → vp_in (mi s16 179 38) 24 ∧ ∀ s19 : PS, s19 = si s16 205 (Int32.toNatClampNeg (mi s16 179 38)) l3 → vp_in ((4 * l1) + l2) 40 ∧ ∀ s22 : PS, s22 = si s19 206 (Int32.toNatClampNeg ((4 * l1) + l2)) (mi s19 179 38) → ∀ s24 : PS, s24 = si s22 179 38 ((mi s22 179 38) + 1) → CX12_behind g d [.ref 179, .int l1, .int (jrem (l2 + 1) 4)] s24 (fun (v27 : Int32) (s26 : PS) => Fr s24 s26 ∧ (0 ≤ v27 → CX12_behind g d [.ref 179, .int v27, .int l2] s26 (fun (v29 : Int32) (s28 : PS) => Fr s26 s28 ∧ (0 ≤ v27 → (0 ≤ v29 → VX12_shapes g (d + 1) P 150 [some (.ref 179), some (.int l1), some (.int l2), none, some (.int v27), some (.int v29)] [.int 3] s28) ∧ (¬ 0 ≤ v29 → VX12_shapes g (d + 1) P 150 [some (.ref 179), some (.int l1), some (.int l2), none, some (.int v27), some (.int v29)] [.int 2] s28)) ∧ (¬ 0 ≤ v27 → VX12_shapes g (d + 1) P 150 [some (.ref 179), some (.int l1), some (.int l2), none, some (.int v27), some (.int v29)] [.int 1] s28))) ∧ (¬ 0 ≤ v27 → (0 ≤ v27 → VX12_shapes g (d + 1) P 150 [some (.ref 179), some (.int l1), some (.int l2), none, some (.int v27), some (.int (-1))] [.int 2] s26) ∧ (¬ 0 ≤ v27 → VX12_shapes g (d + 1) P 150 [some (.ref 179), some (.int l1), some (.int l2), none, some (.int v27), some (.int (-1))] [.int 1] s26)))) : VX12_shapes g (d + 1) P 47 [some (.ref 179), some (.int l1), some (.int l2), some (.int l3), none, none] [] σ := by
  refine x_aload_n (i := 0) (dxX12_shapes_0 28 rfl) rfl rfl ?_
  refine gf_12_81 (kd_179Y hL) (rv_179_39Y hL) (dxX12_shapes_0 29 rfl) ?_
  refine x_aload_n (i := 0) (dxX12_shapes_0 30 rfl) rfl rfl ?_
  refine gf_12_332 (kd_179Y hL) rfl (dxX12_shapes_0 31 rfl) ?_
  refine x_iload_n (i := 1) (dxX12_shapes_1 0 rfl) rfl rfl ?_
  obtain ⟨hi12, h⟩ := h
  refine x_iast (kd_203Y hL) hi12 (dxX12_shapes_1 1 rfl) ?_
  refine x_sto (fun s13 e14 => ?_)
  replace h := h s13 e14
  have hKs13 : kd s13 = kd σ := by rw [e14]; exact (rfl : kd σ = kd σ)
  have hLs13 : LayY s13 := by rw [e14]; exact hL.si
  refine x_aload_n (i := 0) (dxX12_shapes_1 2 rfl) rfl rfl ?_
  refine gf_12_84 (kd_179Y hLs13) (rv_179_40Y hLs13) (dxX12_shapes_1 3 rfl) ?_
  refine x_aload_n (i := 0) (dxX12_shapes_1 4 rfl) rfl rfl ?_
  refine gf_12_332 (kd_179Y hLs13) rfl (dxX12_shapes_1 5 rfl) ?_
  refine x_iload_n (i := 2) (dxX12_shapes_1 6 rfl) rfl rfl ?_
  obtain ⟨hi15, h⟩ := h
  refine x_iast (kd_204Y hLs13) hi15 (dxX12_shapes_1 7 rfl) ?_
  refine x_sto (fun s16 e17 => ?_)
  replace h := h s16 e17
  have hKs16 : kd s16 = kd σ := by rw [e17]; exact hKs13
  have hLs16 : LayY s16 := by rw [e17]; exact hLs13.si
  refine x_aload_n (i := 0) (dxX12_shapes_1 8 rfl) rfl rfl ?_
  refine gf_12_87 (kd_179Y hLs16) (rv_179_41Y hLs16) (dxX12_shapes_1 9 rfl) ?_
  refine x_aload_n (i := 0) (dxX12_shapes_1 10 rfl) rfl rfl ?_
  refine gf_12_332 (kd_179Y hLs16) rfl (dxX12_shapes_1 11 rfl) ?_
  refine x_iload_n (i := 3) (dxX12_shapes_1 12 rfl) rfl rfl ?_
  obtain ⟨hi18, h⟩ := h
  refine x_iast (kd_205Y hLs16) hi18 (dxX12_shapes_1 13 rfl) ?_
  refine x_sto (fun s19 e20 => ?_)
  replace h := h s19 e20
  have hKs19 : kd s19 = kd σ := by rw [e20]; exact hKs16
  have hLs19 : LayY s19 := by rw [e20]; exact hLs16.si
  refine x_aload_n (i := 0) (dxX12_shapes_1 14 rfl) rfl rfl ?_
  refine gf_12_90 (kd_179Y hLs19) (rv_179_42Y hLs19) (dxX12_shapes_1 15 rfl) ?_
  refine x_iconst (v := 4) (dxX12_shapes_1 16 rfl) rfl ?_
  refine x_iload_n (i := 1) (dxX12_shapes_1 17 rfl) rfl rfl ?_
  refine x_imul (dxX12_shapes_1 18 rfl) ?_
  refine x_iload_n (i := 2) (dxX12_shapes_1 19 rfl) rfl rfl ?_
  refine x_iadd (dxX12_shapes_1 20 rfl) ?_
  refine x_aload_n (i := 0) (dxX12_shapes_1 21 rfl) rfl rfl ?_
  refine gf_12_332 (kd_179Y hLs19) rfl (dxX12_shapes_1 22 rfl) ?_
  obtain ⟨hi21, h⟩ := h
  refine x_iast (kd_206Y hLs19) hi21 (dxX12_shapes_1 23 rfl) ?_
  refine x_sto (fun s22 e23 => ?_)
  replace h := h s22 e23
  have hKs22 : kd s22 = kd σ := by rw [e23]; exact hKs19
  have hLs22 : LayY s22 := by rw [e23]; exact hLs19.si
  refine x_aload_n (i := 0) (dxX12_shapes_1 24 rfl) rfl rfl ?_
  refine x_dup (dxX12_shapes_1 25 rfl) rfl ?_
  refine gf_12_332 (kd_179Y hLs22) rfl (dxX12_shapes_1 26 rfl) ?_
  refine x_iconst (v := 1) (dxX12_shapes_1 27 rfl) rfl ?_
  refine x_iadd (dxX12_shapes_1 28 rfl) ?_
  refine pf_12_332 (kd_179Y hLs22) (dxX12_shapes_1 29 rfl) ?_
  refine x_sto (fun s24 e25 => ?_)
  replace h := h s24 e25
  have hKs24 : kd s24 = kd σ := by rw [e25]; exact hKs22
  have hLs24 : LayY s24 := by rw [e25]; exact hLs22.si
  refine x_aload_n (i := 0) (dxX12_shapes_1 30 rfl) rfl rfl ?_
  refine x_iload_n (i := 1) (dxX12_shapes_1 31 rfl) rfl rfl ?_
  refine x_iload_n (i := 2) (dxX12_shapes_2 0 rfl) rfl rfl ?_
  refine x_iconst (v := 1) (dxX12_shapes_2 1 rfl) rfl ?_
  refine x_iadd (dxX12_shapes_2 2 rfl) ?_
  refine x_iconst (v := 4) (dxX12_shapes_2 3 rfl) rfl ?_
  refine x_irem (dxX12_shapes_2 4 rfl) (by decide) ?_
  refine cl_12_335 (kd_179Y hLs24) (Nat.le_of_ble_eq_true rfl) (dxX12_shapes_2 5 rfl) h (fun v27 s26 h => ?_) (Nat.le_refl _) (Nat.le_refl _)
  obtain ⟨hFs26, h⟩ := h
  have hKs26 : kd s26 = kd σ := hFs26.1.trans hKs24
  have hLs26 : LayY s26 := hLs24.fr hFs26
  refine x_istore (dxX12_shapes_2 6 rfl) (Nat.le_of_ble_eq_true rfl) rfl rfl ?_
  refine x_iload (dxX12_shapes_2 7 rfl) rfl ?_
  refine x_if_ge (tgt := 122) (dxX12_shapes_2 8 rfl) (by decide) (fun hc => ?_) (fun hc => ?_)
  · replace h := h.1 hc
    refine x_aload_n (i := 0) (dxX12_shapes_2 11 rfl) rfl rfl ?_
    refine x_iload (dxX12_shapes_2 12 rfl) rfl ?_
    refine x_iload_n (i := 2) (dxX12_shapes_2 13 rfl) rfl rfl ?_
    refine cl_12_335 (kd_179Y hLs26) (Nat.le_of_ble_eq_true rfl) (dxX12_shapes_2 14 rfl) h (fun v29 s28 h => ?_) (Nat.le_refl _) (Nat.le_refl _)
    obtain ⟨hFs28, h⟩ := h
    have hKs28 : kd s28 = kd σ := hFs28.1.trans hKs26
    have hLs28 : LayY s28 := hLs26.fr hFs28
    refine x_istore (dxX12_shapes_2 15 rfl) (Nat.le_of_ble_eq_true rfl) rfl rfl ?_
    refine x_iload (dxX12_shapes_2 16 rfl) rfl ?_
    refine x_if_ge (tgt := 140) (dxX12_shapes_2 17 rfl) (by decide) (fun hc => ?_) (fun hc => ?_)
    · replace h := h.1 hc
      refine x_iload (dxX12_shapes_2 20 rfl) rfl ?_
      refine x_if_ge (tgt := 149) (dxX12_shapes_2 21 rfl) (by decide) (fun hc => ?_) (fun hc => ?_)
      · replace h := h.1 hc
        refine x_iconst (v := 3) (dxX12_shapes_2 24 rfl) rfl ?_
        refine x_mask [true, true, true, false, true, true] (L1 := [some (.ref 179), some (.int l1), some (.int l2), none, some (.int v27), some (.int v29)]) rfl ?_
        exact h
      · replace h := h.2 hc
        refine x_iconst (v := 2) (dxX12_shapes_2 22 rfl) rfl ?_
        refine x_goto (tgt := 150) (dxX12_shapes_2 23 rfl) (by decide) ?_
        refine x_mask [true, true, true, false, true, true] (L1 := [some (.ref 179), some (.int l1), some (.int l2), none, some (.int v27), some (.int v29)]) rfl ?_
        exact h
    · replace h := h.2 hc
      refine x_iconst (v := 1) (dxX12_shapes_2 18 rfl) rfl ?_
      refine x_goto (tgt := 150) (dxX12_shapes_2 19 rfl) (by decide) ?_
      refine x_mask [true, true, true, false, true, true] (L1 := [some (.ref 179), some (.int l1), some (.int l2), none, some (.int v27), some (.int v29)]) rfl ?_
      exact h
  · replace h := h.2 hc
    refine x_iconst (v := (-1)) (dxX12_shapes_2 9 rfl) rfl ?_
    refine x_goto (tgt := 129) (dxX12_shapes_2 10 rfl) (by decide) ?_
    refine x_istore (dxX12_shapes_2 15 rfl) (Nat.le_of_ble_eq_true rfl) rfl rfl ?_
    refine x_iload (dxX12_shapes_2 16 rfl) rfl ?_
    refine x_if_ge (tgt := 140) (dxX12_shapes_2 17 rfl) (by decide) (fun hc => ?_) (fun hc => ?_)
    · replace h := h.1 hc
      refine x_iload (dxX12_shapes_2 20 rfl) rfl ?_
      refine x_if_ge (tgt := 149) (dxX12_shapes_2 21 rfl) (by decide) (fun hc => ?_) (fun hc => ?_)
      · exact absurd hc (by decide)
      · clear hc
        refine x_iconst (v := 2) (dxX12_shapes_2 22 rfl) rfl ?_
        refine x_goto (tgt := 150) (dxX12_shapes_2 23 rfl) (by decide) ?_
        refine x_mask [true, true, true, false, true, true] (L1 := [some (.ref 179), some (.int l1), some (.int l2), none, some (.int v27), some (.int (-1))]) rfl ?_
        exact h
    · replace h := h.2 hc
      refine x_iconst (v := 1) (dxX12_shapes_2 18 rfl) rfl ?_
      refine x_goto (tgt := 150) (dxX12_shapes_2 19 rfl) (by decide) ?_
      refine x_mask [true, true, true, false, true, true] (L1 := [some (.ref 179), some (.int l1), some (.int l2), none, some (.int v27), some (.int (-1))]) rfl ?_
      exact h
theorem vcX12_shapes_219Y {g : GV} {d : Nat} {P : PS → Prop} {σ : PS} (hL : LayY σ) (l4 : Int32) (h : (24 ≤ l4 → ∀ s30 : PS, s30 = si σ 179 51 0 → ∀ s32 : PS, s32 = si s30 179 52 0 → P s32) ∧ (¬ 24 ≤ l4 → vp_in l4 24 ∧ ∀ s35 : PS, s35 = si σ 209 (Int32.toNatClampNeg l4) (-1) → ∀ x37 : Int32, x37 = l4 + 1 → VX12_shapes g (d + 1) P 219 [some (.ref 179), none, none, none, some (.int x37), none] [] s35)) : VX12_shapes g (d + 1) P 219 [some (.ref 179), none, none, none, some (.int l4), none] [] σ := by
  refine x_iload (dxX12_shapes_4 5 rfl) rfl ?_
  refine x_bipush (v := 24) (dxX12_shapes_4 6 rfl) rfl ?_
  refine x_icmp_ge (tgt := 240) (dxX12_shapes_4 7 rfl) (by decide) (fun hc => ?_) (fun hc => ?_)
  · replace h := h.1 hc
    refine x_aload_n (i := 0) (dxX12_shapes_4 15 rfl) rfl rfl ?_
    refine x_iconst (v := 0) (dxX12_shapes_4 16 rfl) rfl ?_
    refine pf_12_342 (kd_179Y hL) (dxX12_shapes_4 17 rfl) ?_
    refine x_sto (fun s30 e31 => ?_)
    replace h := h s30 e31
    have hKs30 : kd s30 = kd σ := by rw [e31]; exact (rfl : kd σ = kd σ)
    have hLs30 : LayY s30 := by rw [e31]; exact hL.si
    refine x_aload_n (i := 0) (dxX12_shapes_4 18 rfl) rfl rfl ?_
    refine x_iconst (v := 0) (dxX12_shapes_4 19 rfl) rfl ?_
    refine pf_12_345 (kd_179Y hLs30) (dxX12_shapes_4 20 rfl) ?_
    refine x_sto (fun s32 e33 => ?_)
    replace h := h s32 e33
    have hKs32 : kd s32 = kd σ := by rw [e33]; exact hKs30
    have hLs32 : LayY s32 := by rw [e33]; exact hLs30.si
    exact x_vret rfl (dxX12_shapes_4 21 rfl) ⟨rfl, h⟩
  · replace h := h.2 hc
    refine x_aload_n (i := 0) (dxX12_shapes_4 8 rfl) rfl rfl ?_
    refine gf_12_99 (kd_179Y hL) (rv_179_45Y hL) (dxX12_shapes_4 9 rfl) ?_
    refine x_iload (dxX12_shapes_4 10 rfl) rfl ?_
    refine x_iconst (v := (-1)) (dxX12_shapes_4 11 rfl) rfl ?_
    obtain ⟨hi34, h⟩ := h
    refine x_iast (kd_209Y hL) hi34 (dxX12_shapes_4 12 rfl) ?_
    refine x_sto (fun s35 e36 => ?_)
    replace h := h s35 e36
    have hKs35 : kd s35 = kd σ := by rw [e36]; exact (rfl : kd σ = kd σ)
    have hLs35 : LayY s35 := by rw [e36]; exact hL.si
    obtain ⟨x37, e38⟩ : ∃ y : Int32, y = l4 + 1 := ⟨_, rfl⟩
    replace h := h x37 e38
    refine x_iinc (v := x37) (dxX12_shapes_4 13 rfl) (i := 4) rfl (by rw [e38]; rfl) (Nat.le_of_ble_eq_true rfl) rfl rfl ?_
    refine x_goto (tgt := 219) (dxX12_shapes_4 14 rfl) (by decide) ?_
    exact h
theorem vcX12_shapes_150Y {g : GV} {d : Nat} {P : PS → Prop} {σ : PS} (hL : LayY σ) (l1 : Int32) (l2 : Int32) (l4 : Int32) (l5 : Int32) (t0 : Int32) (h : (¬ t0 = 1 → (¬ t0 = 2 → ∀ x39 : Int32, x39 = jrem (l2 + 3) 4 → (¬ t0 = 1 → (¬ t0 = 2 → VX12_shapes g (d + 1) P 32 [some (.ref 179), some (.int l5), some (.int x39), some (.int t0), none, none] [] σ) ∧ (t0 = 2 → VX12_shapes g (d + 1) P 32 [some (.ref 179), some (.int l4), some (.int x39), some (.int t0), none, none] [] σ)) ∧ (t0 = 1 → VX12_shapes g (d + 1) P 32 [some (.ref 179), some (.int l1), some (.int x39), some (.int t0), none, none] [] σ)) ∧ (t0 = 2 → (¬ t0 = 1 → (¬ t0 = 2 → VX12_shapes g (d + 1) P 32 [some (.ref 179), some (.int l5), some (.int l2), some (.int t0), none, none] [] σ) ∧ (t0 = 2 → VX12_shapes g (d + 1) P 32 [some (.ref 179), some (.int l4), some (.int l2), some (.int t0), none, none] [] σ)) ∧ (t0 = 1 → VX12_shapes g (d + 1) P 32 [some (.ref 179), some (.int l1), some (.int l2), some (.int t0), none, none] [] σ))) ∧ (t0 = 1 → ∀ x41 : Int32, x41 = jrem (l2 + 1) 4 → (¬ t0 = 1 → (¬ t0 = 2 → VX12_shapes g (d + 1) P 32 [some (.ref 179), some (.int l5), some (.int x41), some (.int t0), none, none] [] σ) ∧ (t0 = 2 → VX12_shapes g (d + 1) P 32 [some (.ref 179), some (.int l4), some (.int x41), some (.int t0), none, none] [] σ)) ∧ (t0 = 1 → VX12_shapes g (d + 1) P 32 [some (.ref 179), some (.int l1), some (.int x41), some (.int t0), none, none] [] σ))) : VX12_shapes g (d + 1) P 150 [some (.ref 179), some (.int l1), some (.int l2), none, some (.int l4), some (.int l5)] [.int t0] σ := by
  refine x_istore_n (i := 3) (dxX12_shapes_2 25 rfl) rfl (Nat.le_of_ble_eq_true rfl) rfl rfl ?_
  refine x_iload_n (i := 3) (dxX12_shapes_2 26 rfl) rfl rfl ?_
  refine x_iconst (v := 1) (dxX12_shapes_2 27 rfl) rfl ?_
  refine x_icmp_ne (tgt := 164) (dxX12_shapes_2 28 rfl) (by decide) (fun hc => ?_) (fun hc => ?_)
  · replace h := h.1 hc
    refine x_iload_n (i := 3) (dxX12_shapes_3 3 rfl) rfl rfl ?_
    refine x_iconst (v := 2) (dxX12_shapes_3 4 rfl) rfl ?_
    refine x_icmp_ne (tgt := 173) (dxX12_shapes_3 5 rfl) (by decide) (fun hc => ?_) (fun hc => ?_)
    · replace h := h.1 hc
      refine x_iload_n (i := 2) (dxX12_shapes_3 8 rfl) rfl rfl ?_
      refine x_iconst (v := 3) (dxX12_shapes_3 9 rfl) rfl ?_
      refine x_iadd (dxX12_shapes_3 10 rfl) ?_
      refine x_iconst (v := 4) (dxX12_shapes_3 11 rfl) rfl ?_
      refine x_irem (dxX12_shapes_3 12 rfl) (by decide) ?_
      refine x_topi (fun x39 e40 => ?_)
      replace h := h x39 e40
      refine x_istore_n (i := 2) (dxX12_shapes_3 13 rfl) rfl (Nat.le_of_ble_eq_true rfl) rfl rfl ?_
      refine x_iload_n (i := 3) (dxX12_shapes_3 14 rfl) rfl rfl ?_
      refine x_iconst (v := 1) (dxX12_shapes_3 15 rfl) rfl ?_
      refine x_icmp_ne (tgt := 188) (dxX12_shapes_3 16 rfl) (by decide) (fun hc => ?_) (fun hc => ?_)
      · replace h := h.1 hc
        refine x_iload_n (i := 3) (dxX12_shapes_3 19 rfl) rfl rfl ?_
        refine x_iconst (v := 2) (dxX12_shapes_3 20 rfl) rfl ?_
        refine x_icmp_ne (tgt := 198) (dxX12_shapes_3 21 rfl) (by decide) (fun hc => ?_) (fun hc => ?_)
        · replace h := h.1 hc
          refine x_iload (dxX12_shapes_3 24 rfl) rfl ?_
          refine x_istore_n (i := 1) (dxX12_shapes_3 25 rfl) rfl (Nat.le_of_ble_eq_true rfl) rfl rfl ?_
          refine x_goto (tgt := 32) (dxX12_shapes_3 26 rfl) (by decide) ?_
          refine x_mask [true, true, true, true, false, false] (L1 := [some (.ref 179), some (.int l5), some (.int x39), some (.int t0), none, none]) rfl ?_
          exact h
        · replace h := h.2 hc
          refine x_iload (dxX12_shapes_3 22 rfl) rfl ?_
          refine x_goto (tgt := 200) (dxX12_shapes_3 23 rfl) (by decide) ?_
          refine x_istore_n (i := 1) (dxX12_shapes_3 25 rfl) rfl (Nat.le_of_ble_eq_true rfl) rfl rfl ?_
          refine x_goto (tgt := 32) (dxX12_shapes_3 26 rfl) (by decide) ?_
          refine x_mask [true, true, true, true, false, false] (L1 := [some (.ref 179), some (.int l4), some (.int x39), some (.int t0), none, none]) rfl ?_
          exact h
      · replace h := h.2 hc
        refine x_iload_n (i := 1) (dxX12_shapes_3 17 rfl) rfl rfl ?_
        refine x_goto (tgt := 200) (dxX12_shapes_3 18 rfl) (by decide) ?_
        refine x_istore_n (i := 1) (dxX12_shapes_3 25 rfl) rfl (Nat.le_of_ble_eq_true rfl) rfl rfl ?_
        refine x_goto (tgt := 32) (dxX12_shapes_3 26 rfl) (by decide) ?_
        refine x_mask [true, true, true, true, false, false] (L1 := [some (.ref 179), some (.int l1), some (.int x39), some (.int t0), none, none]) rfl ?_
        exact h
    · replace h := h.2 hc
      refine x_iload_n (i := 2) (dxX12_shapes_3 6 rfl) rfl rfl ?_
      refine x_goto (tgt := 178) (dxX12_shapes_3 7 rfl) (by decide) ?_
      refine x_istore_n (i := 2) (dxX12_shapes_3 13 rfl) rfl (Nat.le_of_ble_eq_true rfl) rfl rfl ?_
      refine x_iload_n (i := 3) (dxX12_shapes_3 14 rfl) rfl rfl ?_
      refine x_iconst (v := 1) (dxX12_shapes_3 15 rfl) rfl ?_
      refine x_icmp_ne (tgt := 188) (dxX12_shapes_3 16 rfl) (by decide) (fun hc => ?_) (fun hc => ?_)
      · replace h := h.1 hc
        refine x_iload_n (i := 3) (dxX12_shapes_3 19 rfl) rfl rfl ?_
        refine x_iconst (v := 2) (dxX12_shapes_3 20 rfl) rfl ?_
        refine x_icmp_ne (tgt := 198) (dxX12_shapes_3 21 rfl) (by decide) (fun hc => ?_) (fun hc => ?_)
        · replace h := h.1 hc
          refine x_iload (dxX12_shapes_3 24 rfl) rfl ?_
          refine x_istore_n (i := 1) (dxX12_shapes_3 25 rfl) rfl (Nat.le_of_ble_eq_true rfl) rfl rfl ?_
          refine x_goto (tgt := 32) (dxX12_shapes_3 26 rfl) (by decide) ?_
          refine x_mask [true, true, true, true, false, false] (L1 := [some (.ref 179), some (.int l5), some (.int l2), some (.int t0), none, none]) rfl ?_
          exact h
        · replace h := h.2 hc
          refine x_iload (dxX12_shapes_3 22 rfl) rfl ?_
          refine x_goto (tgt := 200) (dxX12_shapes_3 23 rfl) (by decide) ?_
          refine x_istore_n (i := 1) (dxX12_shapes_3 25 rfl) rfl (Nat.le_of_ble_eq_true rfl) rfl rfl ?_
          refine x_goto (tgt := 32) (dxX12_shapes_3 26 rfl) (by decide) ?_
          refine x_mask [true, true, true, true, false, false] (L1 := [some (.ref 179), some (.int l4), some (.int l2), some (.int t0), none, none]) rfl ?_
          exact h
      · replace h := h.2 hc
        refine x_iload_n (i := 1) (dxX12_shapes_3 17 rfl) rfl rfl ?_
        refine x_goto (tgt := 200) (dxX12_shapes_3 18 rfl) (by decide) ?_
        refine x_istore_n (i := 1) (dxX12_shapes_3 25 rfl) rfl (Nat.le_of_ble_eq_true rfl) rfl rfl ?_
        refine x_goto (tgt := 32) (dxX12_shapes_3 26 rfl) (by decide) ?_
        refine x_mask [true, true, true, true, false, false] (L1 := [some (.ref 179), some (.int l1), some (.int l2), some (.int t0), none, none]) rfl ?_
        exact h
  · replace h := h.2 hc
    refine x_iload_n (i := 2) (dxX12_shapes_2 29 rfl) rfl rfl ?_
    refine x_iconst (v := 1) (dxX12_shapes_2 30 rfl) rfl ?_
    refine x_iadd (dxX12_shapes_2 31 rfl) ?_
    refine x_iconst (v := 4) (dxX12_shapes_3 0 rfl) rfl ?_
    refine x_irem (dxX12_shapes_3 1 rfl) (by decide) ?_
    refine x_goto (tgt := 178) (dxX12_shapes_3 2 rfl) (by decide) ?_
    refine x_topi (fun x41 e42 => ?_)
    replace h := h x41 e42
    refine x_istore_n (i := 2) (dxX12_shapes_3 13 rfl) rfl (Nat.le_of_ble_eq_true rfl) rfl rfl ?_
    refine x_iload_n (i := 3) (dxX12_shapes_3 14 rfl) rfl rfl ?_
    refine x_iconst (v := 1) (dxX12_shapes_3 15 rfl) rfl ?_
    refine x_icmp_ne (tgt := 188) (dxX12_shapes_3 16 rfl) (by decide) (fun hc => ?_) (fun hc => ?_)
    · replace h := h.1 hc
      refine x_iload_n (i := 3) (dxX12_shapes_3 19 rfl) rfl rfl ?_
      refine x_iconst (v := 2) (dxX12_shapes_3 20 rfl) rfl ?_
      refine x_icmp_ne (tgt := 198) (dxX12_shapes_3 21 rfl) (by decide) (fun hc => ?_) (fun hc => ?_)
      · replace h := h.1 hc
        refine x_iload (dxX12_shapes_3 24 rfl) rfl ?_
        refine x_istore_n (i := 1) (dxX12_shapes_3 25 rfl) rfl (Nat.le_of_ble_eq_true rfl) rfl rfl ?_
        refine x_goto (tgt := 32) (dxX12_shapes_3 26 rfl) (by decide) ?_
        refine x_mask [true, true, true, true, false, false] (L1 := [some (.ref 179), some (.int l5), some (.int x41), some (.int t0), none, none]) rfl ?_
        exact h
      · replace h := h.2 hc
        refine x_iload (dxX12_shapes_3 22 rfl) rfl ?_
        refine x_goto (tgt := 200) (dxX12_shapes_3 23 rfl) (by decide) ?_
        refine x_istore_n (i := 1) (dxX12_shapes_3 25 rfl) rfl (Nat.le_of_ble_eq_true rfl) rfl rfl ?_
        refine x_goto (tgt := 32) (dxX12_shapes_3 26 rfl) (by decide) ?_
        refine x_mask [true, true, true, true, false, false] (L1 := [some (.ref 179), some (.int l4), some (.int x41), some (.int t0), none, none]) rfl ?_
        exact h
    · replace h := h.2 hc
      refine x_iload_n (i := 1) (dxX12_shapes_3 17 rfl) rfl rfl ?_
      refine x_goto (tgt := 200) (dxX12_shapes_3 18 rfl) (by decide) ?_
      refine x_istore_n (i := 1) (dxX12_shapes_3 25 rfl) rfl (Nat.le_of_ble_eq_true rfl) rfl rfl ?_
      refine x_goto (tgt := 32) (dxX12_shapes_3 26 rfl) (by decide) ?_
      refine x_mask [true, true, true, true, false, false] (L1 := [some (.ref 179), some (.int l1), some (.int x41), some (.int t0), none, none]) rfl ?_
      exact h
theorem Ch.layY {Pm Pl : Nat → Nat → Prop} {σ s : PS} (h : Ch Pm Pl σ s) (hL : LayY σ) : LayY s := hL.fr h.1
theorem sp_cellAt12Y {g : GV} {d n : Nat} {x y : Nat → Nat} {σ : PS} (hL : LayY σ) (hM : MC σ n x y) (a b : Int32) :
    CX12_cellAt g d [.ref 179, .int a, .int b] σ (fun v s => v = oI (fnd (fun k => decide (nI (x k) = a) && decide (nI (y k) = b)) n) ∧ s = σ) := by
  obtain ⟨h0, hn, hb, h1, h2⟩ := hM
  have loop : ∀ (z k : Nat), z = n - k → k ≤ n → (∀ j, j < k → (decide (nI (x j) = a) && decide (nI (y j) = b)) = false) → VX12_cellAt g d (fun v s => v = oI (fnd (fun k => decide (nI (x k) = a) && decide (nI (y k) = b)) n) ∧ s = σ) 2 [some (.ref 179), some (.int a), some (.int b), some (.int (nI k))] [] σ := by
    intro z
    induction z with
    | zero =>
      intro k hz hk hp
      have hkn : k = n := by omega
      subst hkn
      refine vcX12_cellAt_2Y hL _ _ _ ⟨fun _ => ⟨by rw [fnd_no hp]; rfl, rfl⟩, fun hc => ?_⟩
      exact absurd (by rw [h0]; simp (disch := omega) only [zLE]; omega) hc
    | succ z ih =>
      intro k hz hk hp
      have e1 := h1 k (by omega)
      have e2 := h2 k (by omega)
      have hi := ih (k + 1) (by omega) (by omega)
      refine vcX12_cellAt_2Y hL _ _ _ ⟨fun hc => ?_, fun _ => ?_⟩
      · rw [h0] at hc
        simp (disch := omega) only [zLE] at hc
        omega
      · simp (disch := omega) only [zIN, zCL, e1, e2]
        refine ⟨by omega, fun hne x2 q2 => ?_, fun heq => ⟨by omega, fun hne x5 q5 => ?_, fun heq2 => ⟨?_, trivial⟩⟩⟩
        · rw [q2, lit32, nI_add]
          exact hi (fun j hj => by
            by_cases e : j = k
            · subst e; simp [hne]
            · exact hp j (by omega))
        · rw [q5, lit32, nI_add]
          exact hi (fun j hj => by
            by_cases e : j = k
            · subst e; simp [hne]
            · exact hp j (by omega))
        · rw [fnd_is (k := k) (by omega) (by simp [heq, heq2]) hp]
          rfl
  exact vcX12_cellAtY hL _ _ (loop n 0 rfl (Nat.zero_le _) (fun j hj => by omega))
theorem sp_eastY {g : GV} {d s : Nat} {σ : PS} (hL : LayY σ) (hs : s < 4) : CX12_east g d [.int (nI s)] σ (fun v t => v = stepX s ∧ t = σ) := by
  refine vcX12_eastY hL _ ?_
  rcases four hs with rfl | rfl | rfl | rfl <;> simp (disch := omega) [lit32, zEQ, stepX] <;> decide
theorem sp_northY {g : GV} {d s : Nat} {σ : PS} (hL : LayY σ) (hs : s < 4) : CX12_north g d [.int (nI s)] σ (fun v t => v = stepY s ∧ t = σ) := by
  refine vcX12_northY hL _ ?_
  rcases four hs with rfl | rfl | rfl | rfl <;> simp (disch := omega) [lit32, zEQ, stepY] <;> decide
theorem sp_behindY {g : GV} {d n c s : Nat} {x y : Nat → Nat} {σ : PS} (hL : LayY σ) (hM : MC σ n x y) (hc : c < n) (hs : s < 4) :
    CX12_behind g (d + 1) [.ref 179, .int (nI c), .int (nI s)] σ (fun v t => v = oI (bhd n x y c s) ∧ t = σ) := by
  have hn := hM.2.1
  refine vcX12_behindY hL _ _ ?_
  simp (disch := omega) only [zIN, zCL]
  refine ⟨by omega, Ct.imp (sp_eastY hL hs) (fun r t q => ?_)⟩
  obtain ⟨v, rfl, rfl, rfl⟩ := q
  refine ⟨_, rfl, Fr.rf, by omega, Ct.imp (sp_northY hL hs) (fun r t q => ?_)⟩
  obtain ⟨v, rfl, rfl, rfl⟩ := q
  refine ⟨_, rfl, Fr.rf, Ct.imp (sp_cellAt12Y hL hM _ _) (fun r t q => ?_)⟩
  obtain ⟨v, rfl, rfl, rfl⟩ := q
  refine ⟨_, rfl, Fr.rf, ?_, rfl⟩
  rw [hM.2.2.2.1 c hc, hM.2.2.2.2 c hc, bhd_I hM.2.2.1 hc hs]
theorem sp_shapesY {g : GV} {d n E : Nat} {x y : Nat → Nat} {σ : PS} (hL : LayY σ) (hM : MC σ n x y) (hD : Dst n x y) (ho : Opn n x y (0, 0)) (hE : Per n x y E) (hE4 : E ≤ 24) :
    CX12_shapes g (d + 2) [.ref 179] σ (fun s => MF s n x y E ∧ (∀ e, e < 24 → mi s 209 e = -1) ∧ mi s 179 47 = 0 ∧ mi s 179 51 = 0 ∧ mi s 179 52 = 0 ∧ Ch chSh noL σ s) := by
  have hn := hM.2.1
  generalize hP : (fun (s : PS) => MF s n x y E ∧ (∀ e, e < 24 → mi s 209 e = -1) ∧ mi s 179 47 = 0 ∧ mi s 179 51 = 0 ∧ mi s 179 52 = 0 ∧ Ch chSh noL σ s) = P
  have mcs : ∀ s, Ch chSh noL σ s → MC s n x y := fun s c => hM.ch c (by simp [chSh]) (by simp [chSh]) (by simp [chSh])
  -- the last loop: nothing glued
  have l219 : ∀ (z k : Nat) (s : PS), z = 24 - k → k ≤ 24 → Ch chSh noL σ s → MF s n x y E → mi s 179 47 = 0 → (∀ e, e < k → mi s 209 e = -1) → VX12_shapes g (d + 2) P 219 [some (.ref 179), none, none, none, some (.int (nI k)), none] [] s := by
    intro z
    induction z with
    | zero =>
      intro k s hz hk c hF h47 hg
      have e : k = 24 := by omega
      subst e
      refine vcX12_shapes_219Y (c.layY hL) _ ⟨fun _ s30 e30 s32 e32 => ?_, fun hc => absurd (show (24 : Int32) ≤ nI 24 by decide) hc⟩
      have c2 : Ch chSh noL σ s32 := by rw [e32, e30]; exact (c.si (by simp [chSh])).si (by simp [chSh])
      rw [← hP]
      refine ⟨⟨mcs _ c2, ?_, fun j hj => ?_, fun q hq => ?_⟩, fun e he => ?_, ?_, ?_, ?_, c2⟩
      · rw [e32, e30]; simp [mi_si, hF.2.1]
      · rw [e32, e30]; simp [mi_si]; exact hF.2.2.1 j hj
      · rw [e32, e30]; simp [mi_si]; exact hF.2.2.2 q hq
      · rw [e32, e30]; simp [mi_si]; exact hg e he
      · rw [e32, e30]; simp [mi_si, h47]
      · rw [e32, e30]; simp [mi_si]
      · rw [e32, e30]; simp [mi_si]
    | succ z ih =>
      intro k s hz hk c hF h47 hg
      refine vcX12_shapes_219Y (c.layY hL) _ ⟨fun hc => ?_, fun _ => ?_⟩
      · rw [lit32 24, zLE (by omega) (by omega)] at hc
        omega
      · simp (disch := omega) only [zIN, zCL]
        refine ⟨by omega, fun s35 e35 x37 e37 => ?_⟩
        have c2 : Ch chSh noL σ s35 := by rw [e35]; exact c.si (by simp [chSh])
        rw [inc e37]
        refine ih (k + 1) s35 (by omega) (by omega) c2 ⟨mcs _ c2, ?_, fun j hj => ?_, fun q hq => ?_⟩ ?_ (fun e he => ?_)
        · rw [e35]; simp [mi_si, hF.2.1]
        · rw [e35]; simp [mi_si]; exact hF.2.2.1 j hj
        · rw [e35]; simp [mi_si]; exact hF.2.2.2 q hq
        · rw [e35]; simp [mi_si, h47]
        · rw [e35, mi_si]
          by_cases q : e = k
          · rw [if_pos ⟨rfl, q⟩]
          · rw [if_neg (by omega)]; exact hg e (by omega)
  -- the rim
  have l32 : ∀ (z k : Nat) (s : PS), z = E - k → k ≤ E → Ch chSh noL σ s → mi s 179 38 = nI k → (∀ j, j < k → mi s 203 j = nI (tr n x y j).1 ∧ mi s 204 j = nI (tr n x y j).2 ∧ mi s 205 j = nI (if j = 0 then 0 else wy n x y (j - 1))) → (∀ q, q < 40 → mi s 206 q = oI (eAt n x y k q)) →
      VX12_shapes g (d + 2) P 32 [some (.ref 179), some (.int (nI (tr n x y k).1)), some (.int (nI (tr n x y k).2)), some (.int (nI (if k = 0 then 0 else wy n x y (k - 1)))), none, none] [] s := by
    intro z
    induction z with
    | zero =>
      intro k s hz hk c h38 hj hq
      have e : k = E := by omega
      subst e
      have hpos := hE.1
      refine vcX12_shapes_32Y (c.layY hL) _ _ _ ⟨fun hc => ?_, fun _ => ⟨fun hc => ?_, fun _ => ⟨fun _ s8 e8 s10 e10 => ?_, fun hc => ?_⟩⟩⟩
      · rw [h38, nI0 (by omega)] at hc; omega
      · rw [hE.2.1] at hc; exact absurd (show nI 0 = 0 by decide) hc
      · have c2 : Ch chSh noL σ s10 := by rw [e10, e8]; exact (c.si (by simp [chSh])).si (by simp [chSh])
        refine l219 24 0 s10 rfl (by omega) c2 ⟨mcs _ c2, ?_, fun j hj2 => ?_, fun q hq2 => ?_⟩ ?_ (fun e he => by omega)
        · rw [e10, e8]; simp [mi_si, h38]
        · rw [e10, e8]
          obtain ⟨a1, a2, a3⟩ := hj j hj2
          simp only [mi_si, cl0]
          unfold qt
          by_cases q : j = 0
          · subst q
            simp [a1, a2, show ¬ k = 0 by omega]
          · simp [a1, a2, a3, q]
        · rw [e10, e8]; simp [mi_si]; exact hq q hq2
        · rw [e10]; simp [mi_si]
      · rw [hE.2.1] at hc; exact absurd (show nI 0 = 0 by decide) hc
    | succ z ih =>
      intro k s hz hk c h38 hj hq
      obtain ⟨o1, o2, o3⟩ := tr_open hD ho k
      have body : VX12_shapes g (d + 2) P 47 [some (.ref 179), some (.int (nI (tr n x y k).1)), some (.int (nI (tr n x y k).2)), some (.int (nI (if k = 0 then 0 else wy n x y (k - 1)))), none, none] [] s := by
        have e4 : (4 : Int32) * nI (tr n x y k).1 + nI (tr n x y k).2 = nI (4 * (tr n x y k).1 + (tr n x y k).2) := by rw [lit32 4, pk_mul, nI_add]
        refine vcX12_shapes_47Y (c.layY hL) _ _ _ ?_
        rw [h38, e4]
        simp (disch := omega) only [zIN, zCL]
        refine ⟨by omega, fun s13 e13 => ?_⟩
        have f13 : mi s13 179 38 = nI k := by rw [e13, mi_si, if_neg (by omega)]; exact h38
        rw [f13]
        simp (disch := omega) only [zIN, zCL]
        refine ⟨by omega, fun s16 e16 => ?_⟩
        have f16 : mi s16 179 38 = nI k := by rw [e16, mi_si, if_neg (by omega)]; exact f13
        rw [f16]
        simp (disch := omega) only [zIN, zCL]
        refine ⟨by omega, fun s19 e19 => ⟨by omega, fun s22 e22 s24 e24 => ?_⟩⟩
        have f19 : mi s19 179 38 = nI k := by rw [e19, mi_si, if_neg (by omega)]; exact f16
        have f22 : mi s22 179 38 = nI k := by rw [e22, mi_si, if_neg (by omega)]; exact f19
        rw [f19] at e22
        rw [f22, lit32 1, nI_add] at e24
        have c2 : Ch chSh noL σ s24 := by
          rw [e24, e22, e19, e16, e13]
          exact ((((c.si (by simp [chSh])).si (by simp [chSh])).si (by simp [chSh])).si (by simp [chSh])).si (by simp [chSh])
        have hM2 := mcs _ c2
        have hL2 := c2.layY hL
        have K : VX12_shapes g (d + 2) P 32 [some (.ref 179), some (.int (nI (tr n x y (k + 1)).1)), some (.int (nI (tr n x y (k + 1)).2)), some (.int (nI (wy n x y k))), none, none] [] s24 := by
          have := ih (k + 1) s24 (by omega) (by omega) c2 ?_ (fun j hj2 => ?_) (fun q hq2 => ?_)
          · rw [if_neg (by omega), show k + 1 - 1 = k by omega] at this
            exact this
          · rw [e24, mi_si, if_pos ⟨rfl, rfl⟩]
          · rw [e24, e22, e19, e16, e13]
            simp only [mi_si]
            by_cases q : j = k
            · subst q
              simp
            · obtain ⟨a1, a2, a3⟩ := hj j (by omega)
              simp [q, a1, a2, a3]
          · rw [e24, e22, e19, e16, e13]
            rw [eAt_step hD ho hE (by omega)]
            simp only [mi_si]
            by_cases q2 : q = 4 * (tr n x y k).1 + (tr n x y k).2
            · simp [q2, oI]
            · simp [q2, hq q hq2]
        have etr : tr n x y (k + 1) = (rimS n x y ((tr n x y k).1, (tr n x y k).2)).1 := rfl
        have ewy : wy n x y k = (rimS n x y ((tr n x y k).1, (tr n x y k).2)).2 := rfl
        rw [etr, ewy] at K
        clear ih hj hq e13 e16 e19 e22 e24 f13 f16 f19 f22 e4 etr ewy
        generalize (tr n x y k).1 = cc at *
        generalize (tr n x y k).2 = ss at *
        rw [zm1 (by omega)]
        refine Ct.imp (sp_behindY hL2 hM2 o1 (by omega)) (fun rr t q => ?_)
        obtain ⟨v, rfl, rfl, rfl⟩ := q
        refine ⟨_, rfl, Fr.rf, ?_⟩
        rcases rim_cases n x y cc ss with ⟨h1, e⟩ | ⟨a, h1, h2, e⟩ | ⟨a, b, h1, h2, e⟩ <;> rw [e] at K <;> simp only [h1, oI]
        · refine ⟨fun hc => absurd hc (by decide), fun _ => ⟨fun hc => absurd hc (by decide), fun _ => ?_⟩⟩
          refine vcX12_shapes_150Y hL2 _ _ _ _ _ ⟨fun hc => absurd rfl hc, fun _ x41 e41 => ⟨fun hc => absurd rfl hc, fun _ => ?_⟩⟩
          rw [e41, zm1 (by omega)]
          exact K
        · have ha := (bhd_s h1).1
          have p1 : (0 : Int32) ≤ nI a := by rw [lit32 0, zLE (by omega) (by omega)]; omega
          refine ⟨fun _ => Ct.imp (sp_behindY hL2 hM2 ha (by omega)) (fun rr t q => ?_), fun hc => absurd p1 hc⟩
          obtain ⟨v, rfl, rfl, rfl⟩ := q
          refine ⟨_, rfl, Fr.rf, fun _ => ⟨fun hc => ?_, fun _ => ?_⟩, fun hc => absurd p1 hc⟩
          · rw [h2] at hc; exact absurd hc (by decide)
          · exact vcX12_shapes_150Y hL2 _ _ _ _ _ ⟨fun _ => ⟨fun hc => absurd rfl hc, fun _ => ⟨fun _ => ⟨fun hc => absurd rfl hc, fun _ => K⟩, fun hc => absurd hc (by decide)⟩⟩, fun hc => absurd hc (by decide)⟩
        · have ha := (bhd_s h1).1
          have hb := (bhd_s h2).1
          have p1 : (0 : Int32) ≤ nI a := by rw [lit32 0, zLE (by omega) (by omega)]; omega
          have p2 : (0 : Int32) ≤ nI b := by rw [lit32 0, zLE (by omega) (by omega)]; omega
          refine ⟨fun _ => Ct.imp (sp_behindY hL2 hM2 ha (by omega)) (fun rr t q => ?_), fun hc => absurd p1 hc⟩
          obtain ⟨v, rfl, rfl, rfl⟩ := q
          refine ⟨_, rfl, Fr.rf, fun _ => ⟨fun _ => ?_, fun hc => ?_⟩, fun hc => absurd p1 hc⟩
          · rw [h2]
            refine vcX12_shapes_150Y hL2 _ _ _ _ _ ⟨fun _ => ⟨fun _ x39 e39 => ⟨fun _ => ⟨fun _ => ?_, fun hc => absurd hc (by decide)⟩, fun hc => absurd hc (by decide)⟩, fun hc => absurd hc (by decide)⟩, fun hc => absurd hc (by decide)⟩
            rw [e39, zm3 (by omega)]
            exact K
          · rw [h2] at hc; exact absurd p2 hc
      refine vcX12_shapes_32Y (c.layY hL) _ _ _ ⟨fun _ => body, fun h1 => ⟨fun _ => body, fun h2 => ⟨fun h3 => ?_, fun _ => body⟩⟩⟩
      rw [h38, nI0 (by omega)] at h1
      rw [nI0 (by omega)] at h2 h3
      exact absurd (Prod.ext h2 h3) (hE.2.2.1 k (by omega) (by omega))
  -- the first loop: no edges
  have l2 : ∀ (z k : Nat) (s : PS), z = 40 - k → k ≤ 40 → Ch chSh noL σ s → (∀ q, q < k → mi s 206 q = -1) → VX12_shapes g (d + 2) P 2 [some (.ref 179), some (.int (nI k)), none, none, none, none] [] s := by
    intro z
    induction z with
    | zero =>
      intro k s hz hk c hq
      have e : k = 40 := by omega
      subst e
      refine vcX12_shapes_2Y (c.layY hL) _ ⟨fun _ s1 e1 => ?_, fun hc => absurd (show (40 : Int32) ≤ nI 40 by decide) hc⟩
      have c2 : Ch chSh noL σ s1 := by rw [e1]; exact c.si (by simp [chSh])
      exact l32 E 0 s1 rfl (by omega) c2 (by rw [e1, mi_si, if_pos ⟨rfl, rfl⟩]; rfl) (fun j hj => by omega) (fun q hq2 => by rw [e1, mi_si, if_neg (by omega), hq q hq2]; rfl)
    | succ z ih =>
      intro k s hz hk c hq
      refine vcX12_shapes_2Y (c.layY hL) _ ⟨fun hc => ?_, fun _ => ?_⟩
      · rw [lit32 40, zLE (by omega) (by omega)] at hc
        omega
      · simp (disch := omega) only [zIN, zCL]
        refine ⟨by omega, fun s4 e4 x6 e6 => ?_⟩
        have c2 : Ch chSh noL σ s4 := by rw [e4]; exact c.si (by simp [chSh])
        rw [inc e6]
        refine ih (k + 1) s4 (by omega) (by omega) c2 (fun q hq2 => ?_)
        rw [e4, mi_si]
        by_cases e : q = k
        · rw [if_pos ⟨rfl, e⟩]
        · rw [if_neg (by omega)]; exact hq q (by omega)
  exact vcX12_shapesY hL (l2 40 0 σ rfl (by omega) Ch.rf (fun q hq => by omega))
