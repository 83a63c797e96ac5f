theorem vcX12_shortest {g : GV} {d : Nat} {P : Int32 → PS → Prop} {σ : PS} (hL : Lay σ) (p0 : Int32) (p1 : Int32) (p2 : Int32) (h : CX12_isCell g d [.ref 179, .int p0] σ (fun (v2 : Int32) (s1 : PS) => Fr σ s1 ∧ (v2 = 0 → ∀ s3 : PS, s3 = si s1 179 0 1 → (¬ (mi s3 179 0) = 1 → CX12_laysBody g d [.ref 179, .int 0, .int (-1)] s3 (fun (s5 : PS) => Fr s3 s5 ∧ CX12_shortests g d [.ref 179, .int p0, .int p1, .int 0] s5 (fun (s7 : PS) => Fr s5 s7 ∧ CX12_told0 g d [.ref 179, .int p2] s7 (fun (v10 : Int32) (s9 : PS) => Fr s7 s9 ∧ P v10 s9)))) ∧ ((mi s3 179 0) = 1 → P 0 s3)) ∧ (¬ v2 = 0 → CX12_isCell g d [.ref 179, .int p1] s1 (fun (v12 : Int32) (s11 : PS) => Fr s1 s11 ∧ (v12 = 0 → ∀ s13 : PS, s13 = si s11 179 0 1 → (¬ (mi s13 179 0) = 1 → CX12_laysBody g d [.ref 179, .int 0, .int (-1)] s13 (fun (s15 : PS) => Fr s13 s15 ∧ CX12_shortests g d [.ref 179, .int p0, .int p1, .int 0] s15 (fun (s17 : PS) => Fr s15 s17 ∧ CX12_told0 g d [.ref 179, .int p2] s17 (fun (v20 : Int32) (s19 : PS) => Fr s17 s19 ∧ P v20 s19)))) ∧ ((mi s13 179 0) = 1 → P 0 s13)) ∧ (¬ v12 = 0 → CX12_within g d [.int p2, .int 0, .int 3] s11 (fun (v22 : Int32) (s21 : PS) => Fr s11 s21 ∧ (v22 = 0 → ∀ s23 : PS, s23 = si s21 179 0 1 → (¬ (mi s23 179 0) = 1 → CX12_laysBody g d [.ref 179, .int 0, .int (-1)] s23 (fun (s25 : PS) => Fr s23 s25 ∧ CX12_shortests g d [.ref 179, .int p0, .int p1, .int 0] s25 (fun (s27 : PS) => Fr s25 s27 ∧ CX12_told0 g d [.ref 179, .int p2] s27 (fun (v30 : Int32) (s29 : PS) => Fr s27 s29 ∧ P v30 s29)))) ∧ ((mi s23 179 0) = 1 → P 0 s23)) ∧ (¬ v22 = 0 → CX12_isBody g d [.ref 179] s21 (fun (v32 : Int32) (s31 : PS) => Fr s21 s31 ∧ (v32 = 0 → ∀ s33 : PS, s33 = si s31 179 0 1 → (¬ (mi s33 179 0) = 1 → CX12_laysBody g d [.ref 179, .int 0, .int (-1)] s33 (fun (s35 : PS) => Fr s33 s35 ∧ CX12_shortests g d [.ref 179, .int p0, .int p1, .int 0] s35 (fun (s37 : PS) => Fr s35 s37 ∧ CX12_told0 g d [.ref 179, .int p2] s37 (fun (v40 : Int32) (s39 : PS) => Fr s37 s39 ∧ P v40 s39)))) ∧ ((mi s33 179 0) = 1 → P 0 s33)) ∧ (¬ v32 = 0 → ∀ s41 : PS, s41 = si s31 179 0 0 → (¬ (mi s41 179 0) = 1 → CX12_laysBody g d [.ref 179, .int 0, .int (-1)] s41 (fun (s43 : PS) => Fr s41 s43 ∧ CX12_shortests g d [.ref 179, .int p0, .int p1, .int 0] s43 (fun (s45 : PS) => Fr s43 s45 ∧ CX12_told0 g d [.ref 179, .int p2] s45 (fun (v48 : Int32) (s47 : PS) => Fr s45 s47 ∧ P v48 s47)))) ∧ ((mi s41 179 0) = 1 → P 0 s41)))))))))) : CX12_shortest g (d + 1) [.ref 179, .int p0, .int p1, .int p2] σ P := by
  refine x_entry (L := [some (.ref 179), some (.int p0), some (.int p1), some (.int p2)]) pn_12 (Nat.le_of_ble_eq_true rfl) ⟨0, rfl⟩ ?_
  show VX12_shortest g (d + 1) P 0 [some (.ref 179), some (.int p0), some (.int p1), some (.int p2)] [] σ
  refine x_aload_n (i := 0) (dxX12_shortest_0 0 rfl) rfl rfl ?_
  refine x_aload_n (i := 0) (dxX12_shortest_0 1 rfl) rfl rfl ?_
  refine x_iload_n (i := 1) (dxX12_shortest_0 2 rfl) rfl rfl ?_
  refine cl_12_366 (kd_179 hL) (Nat.le_of_ble_eq_true rfl) (dxX12_shortest_0 3 rfl) h (fun v2 s1 h => ?_) (Nat.le_refl _) (Nat.le_refl _)
  obtain ⟨hFs1, h⟩ := h
  have hKs1 : kd s1 = kd σ := hFs1.1.trans (rfl : kd σ = kd σ)
  have hLs1 : Lay s1 := hL.fr hFs1
  refine x_if_eq (tgt := 37) (dxX12_shortest_0 4 rfl) (by decide) (fun hc => ?_) (fun hc => ?_)
  · replace h := h.1 hc
    refine x_iconst (v := 1) (dxX12_shortest_0 19 rfl) rfl ?_
    refine pf_12_184 (kd_179 hLs1) (dxX12_shortest_0 20 rfl) ?_
    refine x_sto (fun s3 e4 => ?_)
    replace h := h s3 e4
    have hKs3 : kd s3 = kd σ := by rw [e4]; exact hKs1
    have hLs3 : Lay s3 := by rw [e4]; exact hLs1.si
    refine x_aload_n (i := 0) (dxX12_shortest_0 21 rfl) rfl rfl ?_
    refine gf_12_184 (kd_179 hLs3) rfl (dxX12_shortest_0 22 rfl) ?_
    refine x_iconst (v := 1) (dxX12_shortest_0 23 rfl) rfl ?_
    refine x_icmp_ne (tgt := 51) (dxX12_shortest_0 24 rfl) (by decide) (fun hc => ?_) (fun hc => ?_)
    · replace h := h.1 hc
      refine x_aload_n (i := 0) (dxX12_shortest_0 27 rfl) rfl rfl ?_
      refine x_iconst (v := 0) (dxX12_shortest_0 28 rfl) rfl ?_
      refine x_iconst (v := (-1)) (dxX12_shortest_0 29 rfl) rfl ?_
      refine cl_12_423 (kd_179 hLs3) (Nat.le_of_ble_eq_true rfl) (dxX12_shortest_0 30 rfl) h (fun s5 h => ?_) (Nat.le_refl _) (Nat.le_refl _)
      obtain ⟨hFs5, h⟩ := h
      have hKs5 : kd s5 = kd σ := hFs5.1.trans hKs3
      have hLs5 : Lay s5 := hLs3.fr hFs5
      refine x_aload_n (i := 0) (dxX12_shortest_0 31 rfl) rfl rfl ?_
      refine x_iload_n (i := 1) (dxX12_shortest_1 0 rfl) rfl rfl ?_
      refine x_iload_n (i := 2) (dxX12_shortest_1 1 rfl) rfl rfl ?_
      refine x_iconst (v := 0) (dxX12_shortest_1 2 rfl) rfl ?_
      refine cl_12_467 (kd_179 hLs5) (Nat.le_of_ble_eq_true rfl) (dxX12_shortest_1 3 rfl) h (fun s7 h => ?_) (Nat.le_refl _) (Nat.le_refl _)
      obtain ⟨hFs7, h⟩ := h
      have hKs7 : kd s7 = kd σ := hFs7.1.trans hKs5
      have hLs7 : Lay s7 := hLs5.fr hFs7
      refine x_aload_n (i := 0) (dxX12_shortest_1 4 rfl) rfl rfl ?_
      refine x_iload_n (i := 3) (dxX12_shortest_1 5 rfl) rfl rfl ?_
      refine cl_12_471 (kd_179 hLs7) (Nat.le_of_ble_eq_true rfl) (dxX12_shortest_1 6 rfl) h (fun v10 s9 h => ?_) (Nat.le_refl _) (Nat.le_refl _)
      obtain ⟨hFs9, h⟩ := h
      have hKs9 : kd s9 = kd σ := hFs9.1.trans hKs7
      have hLs9 : Lay s9 := hLs7.fr hFs9
      exact x_iret (ty := .int) rfl rfl (dxX12_shortest_1 7 rfl) ⟨_, rfl, h⟩
    · replace h := h.2 hc
      refine x_iconst (v := 0) (dxX12_shortest_0 25 rfl) rfl ?_
      exact x_iret (ty := .int) rfl rfl (dxX12_shortest_0 26 rfl) ⟨_, rfl, h⟩
  · replace h := h.2 hc
    refine x_aload_n (i := 0) (dxX12_shortest_0 5 rfl) rfl rfl ?_
    refine x_iload_n (i := 2) (dxX12_shortest_0 6 rfl) rfl rfl ?_
    refine cl_12_366 (kd_179 hLs1) (Nat.le_of_ble_eq_true rfl) (dxX12_shortest_0 7 rfl) h (fun v12 s11 h => ?_) (Nat.le_refl _) (Nat.le_refl _)
    obtain ⟨hFs11, h⟩ := h
    have hKs11 : kd s11 = kd σ := hFs11.1.trans hKs1
    have hLs11 : Lay s11 := hLs1.fr hFs11
    refine x_if_eq (tgt := 37) (dxX12_shortest_0 8 rfl) (by decide) (fun hc => ?_) (fun hc => ?_)
    · replace h := h.1 hc
      refine x_iconst (v := 1) (dxX12_shortest_0 19 rfl) rfl ?_
      refine pf_12_184 (kd_179 hLs11) (dxX12_shortest_0 20 rfl) ?_
      refine x_sto (fun s13 e14 => ?_)
      replace h := h s13 e14
      have hKs13 : kd s13 = kd σ := by rw [e14]; exact hKs11
      have hLs13 : Lay s13 := by rw [e14]; exact hLs11.si
      refine x_aload_n (i := 0) (dxX12_shortest_0 21 rfl) rfl rfl ?_
      refine gf_12_184 (kd_179 hLs13) rfl (dxX12_shortest_0 22 rfl) ?_
      refine x_iconst (v := 1) (dxX12_shortest_0 23 rfl) rfl ?_
      refine x_icmp_ne (tgt := 51) (dxX12_shortest_0 24 rfl) (by decide) (fun hc => ?_) (fun hc => ?_)
      · replace h := h.1 hc
        refine x_aload_n (i := 0) (dxX12_shortest_0 27 rfl) rfl rfl ?_
        refine x_iconst (v := 0) (dxX12_shortest_0 28 rfl) rfl ?_
        refine x_iconst (v := (-1)) (dxX12_shortest_0 29 rfl) rfl ?_
        refine cl_12_423 (kd_179 hLs13) (Nat.le_of_ble_eq_true rfl) (dxX12_shortest_0 30 rfl) h (fun s15 h => ?_) (Nat.le_refl _) (Nat.le_refl _)
        obtain ⟨hFs15, h⟩ := h
        have hKs15 : kd s15 = kd σ := hFs15.1.trans hKs13
        have hLs15 : Lay s15 := hLs13.fr hFs15
        refine x_aload_n (i := 0) (dxX12_shortest_0 31 rfl) rfl rfl ?_
        refine x_iload_n (i := 1) (dxX12_shortest_1 0 rfl) rfl rfl ?_
        refine x_iload_n (i := 2) (dxX12_shortest_1 1 rfl) rfl rfl ?_
        refine x_iconst (v := 0) (dxX12_shortest_1 2 rfl) rfl ?_
        refine cl_12_467 (kd_179 hLs15) (Nat.le_of_ble_eq_true rfl) (dxX12_shortest_1 3 rfl) h (fun s17 h => ?_) (Nat.le_refl _) (Nat.le_refl _)
        obtain ⟨hFs17, h⟩ := h
        have hKs17 : kd s17 = kd σ := hFs17.1.trans hKs15
        have hLs17 : Lay s17 := hLs15.fr hFs17
        refine x_aload_n (i := 0) (dxX12_shortest_1 4 rfl) rfl rfl ?_
        refine x_iload_n (i := 3) (dxX12_shortest_1 5 rfl) rfl rfl ?_
        refine cl_12_471 (kd_179 hLs17) (Nat.le_of_ble_eq_true rfl) (dxX12_shortest_1 6 rfl) h (fun v20 s19 h => ?_) (Nat.le_refl _) (Nat.le_refl _)
        obtain ⟨hFs19, h⟩ := h
        have hKs19 : kd s19 = kd σ := hFs19.1.trans hKs17
        have hLs19 : Lay s19 := hLs17.fr hFs19
        exact x_iret (ty := .int) rfl rfl (dxX12_shortest_1 7 rfl) ⟨_, rfl, h⟩
      · replace h := h.2 hc
        refine x_iconst (v := 0) (dxX12_shortest_0 25 rfl) rfl ?_
        exact x_iret (ty := .int) rfl rfl (dxX12_shortest_0 26 rfl) ⟨_, rfl, h⟩
    · replace h := h.2 hc
      refine x_iload_n (i := 3) (dxX12_shortest_0 9 rfl) rfl rfl ?_
      refine x_iconst (v := 0) (dxX12_shortest_0 10 rfl) rfl ?_
      refine x_iconst (v := 3) (dxX12_shortest_0 11 rfl) rfl ?_
      refine cl_12_307 (Nat.le_of_ble_eq_true rfl) (dxX12_shortest_0 12 rfl) h (fun v22 s21 h => ?_) (Nat.le_refl _) (Nat.le_refl _)
      obtain ⟨hFs21, h⟩ := h
      have hKs21 : kd s21 = kd σ := hFs21.1.trans hKs11
      have hLs21 : Lay s21 := hLs11.fr hFs21
      refine x_if_eq (tgt := 37) (dxX12_shortest_0 13 rfl) (by decide) (fun hc => ?_) (fun hc => ?_)
      · replace h := h.1 hc
        refine x_iconst (v := 1) (dxX12_shortest_0 19 rfl) rfl ?_
        refine pf_12_184 (kd_179 hLs21) (dxX12_shortest_0 20 rfl) ?_
        refine x_sto (fun s23 e24 => ?_)
        replace h := h s23 e24
        have hKs23 : kd s23 = kd σ := by rw [e24]; exact hKs21
        have hLs23 : Lay s23 := by rw [e24]; exact hLs21.si
        refine x_aload_n (i := 0) (dxX12_shortest_0 21 rfl) rfl rfl ?_
        refine gf_12_184 (kd_179 hLs23) rfl (dxX12_shortest_0 22 rfl) ?_
        refine x_iconst (v := 1) (dxX12_shortest_0 23 rfl) rfl ?_
        refine x_icmp_ne (tgt := 51) (dxX12_shortest_0 24 rfl) (by decide) (fun hc => ?_) (fun hc => ?_)
        · replace h := h.1 hc
          refine x_aload_n (i := 0) (dxX12_shortest_0 27 rfl) rfl rfl ?_
          refine x_iconst (v := 0) (dxX12_shortest_0 28 rfl) rfl ?_
          refine x_iconst (v := (-1)) (dxX12_shortest_0 29 rfl) rfl ?_
          refine cl_12_423 (kd_179 hLs23) (Nat.le_of_ble_eq_true rfl) (dxX12_shortest_0 30 rfl) h (fun s25 h => ?_) (Nat.le_refl _) (Nat.le_refl _)
          obtain ⟨hFs25, h⟩ := h
          have hKs25 : kd s25 = kd σ := hFs25.1.trans hKs23
          have hLs25 : Lay s25 := hLs23.fr hFs25
          refine x_aload_n (i := 0) (dxX12_shortest_0 31 rfl) rfl rfl ?_
          refine x_iload_n (i := 1) (dxX12_shortest_1 0 rfl) rfl rfl ?_
          refine x_iload_n (i := 2) (dxX12_shortest_1 1 rfl) rfl rfl ?_
          refine x_iconst (v := 0) (dxX12_shortest_1 2 rfl) rfl ?_
          refine cl_12_467 (kd_179 hLs25) (Nat.le_of_ble_eq_true rfl) (dxX12_shortest_1 3 rfl) h (fun s27 h => ?_) (Nat.le_refl _) (Nat.le_refl _)
          obtain ⟨hFs27, h⟩ := h
          have hKs27 : kd s27 = kd σ := hFs27.1.trans hKs25
          have hLs27 : Lay s27 := hLs25.fr hFs27
          refine x_aload_n (i := 0) (dxX12_shortest_1 4 rfl) rfl rfl ?_
          refine x_iload_n (i := 3) (dxX12_shortest_1 5 rfl) rfl rfl ?_
          refine cl_12_471 (kd_179 hLs27) (Nat.le_of_ble_eq_true rfl) (dxX12_shortest_1 6 rfl) h (fun v30 s29 h => ?_) (Nat.le_refl _) (Nat.le_refl _)
          obtain ⟨hFs29, h⟩ := h
          have hKs29 : kd s29 = kd σ := hFs29.1.trans hKs27
          have hLs29 : Lay s29 := hLs27.fr hFs29
          exact x_iret (ty := .int) rfl rfl (dxX12_shortest_1 7 rfl) ⟨_, rfl, h⟩
        · replace h := h.2 hc
          refine x_iconst (v := 0) (dxX12_shortest_0 25 rfl) rfl ?_
          exact x_iret (ty := .int) rfl rfl (dxX12_shortest_0 26 rfl) ⟨_, rfl, h⟩
      · replace h := h.2 hc
        refine x_aload_n (i := 0) (dxX12_shortest_0 14 rfl) rfl rfl ?_
        refine cl_12_420 (kd_179 hLs21) (Nat.le_of_ble_eq_true rfl) (dxX12_shortest_0 15 rfl) h (fun v32 s31 h => ?_) (Nat.le_refl _) (Nat.le_refl _)
        obtain ⟨hFs31, h⟩ := h
        have hKs31 : kd s31 = kd σ := hFs31.1.trans hKs21
        have hLs31 : Lay s31 := hLs21.fr hFs31
        refine x_if_eq (tgt := 37) (dxX12_shortest_0 16 rfl) (by decide) (fun hc => ?_) (fun hc => ?_)
        · replace h := h.1 hc
          refine x_iconst (v := 1) (dxX12_shortest_0 19 rfl) rfl ?_
          refine pf_12_184 (kd_179 hLs31) (dxX12_shortest_0 20 rfl) ?_
          refine x_sto (fun s33 e34 => ?_)
          replace h := h s33 e34
          have hKs33 : kd s33 = kd σ := by rw [e34]; exact hKs31
          have hLs33 : Lay s33 := by rw [e34]; exact hLs31.si
          refine x_aload_n (i := 0) (dxX12_shortest_0 21 rfl) rfl rfl ?_
          refine gf_12_184 (kd_179 hLs33) rfl (dxX12_shortest_0 22 rfl) ?_
          refine x_iconst (v := 1) (dxX12_shortest_0 23 rfl) rfl ?_
          refine x_icmp_ne (tgt := 51) (dxX12_shortest_0 24 rfl) (by decide) (fun hc => ?_) (fun hc => ?_)
          · replace h := h.1 hc
            refine x_aload_n (i := 0) (dxX12_shortest_0 27 rfl) rfl rfl ?_
            refine x_iconst (v := 0) (dxX12_shortest_0 28 rfl) rfl ?_
            refine x_iconst (v := (-1)) (dxX12_shortest_0 29 rfl) rfl ?_
            refine cl_12_423 (kd_179 hLs33) (Nat.le_of_ble_eq_true rfl) (dxX12_shortest_0 30 rfl) h (fun s35 h => ?_) (Nat.le_refl _) (Nat.le_refl _)
            obtain ⟨hFs35, h⟩ := h
            have hKs35 : kd s35 = kd σ := hFs35.1.trans hKs33
            have hLs35 : Lay s35 := hLs33.fr hFs35
            refine x_aload_n (i := 0) (dxX12_shortest_0 31 rfl) rfl rfl ?_
            refine x_iload_n (i := 1) (dxX12_shortest_1 0 rfl) rfl rfl ?_
            refine x_iload_n (i := 2) (dxX12_shortest_1 1 rfl) rfl rfl ?_
            refine x_iconst (v := 0) (dxX12_shortest_1 2 rfl) rfl ?_
            refine cl_12_467 (kd_179 hLs35) (Nat.le_of_ble_eq_true rfl) (dxX12_shortest_1 3 rfl) h (fun s37 h => ?_) (Nat.le_refl _) (Nat.le_refl _)
            obtain ⟨hFs37, h⟩ := h
            have hKs37 : kd s37 = kd σ := hFs37.1.trans hKs35
            have hLs37 : Lay s37 := hLs35.fr hFs37
            refine x_aload_n (i := 0) (dxX12_shortest_1 4 rfl) rfl rfl ?_
            refine x_iload_n (i := 3) (dxX12_shortest_1 5 rfl) rfl rfl ?_
            refine cl_12_471 (kd_179 hLs37) (Nat.le_of_ble_eq_true rfl) (dxX12_shortest_1 6 rfl) h (fun v40 s39 h => ?_) (Nat.le_refl _) (Nat.le_refl _)
            obtain ⟨hFs39, h⟩ := h
            have hKs39 : kd s39 = kd σ := hFs39.1.trans hKs37
            have hLs39 : Lay s39 := hLs37.fr hFs39
            exact x_iret (ty := .int) rfl rfl (dxX12_shortest_1 7 rfl) ⟨_, rfl, h⟩
          · replace h := h.2 hc
            refine x_iconst (v := 0) (dxX12_shortest_0 25 rfl) rfl ?_
            exact x_iret (ty := .int) rfl rfl (dxX12_shortest_0 26 rfl) ⟨_, rfl, h⟩
        · replace h := h.2 hc
          refine x_iconst (v := 0) (dxX12_shortest_0 17 rfl) rfl ?_
          refine x_goto (tgt := 38) (dxX12_shortest_0 18 rfl) (by decide) ?_
          refine pf_12_184 (kd_179 hLs31) (dxX12_shortest_0 20 rfl) ?_
          refine x_sto (fun s41 e42 => ?_)
          replace h := h s41 e42
          have hKs41 : kd s41 = kd σ := by rw [e42]; exact hKs31
          have hLs41 : Lay s41 := by rw [e42]; exact hLs31.si
          refine x_aload_n (i := 0) (dxX12_shortest_0 21 rfl) rfl rfl ?_
          refine gf_12_184 (kd_179 hLs41) rfl (dxX12_shortest_0 22 rfl) ?_
          refine x_iconst (v := 1) (dxX12_shortest_0 23 rfl) rfl ?_
          refine x_icmp_ne (tgt := 51) (dxX12_shortest_0 24 rfl) (by decide) (fun hc => ?_) (fun hc => ?_)
          · replace h := h.1 hc
            refine x_aload_n (i := 0) (dxX12_shortest_0 27 rfl) rfl rfl ?_
            refine x_iconst (v := 0) (dxX12_shortest_0 28 rfl) rfl ?_
            refine x_iconst (v := (-1)) (dxX12_shortest_0 29 rfl) rfl ?_
            refine cl_12_423 (kd_179 hLs41) (Nat.le_of_ble_eq_true rfl) (dxX12_shortest_0 30 rfl) h (fun s43 h => ?_) (Nat.le_refl _) (Nat.le_refl _)
            obtain ⟨hFs43, h⟩ := h
            have hKs43 : kd s43 = kd σ := hFs43.1.trans hKs41
            have hLs43 : Lay s43 := hLs41.fr hFs43
            refine x_aload_n (i := 0) (dxX12_shortest_0 31 rfl) rfl rfl ?_
            refine x_iload_n (i := 1) (dxX12_shortest_1 0 rfl) rfl rfl ?_
            refine x_iload_n (i := 2) (dxX12_shortest_1 1 rfl) rfl rfl ?_
            refine x_iconst (v := 0) (dxX12_shortest_1 2 rfl) rfl ?_
            refine cl_12_467 (kd_179 hLs43) (Nat.le_of_ble_eq_true rfl) (dxX12_shortest_1 3 rfl) h (fun s45 h => ?_) (Nat.le_refl _) (Nat.le_refl _)
            obtain ⟨hFs45, h⟩ := h
            have hKs45 : kd s45 = kd σ := hFs45.1.trans hKs43
            have hLs45 : Lay s45 := hLs43.fr hFs45
            refine x_aload_n (i := 0) (dxX12_shortest_1 4 rfl) rfl rfl ?_
            refine x_iload_n (i := 3) (dxX12_shortest_1 5 rfl) rfl rfl ?_
            refine cl_12_471 (kd_179 hLs45) (Nat.le_of_ble_eq_true rfl) (dxX12_shortest_1 6 rfl) h (fun v48 s47 h => ?_) (Nat.le_refl _) (Nat.le_refl _)
            obtain ⟨hFs47, h⟩ := h
            have hKs47 : kd s47 = kd σ := hFs47.1.trans hKs45
            have hLs47 : Lay s47 := hLs45.fr hFs47
            exact x_iret (ty := .int) rfl rfl (dxX12_shortest_1 7 rfl) ⟨_, rfl, h⟩
          · replace h := h.2 hc
            refine x_iconst (v := 0) (dxX12_shortest_0 25 rfl) rfl ?_
            exact x_iret (ty := .int) rfl rfl (dxX12_shortest_0 26 rfl) ⟨_, rfl, h⟩
theorem vcX12_round {g : GV} {d : Nat} {P : Int32 → PS → Prop} {σ : PS} (hL : Lay σ) (p0 : Int32) (p1 : Int32) (h : CX12_isCell g d [.ref 179, .int p0] σ (fun (v2 : Int32) (s1 : PS) => Fr σ s1 ∧ (v2 = 0 → ∀ s3 : PS, s3 = si s1 179 0 1 → (¬ (mi s3 179 0) = 1 → CX12_laysBody g d [.ref 179, .int 0, .int (-1)] s3 (fun (s5 : PS) => Fr s3 s5 ∧ CX12_shortests g d [.ref 179, .int p0, .int p0, .int 1] s5 (fun (s7 : PS) => Fr s5 s7 ∧ CX12_told0 g d [.ref 179, .int p1] s7 (fun (v10 : Int32) (s9 : PS) => Fr s7 s9 ∧ P v10 s9)))) ∧ ((mi s3 179 0) = 1 → P 0 s3)) ∧ (¬ v2 = 0 → CX12_within g d [.int p1, .int 0, .int 3] s1 (fun (v12 : Int32) (s11 : PS) => Fr s1 s11 ∧ (v12 = 0 → ∀ s13 : PS, s13 = si s11 179 0 1 → (¬ (mi s13 179 0) = 1 → CX12_laysBody g d [.ref 179, .int 0, .int (-1)] s13 (fun (s15 : PS) => Fr s13 s15 ∧ CX12_shortests g d [.ref 179, .int p0, .int p0, .int 1] s15 (fun (s17 : PS) => Fr s15 s17 ∧ CX12_told0 g d [.ref 179, .int p1] s17 (fun (v20 : Int32) (s19 : PS) => Fr s17 s19 ∧ P v20 s19)))) ∧ ((mi s13 179 0) = 1 → P 0 s13)) ∧ (¬ v12 = 0 → CX12_isBody g d [.ref 179] s11 (fun (v22 : Int32) (s21 : PS) => Fr s11 s21 ∧ (v22 = 0 → ∀ s23 : PS, s23 = si s21 179 0 1 → (¬ (mi s23 179 0) = 1 → CX12_laysBody g d [.ref 179, .int 0, .int (-1)] s23 (fun (s25 : PS) => Fr s23 s25 ∧ CX12_shortests g d [.ref 179, .int p0, .int p0, .int 1] s25 (fun (s27 : PS) => Fr s25 s27 ∧ CX12_told0 g d [.ref 179, .int p1] s27 (fun (v30 : Int32) (s29 : PS) => Fr s27 s29 ∧ P v30 s29)))) ∧ ((mi s23 179 0) = 1 → P 0 s23)) ∧ (¬ v22 = 0 → ∀ s31 : PS, s31 = si s21 179 0 0 → (¬ (mi s31 179 0) = 1 → CX12_laysBody g d [.ref 179, .int 0, .int (-1)] s31 (fun (s33 : PS) => Fr s31 s33 ∧ CX12_shortests g d [.ref 179, .int p0, .int p0, .int 1] s33 (fun (s35 : PS) => Fr s33 s35 ∧ CX12_told0 g d [.ref 179, .int p1] s35 (fun (v38 : Int32) (s37 : PS) => Fr s35 s37 ∧ P v38 s37)))) ∧ ((mi s31 179 0) = 1 → P 0 s31)))))))) : CX12_round g (d + 1) [.ref 179, .int p0, .int p1] σ P := by
  refine x_entry (L := [some (.ref 179), some (.int p0), some (.int p1)]) pn_12 (Nat.le_of_ble_eq_true rfl) ⟨0, rfl⟩ ?_
  show VX12_round g (d + 1) P 0 [some (.ref 179), some (.int p0), some (.int p1)] [] σ
  refine x_aload_n (i := 0) (dxX12_round_0 0 rfl) rfl rfl ?_
  refine x_aload_n (i := 0) (dxX12_round_0 1 rfl) rfl rfl ?_
  refine x_iload_n (i := 1) (dxX12_round_0 2 rfl) rfl rfl ?_
  refine cl_12_366 (kd_179 hL) (Nat.le_of_ble_eq_true rfl) (dxX12_round_0 3 rfl) h (fun v2 s1 h => ?_) (Nat.le_refl _) (Nat.le_refl _)
  obtain ⟨hFs1, h⟩ := h
  have hKs1 : kd s1 = kd σ := hFs1.1.trans (rfl : kd σ = kd σ)
  have hLs1 : Lay s1 := hL.fr hFs1
  refine x_if_eq (tgt := 29) (dxX12_round_0 4 rfl) (by decide) (fun hc => ?_) (fun hc => ?_)
  · replace h := h.1 hc
    refine x_iconst (v := 1) (dxX12_round_0 15 rfl) rfl ?_
    refine pf_12_184 (kd_179 hLs1) (dxX12_round_0 16 rfl) ?_
    refine x_sto (fun s3 e4 => ?_)
    replace h := h s3 e4
    have hKs3 : kd s3 = kd σ := by rw [e4]; exact hKs1
    have hLs3 : Lay s3 := by rw [e4]; exact hLs1.si
    refine x_aload_n (i := 0) (dxX12_round_0 17 rfl) rfl rfl ?_
    refine gf_12_184 (kd_179 hLs3) rfl (dxX12_round_0 18 rfl) ?_
    refine x_iconst (v := 1) (dxX12_round_0 19 rfl) rfl ?_
    refine x_icmp_ne (tgt := 43) (dxX12_round_0 20 rfl) (by decide) (fun hc => ?_) (fun hc => ?_)
    · replace h := h.1 hc
      refine x_aload_n (i := 0) (dxX12_round_0 23 rfl) rfl rfl ?_
      refine x_iconst (v := 0) (dxX12_round_0 24 rfl) rfl ?_
      refine x_iconst (v := (-1)) (dxX12_round_0 25 rfl) rfl ?_
      refine cl_12_423 (kd_179 hLs3) (Nat.le_of_ble_eq_true rfl) (dxX12_round_0 26 rfl) h (fun s5 h => ?_) (Nat.le_refl _) (Nat.le_refl _)
      obtain ⟨hFs5, h⟩ := h
      have hKs5 : kd s5 = kd σ := hFs5.1.trans hKs3
      have hLs5 : Lay s5 := hLs3.fr hFs5
      refine x_aload_n (i := 0) (dxX12_round_0 27 rfl) rfl rfl ?_
      refine x_iload_n (i := 1) (dxX12_round_0 28 rfl) rfl rfl ?_
      refine x_iload_n (i := 1) (dxX12_round_0 29 rfl) rfl rfl ?_
      refine x_iconst (v := 1) (dxX12_round_0 30 rfl) rfl ?_
      refine cl_12_467 (kd_179 hLs5) (Nat.le_of_ble_eq_true rfl) (dxX12_round_0 31 rfl) h (fun s7 h => ?_) (Nat.le_refl _) (Nat.le_refl _)
      obtain ⟨hFs7, h⟩ := h
      have hKs7 : kd s7 = kd σ := hFs7.1.trans hKs5
      have hLs7 : Lay s7 := hLs5.fr hFs7
      refine x_aload_n (i := 0) (dxX12_round_1 0 rfl) rfl rfl ?_
      refine x_iload_n (i := 2) (dxX12_round_1 1 rfl) rfl rfl ?_
      refine cl_12_471 (kd_179 hLs7) (Nat.le_of_ble_eq_true rfl) (dxX12_round_1 2 rfl) h (fun v10 s9 h => ?_) (Nat.le_refl _) (Nat.le_refl _)
      obtain ⟨hFs9, h⟩ := h
      have hKs9 : kd s9 = kd σ := hFs9.1.trans hKs7
      have hLs9 : Lay s9 := hLs7.fr hFs9
      exact x_iret (ty := .int) rfl rfl (dxX12_round_1 3 rfl) ⟨_, rfl, h⟩
    · replace h := h.2 hc
      refine x_iconst (v := 0) (dxX12_round_0 21 rfl) rfl ?_
      exact x_iret (ty := .int) rfl rfl (dxX12_round_0 22 rfl) ⟨_, rfl, h⟩
  · replace h := h.2 hc
    refine x_iload_n (i := 2) (dxX12_round_0 5 rfl) rfl rfl ?_
    refine x_iconst (v := 0) (dxX12_round_0 6 rfl) rfl ?_
    refine x_iconst (v := 3) (dxX12_round_0 7 rfl) rfl ?_
    refine cl_12_307 (Nat.le_of_ble_eq_true rfl) (dxX12_round_0 8 rfl) h (fun v12 s11 h => ?_) (Nat.le_refl _) (Nat.le_refl _)
    obtain ⟨hFs11, h⟩ := h
    have hKs11 : kd s11 = kd σ := hFs11.1.trans hKs1
    have hLs11 : Lay s11 := hLs1.fr hFs11
    refine x_if_eq (tgt := 29) (dxX12_round_0 9 rfl) (by decide) (fun hc => ?_) (fun hc => ?_)
    · replace h := h.1 hc
      refine x_iconst (v := 1) (dxX12_round_0 15 rfl) rfl ?_
      refine pf_12_184 (kd_179 hLs11) (dxX12_round_0 16 rfl) ?_
      refine x_sto (fun s13 e14 => ?_)
      replace h := h s13 e14
      have hKs13 : kd s13 = kd σ := by rw [e14]; exact hKs11
      have hLs13 : Lay s13 := by rw [e14]; exact hLs11.si
      refine x_aload_n (i := 0) (dxX12_round_0 17 rfl) rfl rfl ?_
      refine gf_12_184 (kd_179 hLs13) rfl (dxX12_round_0 18 rfl) ?_
      refine x_iconst (v := 1) (dxX12_round_0 19 rfl) rfl ?_
      refine x_icmp_ne (tgt := 43) (dxX12_round_0 20 rfl) (by decide) (fun hc => ?_) (fun hc => ?_)
      · replace h := h.1 hc
        refine x_aload_n (i := 0) (dxX12_round_0 23 rfl) rfl rfl ?_
        refine x_iconst (v := 0) (dxX12_round_0 24 rfl) rfl ?_
        refine x_iconst (v := (-1)) (dxX12_round_0 25 rfl) rfl ?_
        refine cl_12_423 (kd_179 hLs13) (Nat.le_of_ble_eq_true rfl) (dxX12_round_0 26 rfl) h (fun s15 h => ?_) (Nat.le_refl _) (Nat.le_refl _)
        obtain ⟨hFs15, h⟩ := h
        have hKs15 : kd s15 = kd σ := hFs15.1.trans hKs13
        have hLs15 : Lay s15 := hLs13.fr hFs15
        refine x_aload_n (i := 0) (dxX12_round_0 27 rfl) rfl rfl ?_
        refine x_iload_n (i := 1) (dxX12_round_0 28 rfl) rfl rfl ?_
        refine x_iload_n (i := 1) (dxX12_round_0 29 rfl) rfl rfl ?_
        refine x_iconst (v := 1) (dxX12_round_0 30 rfl) rfl ?_
        refine cl_12_467 (kd_179 hLs15) (Nat.le_of_ble_eq_true rfl) (dxX12_round_0 31 rfl) h (fun s17 h => ?_) (Nat.le_refl _) (Nat.le_refl _)
        obtain ⟨hFs17, h⟩ := h
        have hKs17 : kd s17 = kd σ := hFs17.1.trans hKs15
        have hLs17 : Lay s17 := hLs15.fr hFs17
        refine x_aload_n (i := 0) (dxX12_round_1 0 rfl) rfl rfl ?_
        refine x_iload_n (i := 2) (dxX12_round_1 1 rfl) rfl rfl ?_
        refine cl_12_471 (kd_179 hLs17) (Nat.le_of_ble_eq_true rfl) (dxX12_round_1 2 rfl) h (fun v20 s19 h => ?_) (Nat.le_refl _) (Nat.le_refl _)
        obtain ⟨hFs19, h⟩ := h
        have hKs19 : kd s19 = kd σ := hFs19.1.trans hKs17
        have hLs19 : Lay s19 := hLs17.fr hFs19
        exact x_iret (ty := .int) rfl rfl (dxX12_round_1 3 rfl) ⟨_, rfl, h⟩
      · replace h := h.2 hc
        refine x_iconst (v := 0) (dxX12_round_0 21 rfl) rfl ?_
        exact x_iret (ty := .int) rfl rfl (dxX12_round_0 22 rfl) ⟨_, rfl, h⟩
    · replace h := h.2 hc
      refine x_aload_n (i := 0) (dxX12_round_0 10 rfl) rfl rfl ?_
      refine cl_12_420 (kd_179 hLs11) (Nat.le_of_ble_eq_true rfl) (dxX12_round_0 11 rfl) h (fun v22 s21 h => ?_) (Nat.le_refl _) (Nat.le_refl _)
      obtain ⟨hFs21, h⟩ := h
      have hKs21 : kd s21 = kd σ := hFs21.1.trans hKs11
      have hLs21 : Lay s21 := hLs11.fr hFs21
      refine x_if_eq (tgt := 29) (dxX12_round_0 12 rfl) (by decide) (fun hc => ?_) (fun hc => ?_)
      · replace h := h.1 hc
        refine x_iconst (v := 1) (dxX12_round_0 15 rfl) rfl ?_
        refine pf_12_184 (kd_179 hLs21) (dxX12_round_0 16 rfl) ?_
        refine x_sto (fun s23 e24 => ?_)
        replace h := h s23 e24
        have hKs23 : kd s23 = kd σ := by rw [e24]; exact hKs21
        have hLs23 : Lay s23 := by rw [e24]; exact hLs21.si
        refine x_aload_n (i := 0) (dxX12_round_0 17 rfl) rfl rfl ?_
        refine gf_12_184 (kd_179 hLs23) rfl (dxX12_round_0 18 rfl) ?_
        refine x_iconst (v := 1) (dxX12_round_0 19 rfl) rfl ?_
        refine x_icmp_ne (tgt := 43) (dxX12_round_0 20 rfl) (by decide) (fun hc => ?_) (fun hc => ?_)
        · replace h := h.1 hc
          refine x_aload_n (i := 0) (dxX12_round_0 23 rfl) rfl rfl ?_
          refine x_iconst (v := 0) (dxX12_round_0 24 rfl) rfl ?_
          refine x_iconst (v := (-1)) (dxX12_round_0 25 rfl) rfl ?_
          refine cl_12_423 (kd_179 hLs23) (Nat.le_of_ble_eq_true rfl) (dxX12_round_0 26 rfl) h (fun s25 h => ?_) (Nat.le_refl _) (Nat.le_refl _)
          obtain ⟨hFs25, h⟩ := h
          have hKs25 : kd s25 = kd σ := hFs25.1.trans hKs23
          have hLs25 : Lay s25 := hLs23.fr hFs25
          refine x_aload_n (i := 0) (dxX12_round_0 27 rfl) rfl rfl ?_
          refine x_iload_n (i := 1) (dxX12_round_0 28 rfl) rfl rfl ?_
          refine x_iload_n (i := 1) (dxX12_round_0 29 rfl) rfl rfl ?_
          refine x_iconst (v := 1) (dxX12_round_0 30 rfl) rfl ?_
          refine cl_12_467 (kd_179 hLs25) (Nat.le_of_ble_eq_true rfl) (dxX12_round_0 31 rfl) h (fun s27 h => ?_) (Nat.le_refl _) (Nat.le_refl _)
          obtain ⟨hFs27, h⟩ := h
          have hKs27 : kd s27 = kd σ := hFs27.1.trans hKs25
          have hLs27 : Lay s27 := hLs25.fr hFs27
          refine x_aload_n (i := 0) (dxX12_round_1 0 rfl) rfl rfl ?_
          refine x_iload_n (i := 2) (dxX12_round_1 1 rfl) rfl rfl ?_
          refine cl_12_471 (kd_179 hLs27) (Nat.le_of_ble_eq_true rfl) (dxX12_round_1 2 rfl) h (fun v30 s29 h => ?_) (Nat.le_refl _) (Nat.le_refl _)
          obtain ⟨hFs29, h⟩ := h
          have hKs29 : kd s29 = kd σ := hFs29.1.trans hKs27
          have hLs29 : Lay s29 := hLs27.fr hFs29
          exact x_iret (ty := .int) rfl rfl (dxX12_round_1 3 rfl) ⟨_, rfl, h⟩
        · replace h := h.2 hc
          refine x_iconst (v := 0) (dxX12_round_0 21 rfl) rfl ?_
          exact x_iret (ty := .int) rfl rfl (dxX12_round_0 22 rfl) ⟨_, rfl, h⟩
      · replace h := h.2 hc
        refine x_iconst (v := 0) (dxX12_round_0 13 rfl) rfl ?_
        refine x_goto (tgt := 30) (dxX12_round_0 14 rfl) (by decide) ?_
        refine pf_12_184 (kd_179 hLs21) (dxX12_round_0 16 rfl) ?_
        refine x_sto (fun s31 e32 => ?_)
        replace h := h s31 e32
        have hKs31 : kd s31 = kd σ := by rw [e32]; exact hKs21
        have hLs31 : Lay s31 := by rw [e32]; exact hLs21.si
        refine x_aload_n (i := 0) (dxX12_round_0 17 rfl) rfl rfl ?_
        refine gf_12_184 (kd_179 hLs31) rfl (dxX12_round_0 18 rfl) ?_
        refine x_iconst (v := 1) (dxX12_round_0 19 rfl) rfl ?_
        refine x_icmp_ne (tgt := 43) (dxX12_round_0 20 rfl) (by decide) (fun hc => ?_) (fun hc => ?_)
        · replace h := h.1 hc
          refine x_aload_n (i := 0) (dxX12_round_0 23 rfl) rfl rfl ?_
          refine x_iconst (v := 0) (dxX12_round_0 24 rfl) rfl ?_
          refine x_iconst (v := (-1)) (dxX12_round_0 25 rfl) rfl ?_
          refine cl_12_423 (kd_179 hLs31) (Nat.le_of_ble_eq_true rfl) (dxX12_round_0 26 rfl) h (fun s33 h => ?_) (Nat.le_refl _) (Nat.le_refl _)
          obtain ⟨hFs33, h⟩ := h
          have hKs33 : kd s33 = kd σ := hFs33.1.trans hKs31
          have hLs33 : Lay s33 := hLs31.fr hFs33
          refine x_aload_n (i := 0) (dxX12_round_0 27 rfl) rfl rfl ?_
          refine x_iload_n (i := 1) (dxX12_round_0 28 rfl) rfl rfl ?_
          refine x_iload_n (i := 1) (dxX12_round_0 29 rfl) rfl rfl ?_
          refine x_iconst (v := 1) (dxX12_round_0 30 rfl) rfl ?_
          refine cl_12_467 (kd_179 hLs33) (Nat.le_of_ble_eq_true rfl) (dxX12_round_0 31 rfl) h (fun s35 h => ?_) (Nat.le_refl _) (Nat.le_refl _)
          obtain ⟨hFs35, h⟩ := h
          have hKs35 : kd s35 = kd σ := hFs35.1.trans hKs33
          have hLs35 : Lay s35 := hLs33.fr hFs35
          refine x_aload_n (i := 0) (dxX12_round_1 0 rfl) rfl rfl ?_
          refine x_iload_n (i := 2) (dxX12_round_1 1 rfl) rfl rfl ?_
          refine cl_12_471 (kd_179 hLs35) (Nat.le_of_ble_eq_true rfl) (dxX12_round_1 2 rfl) h (fun v38 s37 h => ?_) (Nat.le_refl _) (Nat.le_refl _)
          obtain ⟨hFs37, h⟩ := h
          have hKs37 : kd s37 = kd σ := hFs37.1.trans hKs35
          have hLs37 : Lay s37 := hLs35.fr hFs37
          exact x_iret (ty := .int) rfl rfl (dxX12_round_1 3 rfl) ⟨_, rfl, h⟩
        · replace h := h.2 hc
          refine x_iconst (v := 0) (dxX12_round_0 21 rfl) rfl ?_
          exact x_iret (ty := .int) rfl rfl (dxX12_round_0 22 rfl) ⟨_, rfl, h⟩
theorem vcX12_farthest {g : GV} {d : Nat} {P : Int32 → PS → Prop} {σ : PS} (hL : Lay σ) (p0 : Int32) (h : ∀ s1 : PS, s1 = si σ 179 0 0 → CX12_isCell g d [.ref 179, .int p0] s1 (fun (v4 : Int32) (s3 : PS) => Fr s1 s3 ∧ (v4 = 0 → P (-1) s3) ∧ (¬ v4 = 0 → CX12_isBody g d [.ref 179] s3 (fun (v6 : Int32) (s5 : PS) => Fr s3 s5 ∧ (¬ v6 = 0 → CX12_laysBody g d [.ref 179, .int 0, .int (-1)] s5 (fun (s7 : PS) => Fr s5 s7 ∧ VX12_farthest g (d + 1) P 35 [some (.ref 179), some (.int p0), some (.int (-1)), some (.int (-1)), some (.int 0)] [] s7)) ∧ (v6 = 0 → P (-1) s5))))) : CX12_farthest g (d + 1) [.ref 179, .int p0] σ P := by
  refine x_entry (L := [some (.ref 179), some (.int p0), none, none, none]) pn_12 (Nat.le_of_ble_eq_true rfl) ⟨3, rfl⟩ ?_
  show VX12_farthest g (d + 1) P 0 [some (.ref 179), some (.int p0), none, none, none] [] σ
  refine x_aload_n (i := 0) (dxX12_farthest_0 0 rfl) rfl rfl ?_
  refine x_iconst (v := 0) (dxX12_farthest_0 1 rfl) rfl ?_
  refine pf_12_184 (kd_179 hL) (dxX12_farthest_0 2 rfl) ?_
  refine x_sto (fun s1 e2 => ?_)
  replace h := h s1 e2
  have hKs1 : kd s1 = kd σ := by rw [e2]; exact (rfl : kd σ = kd σ)
  have hLs1 : Lay s1 := by rw [e2]; exact hL.si
  refine x_aload_n (i := 0) (dxX12_farthest_0 3 rfl) rfl rfl ?_
  refine x_iload_n (i := 1) (dxX12_farthest_0 4 rfl) rfl rfl ?_
  refine cl_12_366 (kd_179 hLs1) (Nat.le_of_ble_eq_true rfl) (dxX12_farthest_0 5 rfl) h (fun v4 s3 h => ?_) (Nat.le_refl _) (Nat.le_refl _)
  obtain ⟨hFs3, h⟩ := h
  have hKs3 : kd s3 = kd σ := hFs3.1.trans hKs1
  have hLs3 : Lay s3 := hLs1.fr hFs3
  refine x_if_eq (tgt := 20) (dxX12_farthest_0 6 rfl) (by decide) (fun hc => ?_) (fun hc => ?_)
  · replace h := h.1 hc
    refine x_iconst (v := (-1)) (dxX12_farthest_0 10 rfl) rfl ?_
    exact x_iret (ty := .int) rfl rfl (dxX12_farthest_0 11 rfl) ⟨_, rfl, h⟩
  · replace h := h.2 hc
    refine x_aload_n (i := 0) (dxX12_farthest_0 7 rfl) rfl rfl ?_
    refine cl_12_420 (kd_179 hLs3) (Nat.le_of_ble_eq_true rfl) (dxX12_farthest_0 8 rfl) h (fun v6 s5 h => ?_) (Nat.le_refl _) (Nat.le_refl _)
    obtain ⟨hFs5, h⟩ := h
    have hKs5 : kd s5 = kd σ := hFs5.1.trans hKs3
    have hLs5 : Lay s5 := hLs3.fr hFs5
    refine x_if_ne (tgt := 22) (dxX12_farthest_0 9 rfl) (by decide) (fun hc => ?_) (fun hc => ?_)
    · replace h := h.1 hc
      refine x_aload_n (i := 0) (dxX12_farthest_0 12 rfl) rfl rfl ?_
      refine x_iconst (v := 0) (dxX12_farthest_0 13 rfl) rfl ?_
      refine x_iconst (v := (-1)) (dxX12_farthest_0 14 rfl) rfl ?_
      refine cl_12_423 (kd_179 hLs5) (Nat.le_of_ble_eq_true rfl) (dxX12_farthest_0 15 rfl) h (fun s7 h => ?_) (Nat.le_refl _) (Nat.le_refl _)
      obtain ⟨hFs7, h⟩ := h
      have hKs7 : kd s7 = kd σ := hFs7.1.trans hKs5
      have hLs7 : Lay s7 := hLs5.fr hFs7
      refine x_iconst (v := (-1)) (dxX12_farthest_0 16 rfl) rfl ?_
      refine x_istore_n (i := 2) (dxX12_farthest_0 17 rfl) rfl (Nat.le_of_ble_eq_true rfl) rfl rfl ?_
      refine x_iconst (v := (-1)) (dxX12_farthest_0 18 rfl) rfl ?_
      refine x_istore_n (i := 3) (dxX12_farthest_0 19 rfl) rfl (Nat.le_of_ble_eq_true rfl) rfl rfl ?_
      refine x_iconst (v := 0) (dxX12_farthest_0 20 rfl) rfl ?_
      refine x_istore (dxX12_farthest_0 21 rfl) (Nat.le_of_ble_eq_true rfl) rfl rfl ?_
      exact h
    · replace h := h.2 hc
      refine x_iconst (v := (-1)) (dxX12_farthest_0 10 rfl) rfl ?_
      exact x_iret (ty := .int) rfl rfl (dxX12_farthest_0 11 rfl) ⟨_, rfl, h⟩
theorem vcX12_farthest_35 {g : GV} {d : Nat} {P : Int32 → PS → Prop} {σ : PS} (hL : Lay σ) (l1 : Int32) (l2 : Int32) (l3 : Int32) (l4 : Int32) (h : ((mi σ 179 35) ≤ l4 → P l2 σ) ∧ (¬ (mi σ 179 35) ≤ l4 → CX12_shortests g d [.ref 179, .int l1, .int l4, .int 0] σ (fun (s9 : PS) => Fr σ s9 ∧ ((mi s9 179 63) = 145 → ∀ x11 : Int32, x11 = l4 + 1 → VX12_farthest g (d + 1) P 35 [some (.ref 179), some (.int l1), some (.int l2), some (.int l3), some (.int x11)] [] s9) ∧ (¬ (mi s9 179 63) = 145 → (l3 < (mi s9 179 63) → ∀ x13 : Int32, x13 = mi s9 179 63 → ∀ x15 : Int32, x15 = l4 + 1 → VX12_farthest g (d + 1) P 35 [some (.ref 179), some (.int l1), some (.int l4), some (.int x13), some (.int x15)] [] s9) ∧ (¬ l3 < (mi s9 179 63) → ∀ x17 : Int32, x17 = l4 + 1 → VX12_farthest g (d + 1) P 35 [some (.ref 179), some (.int l1), some (.int l2), some (.int l3), some (.int x17)] [] s9))))) : VX12_farthest g (d + 1) P 35 [some (.ref 179), some (.int l1), some (.int l2), some (.int l3), some (.int l4)] [] σ := by
  refine x_iload (dxX12_farthest_0 22 rfl) rfl ?_
  refine x_aload_n (i := 0) (dxX12_farthest_0 23 rfl) rfl rfl ?_
  refine gf_12_177 (kd_179 hL) rfl (dxX12_farthest_0 24 rfl) ?_
  refine x_icmp_ge (tgt := 87) (dxX12_farthest_0 25 rfl) (by decide) (fun hc => ?_) (fun hc => ?_)
  · replace h := h.1 hc
    refine x_iload_n (i := 2) (dxX12_farthest_1 15 rfl) rfl rfl ?_
    exact x_iret (ty := .int) rfl rfl (dxX12_farthest_1 16 rfl) ⟨_, rfl, h⟩
  · replace h := h.2 hc
    refine x_aload_n (i := 0) (dxX12_farthest_0 26 rfl) rfl rfl ?_
    refine x_iload_n (i := 1) (dxX12_farthest_0 27 rfl) rfl rfl ?_
    refine x_iload (dxX12_farthest_0 28 rfl) rfl ?_
    refine x_iconst (v := 0) (dxX12_farthest_0 29 rfl) rfl ?_
    refine cl_12_467 (kd_179 hL) (Nat.le_of_ble_eq_true rfl) (dxX12_farthest_0 30 rfl) h (fun s9 h => ?_) (Nat.le_refl _) (Nat.le_refl _)
    obtain ⟨hFs9, h⟩ := h
    have hKs9 : kd s9 = kd σ := hFs9.1.trans (rfl : kd σ = kd σ)
    have hLs9 : Lay s9 := hL.fr hFs9
    refine x_aload_n (i := 0) (dxX12_farthest_0 31 rfl) rfl rfl ?_
    refine gf_12_455 (kd_179 hLs9) rfl (dxX12_farthest_1 0 rfl) ?_
    refine x_sipush (v := 145) (dxX12_farthest_1 1 rfl) rfl ?_
    refine x_icmp_eq (tgt := 81) (dxX12_farthest_1 2 rfl) (by decide) (fun hc => ?_) (fun hc => ?_)
    · replace h := h.1 hc
      obtain ⟨x11, e12⟩ : ∃ y : Int32, y = l4 + 1 := ⟨_, rfl⟩
      replace h := h x11 e12
      refine x_iinc (v := x11) (dxX12_farthest_1 13 rfl) (i := 4) rfl (by rw [e12]; rfl) (Nat.le_of_ble_eq_true rfl) rfl rfl ?_
      refine x_goto (tgt := 35) (dxX12_farthest_1 14 rfl) (by decide) ?_
      exact h
    · replace h := h.2 hc
      refine x_aload_n (i := 0) (dxX12_farthest_1 3 rfl) rfl rfl ?_
      refine gf_12_455 (kd_179 hLs9) rfl (dxX12_farthest_1 4 rfl) ?_
      refine x_iload_n (i := 3) (dxX12_farthest_1 5 rfl) rfl rfl ?_
      refine x_icmp_gt (tgt := 73) (dxX12_farthest_1 6 rfl) (by decide) (fun hc => ?_) (fun hc => ?_)
      · replace h := h.1 hc
        refine x_aload_n (i := 0) (dxX12_farthest_1 8 rfl) rfl rfl ?_
        refine gf_12_455 (kd_179 hLs9) rfl (dxX12_farthest_1 9 rfl) ?_
        refine x_topi (fun x13 e14 => ?_)
        replace h := h x13 e14
        refine x_istore_n (i := 3) (dxX12_farthest_1 10 rfl) rfl (Nat.le_of_ble_eq_true rfl) rfl rfl ?_
        refine x_iload (dxX12_farthest_1 11 rfl) rfl ?_
        refine x_istore_n (i := 2) (dxX12_farthest_1 12 rfl) rfl (Nat.le_of_ble_eq_true rfl) rfl rfl ?_
        obtain ⟨x15, e16⟩ : ∃ y : Int32, y = l4 + 1 := ⟨_, rfl⟩
        replace h := h x15 e16
        refine x_iinc (v := x15) (dxX12_farthest_1 13 rfl) (i := 4) rfl (by rw [e16]; rfl) (Nat.le_of_ble_eq_true rfl) rfl rfl ?_
        refine x_goto (tgt := 35) (dxX12_farthest_1 14 rfl) (by decide) ?_
        exact h
      · replace h := h.2 hc
        refine x_goto (tgt := 81) (dxX12_farthest_1 7 rfl) (by decide) ?_
        obtain ⟨x17, e18⟩ : ∃ y : Int32, y = l4 + 1 := ⟨_, rfl⟩
        replace h := h x17 e18
        refine x_iinc (v := x17) (dxX12_farthest_1 13 rfl) (i := 4) rfl (by rw [e18]; rfl) (Nat.le_of_ble_eq_true rfl) rfl rfl ?_
        refine x_goto (tgt := 35) (dxX12_farthest_1 14 rfl) (by decide) ?_
        exact h
theorem vcX12_isFlat {g : GV} {d : Nat} {P : Int32 → PS → Prop} {σ : PS} (hL : Lay σ) (p0 : Int32) (h : ∀ s1 : PS, s1 = si σ 221 (Int32.toNatClampNeg 0) 0 → ∀ s3 : PS, s3 = si s1 222 (Int32.toNatClampNeg 0) 0 → ∀ s5 : PS, s5 = si s3 223 (Int32.toNatClampNeg 0) 0 → VX12_isFlat g (d + 1) P 25 [some (.ref 179), some (.int p0), some (.int 1), some (.int 0), none, none, none, none, none, none] [] s5) : CX12_isFlat g (d + 1) [.ref 179, .int p0] σ P := by
  refine x_entry (L := [some (.ref 179), some (.int p0), none, none, none, none, none, none, none, none]) pn_12 (Nat.le_of_ble_eq_true rfl) ⟨8, rfl⟩ ?_
  show VX12_isFlat g (d + 1) P 0 [some (.ref 179), some (.int p0), none, none, none, none, none, none, none, none] [] σ
  refine x_iconst (v := 1) (dxX12_isFlat_0 0 rfl) rfl ?_
  refine x_istore_n (i := 2) (dxX12_isFlat_0 1 rfl) rfl (Nat.le_of_ble_eq_true rfl) rfl rfl ?_
  refine x_aload_n (i := 0) (dxX12_isFlat_0 2 rfl) rfl rfl ?_
  refine gf_12_137 (kd_179 hL) (rv_179_69 hL) (dxX12_isFlat_0 3 rfl) ?_
  refine x_iconst (v := 0) (dxX12_isFlat_0 4 rfl) rfl ?_
  refine x_iconst (v := 0) (dxX12_isFlat_0 5 rfl) rfl ?_
  refine x_iast (kd_221 hL) (vpl 10 0 rfl) (dxX12_isFlat_0 6 rfl) ?_
  refine x_sto (fun s1 e2 => ?_)
  replace h := h s1 e2
  have hKs1 : kd s1 = kd σ := by rw [e2]; exact (rfl : kd σ = kd σ)
  have hLs1 : Lay s1 := by rw [e2]; exact hL.si
  refine x_aload_n (i := 0) (dxX12_isFlat_0 7 rfl) rfl rfl ?_
  refine gf_12_140 (kd_179 hLs1) (rv_179_70 hLs1) (dxX12_isFlat_0 8 rfl) ?_
  refine x_iconst (v := 0) (dxX12_isFlat_0 9 rfl) rfl ?_
  refine x_iconst (v := 0) (dxX12_isFlat_0 10 rfl) rfl ?_
  refine x_iast (kd_222 hLs1) (vpl 10 0 rfl) (dxX12_isFlat_0 11 rfl) ?_
  refine x_sto (fun s3 e4 => ?_)
  replace h := h s3 e4
  have hKs3 : kd s3 = kd σ := by rw [e4]; exact hKs1
  have hLs3 : Lay s3 := by rw [e4]; exact hLs1.si
  refine x_aload_n (i := 0) (dxX12_isFlat_0 12 rfl) rfl rfl ?_
  refine gf_12_143 (kd_179 hLs3) (rv_179_71 hLs3) (dxX12_isFlat_0 13 rfl) ?_
  refine x_iconst (v := 0) (dxX12_isFlat_0 14 rfl) rfl ?_
  refine x_iconst (v := 0) (dxX12_isFlat_0 15 rfl) rfl ?_
  refine x_iast (kd_223 hLs3) (vpl 10 0 rfl) (dxX12_isFlat_0 16 rfl) ?_
  refine x_sto (fun s5 e6 => ?_)
  replace h := h s5 e6
  have hKs5 : kd s5 = kd σ := by rw [e6]; exact hKs3
  have hLs5 : Lay s5 := by rw [e6]; exact hLs3.si
  refine x_iconst (v := 0) (dxX12_isFlat_0 17 rfl) rfl ?_
  refine x_istore_n (i := 3) (dxX12_isFlat_0 18 rfl) rfl (Nat.le_of_ble_eq_true rfl) rfl rfl ?_
  exact h
theorem vcX12_isFlat_25 {g : GV} {d : Nat} {P : Int32 → PS → Prop} {σ : PS} (hL : Lay σ) (l1 : Int32) (l2 : Int32) (l3 : Int32) (h : ((mi σ 179 35) ≤ l3 → VX12_isFlat g (d + 1) P 232 [some (.ref 179), none, none, some (.int 0), none, none, none, none, none, none] [] σ) ∧ (¬ (mi σ 179 35) ≤ l3 → VX12_isFlat g (d + 1) P 36 [some (.ref 179), some (.int l1), some (.int l2), some (.int l3), some (.int 0), none, none, none, none, none] [] σ)) : VX12_isFlat g (d + 1) P 25 [some (.ref 179), some (.int l1), some (.int l2), some (.int l3), none, none, none, none, none, none] [] σ := by
  refine x_iload_n (i := 3) (dxX12_isFlat_0 19 rfl) rfl rfl ?_
  refine x_aload_n (i := 0) (dxX12_isFlat_0 20 rfl) rfl rfl ?_
  refine gf_12_177 (kd_179 hL) rfl (dxX12_isFlat_0 21 rfl) ?_
  refine x_icmp_ge (tgt := 230) (dxX12_isFlat_0 22 rfl) (by decide) (fun hc => ?_) (fun hc => ?_)
  · replace h := h.1 hc
    refine x_iconst (v := 0) (dxX12_isFlat_4 16 rfl) rfl ?_
    refine x_istore_n (i := 3) (dxX12_isFlat_4 17 rfl) rfl (Nat.le_of_ble_eq_true rfl) rfl rfl ?_
    refine x_mask [true, false, false, true, false, false, false, false, false, false] (L1 := [some (.ref 179), none, none, some (.int 0), none, none, none, none, none, none]) rfl ?_
    exact h
  · replace h := h.2 hc
    refine x_iconst (v := 0) (dxX12_isFlat_0 23 rfl) rfl ?_
    refine x_istore (dxX12_isFlat_0 24 rfl) (Nat.le_of_ble_eq_true rfl) rfl rfl ?_
    exact h
theorem vcX12_isFlat_232 {g : GV} {d : Nat} {P : Int32 → PS → Prop} {σ : PS} (hL : Lay σ) (l3 : Int32) (h : ((mi σ 179 35) ≤ l3 → P 1 σ) ∧ (¬ (mi σ 179 35) ≤ l3 → VX12_isFlat g (d + 1) P 243 [some (.ref 179), none, none, some (.int l3), some (.int 0), none, none, none, none, none] [] σ)) : VX12_isFlat g (d + 1) P 232 [some (.ref 179), none, none, some (.int l3), none, none, none, none, none, none] [] σ := by
  refine x_iload_n (i := 3) (dxX12_isFlat_4 18 rfl) rfl rfl ?_
  refine x_aload_n (i := 0) (dxX12_isFlat_4 19 rfl) rfl rfl ?_
  refine gf_12_177 (kd_179 hL) rfl (dxX12_isFlat_4 20 rfl) ?_
  refine x_icmp_ge (tgt := 295) (dxX12_isFlat_4 21 rfl) (by decide) (fun hc => ?_) (fun hc => ?_)
  · replace h := h.1 hc
    refine x_iconst (v := 1) (dxX12_isFlat_5 19 rfl) rfl ?_
    exact x_iret (ty := .boolean) rfl rfl (dxX12_isFlat_5 20 rfl) ⟨_, rfl, h⟩
  · replace h := h.2 hc
    refine x_iconst (v := 0) (dxX12_isFlat_4 22 rfl) rfl ?_
    refine x_istore (dxX12_isFlat_4 23 rfl) (Nat.le_of_ble_eq_true rfl) rfl rfl ?_
    exact h
theorem vcX12_isFlat_36 {g : GV} {d : Nat} {P : Int32 → PS → Prop} {σ : PS} (hL : Lay σ) (l1 : Int32) (l2 : Int32) (l3 : Int32) (l4 : Int32) (h : ((2 * l1) ≤ l4 → ∀ x7 : Int32, x7 = l3 + 1 → VX12_isFlat g (d + 1) P 25 [some (.ref 179), some (.int l1), some (.int l2), some (.int x7), none, none, none, none, none, none] [] σ) ∧ (¬ (2 * l1) ≤ l4 → (¬ (jrem l4 2) = 0 → vp_in (l4 / 2) 10 ∧ vp_in (mi σ 227 (Int32.toNatClampNeg (l4 / 2))) 40 ∧ vp_in (mi σ 220 (Int32.toNatClampNeg (mi σ 227 (Int32.toNatClampNeg (l4 / 2))))) 80 ∧ VX12_isFlat g (d + 1) P 87 [some (.ref 179), some (.int l1), some (.int l2), some (.int l3), some (.int l4), none, none, none, none, none] [.int (mi σ 215 (Int32.toNatClampNeg (mi σ 220 (Int32.toNatClampNeg (mi σ 227 (Int32.toNatClampNeg (l4 / 2)))))))] σ) ∧ ((jrem l4 2) = 0 → vp_in (l4 / 2) 10 ∧ vp_in (mi σ 227 (Int32.toNatClampNeg (l4 / 2))) 40 ∧ VX12_isFlat g (d + 1) P 87 [some (.ref 179), some (.int l1), some (.int l2), some (.int l3), some (.int l4), none, none, none, none, none] [.int (mi σ 220 (Int32.toNatClampNeg (mi σ 227 (Int32.toNatClampNeg (l4 / 2)))))] σ))) : VX12_isFlat g (d + 1) P 36 [some (.ref 179), some (.int l1), some (.int l2), some (.int l3), some (.int l4), none, none, none, none, none] [] σ := by
  refine x_iload (dxX12_isFlat_0 25 rfl) rfl ?_
  refine x_iconst (v := 2) (dxX12_isFlat_0 26 rfl) rfl ?_
  refine x_iload_n (i := 1) (dxX12_isFlat_0 27 rfl) rfl rfl ?_
  refine x_imul (dxX12_isFlat_0 28 rfl) ?_
  refine x_icmp_ge (tgt := 224) (dxX12_isFlat_0 29 rfl) (by decide) (fun hc => ?_) (fun hc => ?_)
  · replace h := h.1 hc
    obtain ⟨x7, e8⟩ : ∃ y : Int32, y = l3 + 1 := ⟨_, rfl⟩
    replace h := h x7 e8
    refine x_iinc (v := x7) (dxX12_isFlat_4 14 rfl) (i := 3) rfl (by rw [e8]; rfl) (Nat.le_of_ble_eq_true rfl) rfl rfl ?_
    refine x_goto (tgt := 25) (dxX12_isFlat_4 15 rfl) (by decide) ?_
    refine x_mask [true, true, true, true, false, false, false, false, false, false] (L1 := [some (.ref 179), some (.int l1), some (.int l2), some (.int x7), none, none, none, none, none, none]) rfl ?_
    exact h
  · replace h := h.2 hc
    refine x_iload (dxX12_isFlat_0 30 rfl) rfl ?_
    refine x_iconst (v := 2) (dxX12_isFlat_0 31 rfl) rfl ?_
    refine x_irem (dxX12_isFlat_1 0 rfl) (by decide) ?_
    refine x_if_ne (tgt := 68) (dxX12_isFlat_1 1 rfl) (by decide) (fun hc => ?_) (fun hc => ?_)
    · replace h := h.1 hc
      refine x_aload_n (i := 0) (dxX12_isFlat_1 12 rfl) rfl rfl ?_
      refine gf_12_119 (kd_179 hL) (rv_179_55 hL) (dxX12_isFlat_1 13 rfl) ?_
      refine x_aload_n (i := 0) (dxX12_isFlat_1 14 rfl) rfl rfl ?_
      refine gf_12_134 (kd_179 hL) (rv_179_68 hL) (dxX12_isFlat_1 15 rfl) ?_
      refine x_aload_n (i := 0) (dxX12_isFlat_1 16 rfl) rfl rfl ?_
      refine gf_12_156 (kd_179 hL) (rv_179_78 hL) (dxX12_isFlat_1 17 rfl) ?_
      refine x_iload (dxX12_isFlat_1 18 rfl) rfl ?_
      refine x_iconst (v := 2) (dxX12_isFlat_1 19 rfl) rfl ?_
      refine x_idiv (dxX12_isFlat_1 20 rfl) (by decide) ?_
      obtain ⟨hi9, h⟩ := h
      refine x_iald (kd_227 hL) hi9 (dxX12_isFlat_1 21 rfl) ?_
      obtain ⟨hi10, h⟩ := h
      refine x_iald (kd_220 hL) hi10 (dxX12_isFlat_1 22 rfl) ?_
      obtain ⟨hi11, h⟩ := h
      refine x_iald (kd_215 hL) hi11 (dxX12_isFlat_1 23 rfl) ?_
      exact h
    · replace h := h.2 hc
      refine x_aload_n (i := 0) (dxX12_isFlat_1 2 rfl) rfl rfl ?_
      refine gf_12_134 (kd_179 hL) (rv_179_68 hL) (dxX12_isFlat_1 3 rfl) ?_
      refine x_aload_n (i := 0) (dxX12_isFlat_1 4 rfl) rfl rfl ?_
      refine gf_12_156 (kd_179 hL) (rv_179_78 hL) (dxX12_isFlat_1 5 rfl) ?_
      refine x_iload (dxX12_isFlat_1 6 rfl) rfl ?_
      refine x_iconst (v := 2) (dxX12_isFlat_1 7 rfl) rfl ?_
      refine x_idiv (dxX12_isFlat_1 8 rfl) (by decide) ?_
      obtain ⟨hi12, h⟩ := h
      refine x_iald (kd_227 hL) hi12 (dxX12_isFlat_1 9 rfl) ?_
      obtain ⟨hi13, h⟩ := h
      refine x_iald (kd_220 hL) hi13 (dxX12_isFlat_1 10 rfl) ?_
      refine x_goto (tgt := 87) (dxX12_isFlat_1 11 rfl) (by decide) ?_
      exact h
theorem vcX12_isFlat_243 {g : GV} {d : Nat} {P : Int32 → PS → Prop} {σ : PS} (hL : Lay σ) (l3 : Int32) (l4 : Int32) (h : (l3 ≤ l4 → ∀ x14 : Int32, x14 = l3 + 1 → VX12_isFlat g (d + 1) P 232 [some (.ref 179), none, none, some (.int x14), none, none, none, none, none, none] [] σ) ∧ (¬ l3 ≤ l4 → vp_in l3 10 ∧ vp_in l4 10 ∧ (¬ (mi σ 221 (Int32.toNatClampNeg l3)) = (mi σ 221 (Int32.toNatClampNeg l4)) → ∀ x18 : Int32, x18 = l4 + 1 → VX12_isFlat g (d + 1) P 243 [some (.ref 179), none, none, some (.int l3), some (.int x18), none, none, none, none, none] [] σ) ∧ ((mi σ 221 (Int32.toNatClampNeg l3)) = (mi σ 221 (Int32.toNatClampNeg l4)) → vp_in l3 10 ∧ vp_in l4 10 ∧ (¬ (mi σ 222 (Int32.toNatClampNeg l3)) = (mi σ 222 (Int32.toNatClampNeg l4)) → ∀ x22 : Int32, x22 = l4 + 1 → VX12_isFlat g (d + 1) P 243 [some (.ref 179), none, none, some (.int l3), some (.int x22), none, none, none, none, none] [] σ) ∧ ((mi σ 222 (Int32.toNatClampNeg l3)) = (mi σ 222 (Int32.toNatClampNeg l4)) → P 0 σ)))) : VX12_isFlat g (d + 1) P 243 [some (.ref 179), none, none, some (.int l3), some (.int l4), none, none, none, none, none] [] σ := by
  refine x_iload (dxX12_isFlat_4 24 rfl) rfl ?_
  refine x_iload_n (i := 3) (dxX12_isFlat_4 25 rfl) rfl rfl ?_
  refine x_icmp_ge (tgt := 289) (dxX12_isFlat_4 26 rfl) (by decide) (fun hc => ?_) (fun hc => ?_)
  · replace h := h.1 hc
    obtain ⟨x14, e15⟩ : ∃ y : Int32, y = l3 + 1 := ⟨_, rfl⟩
    replace h := h x14 e15
    refine x_iinc (v := x14) (dxX12_isFlat_5 17 rfl) (i := 3) rfl (by rw [e15]; rfl) (Nat.le_of_ble_eq_true rfl) rfl rfl ?_
    refine x_goto (tgt := 232) (dxX12_isFlat_5 18 rfl) (by decide) ?_
    refine x_mask [true, false, false, true, false, false, false, false, false, false] (L1 := [some (.ref 179), none, none, some (.int x14), none, none, none, none, none, none]) rfl ?_
    exact h
  · replace h := h.2 hc
    refine x_aload_n (i := 0) (dxX12_isFlat_4 27 rfl) rfl rfl ?_
    refine gf_12_137 (kd_179 hL) (rv_179_69 hL) (dxX12_isFlat_4 28 rfl) ?_
    refine x_iload_n (i := 3) (dxX12_isFlat_4 29 rfl) rfl rfl ?_
    obtain ⟨hi16, h⟩ := h
    refine x_iald (kd_221 hL) hi16 (dxX12_isFlat_4 30 rfl) ?_
    refine x_aload_n (i := 0) (dxX12_isFlat_4 31 rfl) rfl rfl ?_
    refine gf_12_137 (kd_179 hL) (rv_179_69 hL) (dxX12_isFlat_5 0 rfl) ?_
    refine x_iload (dxX12_isFlat_5 1 rfl) rfl ?_
    obtain ⟨hi17, h⟩ := h
    refine x_iald (kd_221 hL) hi17 (dxX12_isFlat_5 2 rfl) ?_
    refine x_icmp_ne (tgt := 283) (dxX12_isFlat_5 3 rfl) (by decide) (fun hc => ?_) (fun hc => ?_)
    · replace h := h.1 hc
      obtain ⟨x18, e19⟩ : ∃ y : Int32, y = l4 + 1 := ⟨_, rfl⟩
      replace h := h x18 e19
      refine x_iinc (v := x18) (dxX12_isFlat_5 15 rfl) (i := 4) rfl (by rw [e19]; rfl) (Nat.le_of_ble_eq_true rfl) rfl rfl ?_
      refine x_goto (tgt := 243) (dxX12_isFlat_5 16 rfl) (by decide) ?_
      exact h
    · replace h := h.2 hc
      refine x_aload_n (i := 0) (dxX12_isFlat_5 4 rfl) rfl rfl ?_
      refine gf_12_140 (kd_179 hL) (rv_179_70 hL) (dxX12_isFlat_5 5 rfl) ?_
      refine x_iload_n (i := 3) (dxX12_isFlat_5 6 rfl) rfl rfl ?_
      obtain ⟨hi20, h⟩ := h
      refine x_iald (kd_222 hL) hi20 (dxX12_isFlat_5 7 rfl) ?_
      refine x_aload_n (i := 0) (dxX12_isFlat_5 8 rfl) rfl rfl ?_
      refine gf_12_140 (kd_179 hL) (rv_179_70 hL) (dxX12_isFlat_5 9 rfl) ?_
      refine x_iload (dxX12_isFlat_5 10 rfl) rfl ?_
      obtain ⟨hi21, h⟩ := h
      refine x_iald (kd_222 hL) hi21 (dxX12_isFlat_5 11 rfl) ?_
      refine x_icmp_ne (tgt := 283) (dxX12_isFlat_5 12 rfl) (by decide) (fun hc => ?_) (fun hc => ?_)
      · replace h := h.1 hc
        obtain ⟨x22, e23⟩ : ∃ y : Int32, y = l4 + 1 := ⟨_, rfl⟩
        replace h := h x22 e23
        refine x_iinc (v := x22) (dxX12_isFlat_5 15 rfl) (i := 4) rfl (by rw [e23]; rfl) (Nat.le_of_ble_eq_true rfl) rfl rfl ?_
        refine x_goto (tgt := 243) (dxX12_isFlat_5 16 rfl) (by decide) ?_
        exact h
      · replace h := h.2 hc
        refine x_iconst (v := 0) (dxX12_isFlat_5 13 rfl) rfl ?_
        exact x_iret (ty := .boolean) rfl rfl (dxX12_isFlat_5 14 rfl) ⟨_, rfl, h⟩
theorem vcX12_isFlat_87 {g : GV} {d : Nat} {P : Int32 → PS → Prop} {σ : PS} (hL : Lay σ) (l1 : Int32) (l2 : Int32) (l3 : Int32) (l4 : Int32) (t0 : Int32) (h : vp_in t0 80 ∧ ∀ x25 : Int32, x25 = mi σ 215 (Int32.toNatClampNeg t0) → ∀ x27 : Int32, x27 = t0 / 4 → ∀ x29 : Int32, x29 = x25 / 4 → (((jshr l2 x27) &&& 1) = 0 → ∀ x31 : Int32, x31 = l4 + 1 → VX12_isFlat g (d + 1) P 36 [some (.ref 179), some (.int l1), some (.int l2), some (.int l3), some (.int x31), none, none, none, none, none] [] σ) ∧ (¬ ((jshr l2 x27) &&& 1) = 0 → (¬ ((jshr l2 x29) &&& 1) = 1 → vp_in x27 10 ∧ ∀ x34 : Int32, x34 = jrem (((jrem t0 4) + 4) - (mi σ 223 (Int32.toNatClampNeg x27))) 4 → vp_in x27 10 ∧ CX12_east g d [.int x34] σ (fun (v38 : Int32) (s37 : PS) => Fr σ s37 ∧ vp_in x29 10 ∧ ∀ s40 : PS, s40 = si s37 221 (Int32.toNatClampNeg x29) ((mi σ 221 (Int32.toNatClampNeg x27)) + v38) → vp_in x27 10 ∧ CX12_north g d [.int x34] s40 (fun (v44 : Int32) (s43 : PS) => Fr s40 s43 ∧ vp_in x29 10 ∧ ∀ s46 : PS, s46 = si s43 222 (Int32.toNatClampNeg x29) ((mi s40 222 (Int32.toNatClampNeg x27)) + v44) → vp_in x29 10 ∧ ∀ s49 : PS, s49 = si s46 223 (Int32.toNatClampNeg x29) (jrem ((((jrem x25 4) + 8) - x34) - 2) 4) → ∀ x51 : Int32, x51 = l2 ||| (jshl 1 x29) → ∀ x53 : Int32, x53 = l4 + 1 → VX12_isFlat g (d + 1) P 36 [some (.ref 179), some (.int l1), some (.int x51), some (.int l3), some (.int x53), none, none, none, none, none] [] s49))) ∧ (((jshr l2 x29) &&& 1) = 1 → ∀ x55 : Int32, x55 = l4 + 1 → VX12_isFlat g (d + 1) P 36 [some (.ref 179), some (.int l1), some (.int l2), some (.int l3), some (.int x55), none, none, none, none, none] [] σ))) : VX12_isFlat g (d + 1) P 87 [some (.ref 179), some (.int l1), some (.int l2), some (.int l3), some (.int l4), none, none, none, none, none] [.int t0] σ := by
  refine x_istore (dxX12_isFlat_1 24 rfl) (Nat.le_of_ble_eq_true rfl) rfl rfl ?_
  refine x_aload_n (i := 0) (dxX12_isFlat_1 25 rfl) rfl rfl ?_
  refine gf_12_119 (kd_179 hL) (rv_179_55 hL) (dxX12_isFlat_1 26 rfl) ?_
  refine x_iload (dxX12_isFlat_1 27 rfl) rfl ?_
  obtain ⟨hi24, h⟩ := h
  refine x_iald (kd_215 hL) hi24 (dxX12_isFlat_1 28 rfl) ?_
  refine x_topi (fun x25 e26 => ?_)
  replace h := h x25 e26
  refine x_istore (dxX12_isFlat_1 29 rfl) (Nat.le_of_ble_eq_true rfl) rfl rfl ?_
  refine x_iload (dxX12_isFlat_1 30 rfl) rfl ?_
  refine x_iconst (v := 4) (dxX12_isFlat_1 31 rfl) rfl ?_
  refine x_idiv (dxX12_isFlat_2 0 rfl) (by decide) ?_
  refine x_topi (fun x27 e28 => ?_)
  replace h := h x27 e28
  refine x_istore (dxX12_isFlat_2 1 rfl) (Nat.le_of_ble_eq_true rfl) rfl rfl ?_
  refine x_iload (dxX12_isFlat_2 2 rfl) rfl ?_
  refine x_iconst (v := 4) (dxX12_isFlat_2 3 rfl) rfl ?_
  refine x_idiv (dxX12_isFlat_2 4 rfl) (by decide) ?_
  refine x_topi (fun x29 e30 => ?_)
  replace h := h x29 e30
  refine x_istore (dxX12_isFlat_2 5 rfl) (Nat.le_of_ble_eq_true rfl) rfl rfl ?_
  refine x_iload_n (i := 2) (dxX12_isFlat_2 6 rfl) rfl rfl ?_
  refine x_iload (dxX12_isFlat_2 7 rfl) rfl ?_
  refine x_ishr (dxX12_isFlat_2 8 rfl) ?_
  refine x_iconst (v := 1) (dxX12_isFlat_2 9 rfl) rfl ?_
  refine x_iand (dxX12_isFlat_2 10 rfl) ?_
  refine x_if_eq (tgt := 218) (dxX12_isFlat_2 11 rfl) (by decide) (fun hc => ?_) (fun hc => ?_)
  · replace h := h.1 hc
    obtain ⟨x31, e32⟩ : ∃ y : Int32, y = l4 + 1 := ⟨_, rfl⟩
    replace h := h x31 e32
    refine x_iinc (v := x31) (dxX12_isFlat_4 12 rfl) (i := 4) rfl (by rw [e32]; rfl) (Nat.le_of_ble_eq_true rfl) rfl rfl ?_
    refine x_goto (tgt := 36) (dxX12_isFlat_4 13 rfl) (by decide) ?_
    refine x_mask [true, true, true, true, true, false, false, false, false, false] (L1 := [some (.ref 179), some (.int l1), some (.int l2), some (.int l3), some (.int x31), none, none, none, none, none]) rfl ?_
    exact h
  · replace h := h.2 hc
    refine x_iload_n (i := 2) (dxX12_isFlat_2 12 rfl) rfl rfl ?_
    refine x_iload (dxX12_isFlat_2 13 rfl) rfl ?_
    refine x_ishr (dxX12_isFlat_2 14 rfl) ?_
    refine x_iconst (v := 1) (dxX12_isFlat_2 15 rfl) rfl ?_
    refine x_iand (dxX12_isFlat_2 16 rfl) ?_
    refine x_iconst (v := 1) (dxX12_isFlat_2 17 rfl) rfl ?_
    refine x_icmp_ne (tgt := 132) (dxX12_isFlat_2 18 rfl) (by decide) (fun hc => ?_) (fun hc => ?_)
    · replace h := h.1 hc
      refine x_iload (dxX12_isFlat_2 20 rfl) rfl ?_
      refine x_iconst (v := 4) (dxX12_isFlat_2 21 rfl) rfl ?_
      refine x_irem (dxX12_isFlat_2 22 rfl) (by decide) ?_
      refine x_iconst (v := 4) (dxX12_isFlat_2 23 rfl) rfl ?_
      refine x_iadd (dxX12_isFlat_2 24 rfl) ?_
      refine x_aload_n (i := 0) (dxX12_isFlat_2 25 rfl) rfl rfl ?_
      refine gf_12_143 (kd_179 hL) (rv_179_71 hL) (dxX12_isFlat_2 26 rfl) ?_
      refine x_iload (dxX12_isFlat_2 27 rfl) rfl ?_
      obtain ⟨hi33, h⟩ := h
      refine x_iald (kd_223 hL) hi33 (dxX12_isFlat_2 28 rfl) ?_
      refine x_isub (dxX12_isFlat_2 29 rfl) ?_
      refine x_iconst (v := 4) (dxX12_isFlat_2 30 rfl) rfl ?_
      refine x_irem (dxX12_isFlat_2 31 rfl) (by decide) ?_
      refine x_topi (fun x34 e35 => ?_)
      replace h := h x34 e35
      refine x_istore (dxX12_isFlat_3 0 rfl) (Nat.le_of_ble_eq_true rfl) rfl rfl ?_
      refine x_aload_n (i := 0) (dxX12_isFlat_3 1 rfl) rfl rfl ?_
      refine gf_12_137 (kd_179 hL) (rv_179_69 hL) (dxX12_isFlat_3 2 rfl) ?_
      refine x_iload (dxX12_isFlat_3 3 rfl) rfl ?_
      refine x_aload_n (i := 0) (dxX12_isFlat_3 4 rfl) rfl rfl ?_
      refine gf_12_137 (kd_179 hL) (rv_179_69 hL) (dxX12_isFlat_3 5 rfl) ?_
      refine x_iload (dxX12_isFlat_3 6 rfl) rfl ?_
      obtain ⟨hi36, h⟩ := h
      refine x_iald (kd_221 hL) hi36 (dxX12_isFlat_3 7 rfl) ?_
      refine x_iload (dxX12_isFlat_3 8 rfl) rfl ?_
      refine cl_12_323 (Nat.le_of_ble_eq_true rfl) (dxX12_isFlat_3 9 rfl) h (fun v38 s37 h => ?_) (Nat.le_refl _) (Nat.le_refl _)
      obtain ⟨hFs37, h⟩ := h
      have hKs37 : kd s37 = kd σ := hFs37.1.trans (rfl : kd σ = kd σ)
      have hLs37 : Lay s37 := hL.fr hFs37
      refine x_iadd (dxX12_isFlat_3 10 rfl) ?_
      obtain ⟨hi39, h⟩ := h
      refine x_iast (kd_221 hLs37) hi39 (dxX12_isFlat_3 11 rfl) ?_
      refine x_sto (fun s40 e41 => ?_)
      replace h := h s40 e41
      have hKs40 : kd s40 = kd σ := by rw [e41]; exact hKs37
      have hLs40 : Lay s40 := by rw [e41]; exact hLs37.si
      refine x_aload_n (i := 0) (dxX12_isFlat_3 12 rfl) rfl rfl ?_
      refine gf_12_140 (kd_179 hLs40) (rv_179_70 hLs40) (dxX12_isFlat_3 13 rfl) ?_
      refine x_iload (dxX12_isFlat_3 14 rfl) rfl ?_
      refine x_aload_n (i := 0) (dxX12_isFlat_3 15 rfl) rfl rfl ?_
      refine gf_12_140 (kd_179 hLs40) (rv_179_70 hLs40) (dxX12_isFlat_3 16 rfl) ?_
      refine x_iload (dxX12_isFlat_3 17 rfl) rfl ?_
      obtain ⟨hi42, h⟩ := h
      refine x_iald (kd_222 hLs40) hi42 (dxX12_isFlat_3 18 rfl) ?_
      refine x_iload (dxX12_isFlat_3 19 rfl) rfl ?_
      refine cl_12_326 (Nat.le_of_ble_eq_true rfl) (dxX12_isFlat_3 20 rfl) h (fun v44 s43 h => ?_) (Nat.le_refl _) (Nat.le_refl _)
      obtain ⟨hFs43, h⟩ := h
      have hKs43 : kd s43 = kd σ := hFs43.1.trans hKs40
      have hLs43 : Lay s43 := hLs40.fr hFs43
      refine x_iadd (dxX12_isFlat_3 21 rfl) ?_
      obtain ⟨hi45, h⟩ := h
      refine x_iast (kd_222 hLs43) hi45 (dxX12_isFlat_3 22 rfl) ?_
      refine x_sto (fun s46 e47 => ?_)
      replace h := h s46 e47
      have hKs46 : kd s46 = kd σ := by rw [e47]; exact hKs43
      have hLs46 : Lay s46 := by rw [e47]; exact hLs43.si
      refine x_aload_n (i := 0) (dxX12_isFlat_3 23 rfl) rfl rfl ?_
      refine gf_12_143 (kd_179 hLs46) (rv_179_71 hLs46) (dxX12_isFlat_3 24 rfl) ?_
      refine x_iload (dxX12_isFlat_3 25 rfl) rfl ?_
      refine x_iload (dxX12_isFlat_3 26 rfl) rfl ?_
      refine x_iconst (v := 4) (dxX12_isFlat_3 27 rfl) rfl ?_
      refine x_irem (dxX12_isFlat_3 28 rfl) (by decide) ?_
      refine x_bipush (v := 8) (dxX12_isFlat_3 29 rfl) rfl ?_
      refine x_iadd (dxX12_isFlat_3 30 rfl) ?_
      refine x_iload (dxX12_isFlat_3 31 rfl) rfl ?_
      refine x_isub (dxX12_isFlat_4 0 rfl) ?_
      refine x_iconst (v := 2) (dxX12_isFlat_4 1 rfl) rfl ?_
      refine x_isub (dxX12_isFlat_4 2 rfl) ?_
      refine x_iconst (v := 4) (dxX12_isFlat_4 3 rfl) rfl ?_
      refine x_irem (dxX12_isFlat_4 4 rfl) (by decide) ?_
      obtain ⟨hi48, h⟩ := h
      refine x_iast (kd_223 hLs46) hi48 (dxX12_isFlat_4 5 rfl) ?_
      refine x_sto (fun s49 e50 => ?_)
      replace h := h s49 e50
      have hKs49 : kd s49 = kd σ := by rw [e50]; exact hKs46
      have hLs49 : Lay s49 := by rw [e50]; exact hLs46.si
      refine x_iload_n (i := 2) (dxX12_isFlat_4 6 rfl) rfl rfl ?_
      refine x_iconst (v := 1) (dxX12_isFlat_4 7 rfl) rfl ?_
      refine x_iload (dxX12_isFlat_4 8 rfl) rfl ?_
      refine x_ishl (dxX12_isFlat_4 9 rfl) ?_
      refine x_ior (dxX12_isFlat_4 10 rfl) ?_
      refine x_topi (fun x51 e52 => ?_)
      replace h := h x51 e52
      refine x_istore_n (i := 2) (dxX12_isFlat_4 11 rfl) rfl (Nat.le_of_ble_eq_true rfl) rfl rfl ?_
      obtain ⟨x53, e54⟩ : ∃ y : Int32, y = l4 + 1 := ⟨_, rfl⟩
      replace h := h x53 e54
      refine x_iinc (v := x53) (dxX12_isFlat_4 12 rfl) (i := 4) rfl (by rw [e54]; rfl) (Nat.le_of_ble_eq_true rfl) rfl rfl ?_
      refine x_goto (tgt := 36) (dxX12_isFlat_4 13 rfl) (by decide) ?_
      refine x_mask [true, true, true, true, true, false, false, false, false, false] (L1 := [some (.ref 179), some (.int l1), some (.int x51), some (.int l3), some (.int x53), none, none, none, none, none]) rfl ?_
      exact h
    · replace h := h.2 hc
      refine x_goto (tgt := 218) (dxX12_isFlat_2 19 rfl) (by decide) ?_
      obtain ⟨x55, e56⟩ : ∃ y : Int32, y = l4 + 1 := ⟨_, rfl⟩
      replace h := h x55 e56
      refine x_iinc (v := x55) (dxX12_isFlat_4 12 rfl) (i := 4) rfl (by rw [e56]; rfl) (Nat.le_of_ble_eq_true rfl) rfl rfl ?_
      refine x_goto (tgt := 36) (dxX12_isFlat_4 13 rfl) (by decide) ?_
      refine x_mask [true, true, true, true, true, false, false, false, false, false] (L1 := [some (.ref 179), some (.int l1), some (.int l2), some (.int l3), some (.int x55), none, none, none, none, none]) rfl ?_
      exact h
theorem vcX12_turnedBy {g : GV} {d : Nat} {P : Int64 → PS → Prop} {σ : PS} (hL : Lay σ) (p0 : Int32) (h : VX12_turnedBy g d P 9 [some (.ref 179), some (.int p0), some (.int 99), some (.int 99), some (.int 0), none, none, none, none] [] σ) : CX12_turnedBy g d [.ref 179, .int p0] σ P := by
  refine x_entry (L := [some (.ref 179), some (.int p0), none, none, none, none, none, none, none]) pn_12 (Nat.le_of_ble_eq_true rfl) ⟨7, rfl⟩ ?_
  show VX12_turnedBy g d P 0 [some (.ref 179), some (.int p0), none, none, none, none, none, none, none] [] σ
  refine x_bipush (v := 99) (dxX12_turnedBy_0 0 rfl) rfl ?_
  refine x_istore_n (i := 2) (dxX12_turnedBy_0 1 rfl) rfl (Nat.le_of_ble_eq_true rfl) rfl rfl ?_
  refine x_bipush (v := 99) (dxX12_turnedBy_0 2 rfl) rfl ?_
  refine x_istore_n (i := 3) (dxX12_turnedBy_0 3 rfl) rfl (Nat.le_of_ble_eq_true rfl) rfl rfl ?_
  refine x_iconst (v := 0) (dxX12_turnedBy_0 4 rfl) rfl ?_
  refine x_istore (dxX12_turnedBy_0 5 rfl) (Nat.le_of_ble_eq_true rfl) rfl rfl ?_
  exact h
theorem vcX12_turnedBy_9 {g : GV} {d : Nat} {P : Int64 → PS → Prop} {σ : PS} (hL : Lay σ) (l1 : Int32) (l2 : Int32) (l3 : Int32) (l4 : Int32) (h : ((mi σ 179 35) ≤ l4 → VX12_turnedBy g d P 153 [some (.ref 179), none, some (.int l2), some (.int l3), some (.long 0), none, some (.int 0), none, none] [] σ) ∧ (¬ (mi σ 179 35) ≤ l4 → ((l1 &&& 4) ≤ 0 → vp_in l4 10 ∧ ∀ x2 : Int32, x2 = mi σ 221 (Int32.toNatClampNeg l4) → ((l1 &&& 4) ≤ 0 → vp_in l4 10 ∧ ∀ x5 : Int32, x5 = mi σ 222 (Int32.toNatClampNeg l4) → ((l1 &&& 1) ≤ 0 → VX12_turnedBy g d P 82 [some (.ref 179), some (.int l1), some (.int l2), some (.int l3), some (.int l4), none, some (.int x5), none, none] [.int x2] σ) ∧ (¬ (l1 &&& 1) ≤ 0 → VX12_turnedBy g d P 82 [some (.ref 179), some (.int l1), some (.int l2), some (.int l3), some (.int l4), none, some (.int x5), none, none] [.int (-x2)] σ)) ∧ (¬ (l1 &&& 4) ≤ 0 → vp_in l4 10 ∧ ∀ x8 : Int32, x8 = mi σ 221 (Int32.toNatClampNeg l4) → ((l1 &&& 1) ≤ 0 → VX12_turnedBy g d P 82 [some (.ref 179), some (.int l1), some (.int l2), some (.int l3), some (.int l4), none, some (.int x8), none, none] [.int x2] σ) ∧ (¬ (l1 &&& 1) ≤ 0 → VX12_turnedBy g d P 82 [some (.ref 179), some (.int l1), some (.int l2), some (.int l3), some (.int l4), none, some (.int x8), none, none] [.int (-x2)] σ))) ∧ (¬ (l1 &&& 4) ≤ 0 → vp_in l4 10 ∧ ∀ x11 : Int32, x11 = mi σ 222 (Int32.toNatClampNeg l4) → ((l1 &&& 4) ≤ 0 → vp_in l4 10 ∧ ∀ x14 : Int32, x14 = mi σ 222 (Int32.toNatClampNeg l4) → ((l1 &&& 1) ≤ 0 → VX12_turnedBy g d P 82 [some (.ref 179), some (.int l1), some (.int l2), some (.int l3), some (.int l4), none, some (.int x14), none, none] [.int x11] σ) ∧ (¬ (l1 &&& 1) ≤ 0 → VX12_turnedBy g d P 82 [some (.ref 179), some (.int l1), some (.int l2), some (.int l3), some (.int l4), none, some (.int x14), none, none] [.int (-x11)] σ)) ∧ (¬ (l1 &&& 4) ≤ 0 → vp_in l4 10 ∧ ∀ x17 : Int32, x17 = mi σ 221 (Int32.toNatClampNeg l4) → ((l1 &&& 1) ≤ 0 → VX12_turnedBy g d P 82 [some (.ref 179), some (.int l1), some (.int l2), some (.int l3), some (.int l4), none, some (.int x17), none, none] [.int x11] σ) ∧ (¬ (l1 &&& 1) ≤ 0 → VX12_turnedBy g d P 82 [some (.ref 179), some (.int l1), some (.int l2), some (.int l3), some (.int l4), none, some (.int x17), none, none] [.int (-x11)] σ))))) : VX12_turnedBy g d P 9 [some (.ref 179), some (.int l1), some (.int l2), some (.int l3), some (.int l4), none, none, none, none] [] σ := by
  refine x_iload (dxX12_turnedBy_0 6 rfl) rfl ?_
  refine x_aload_n (i := 0) (dxX12_turnedBy_0 7 rfl) rfl rfl ?_
  refine gf_12_177 (kd_179 hL) rfl (dxX12_turnedBy_0 8 rfl) ?_
  refine x_icmp_ge (tgt := 147) (dxX12_turnedBy_0 9 rfl) (by decide) (fun hc => ?_) (fun hc => ?_)
  · replace h := h.1 hc
    refine x_lconst (v := 0) (dxX12_turnedBy_2 19 rfl) rfl ?_
    refine x_lstore (dxX12_turnedBy_2 20 rfl) (Nat.le_of_ble_eq_true rfl) rfl rfl ?_
    refine x_iconst (v := 0) (dxX12_turnedBy_2 21 rfl) rfl ?_
    refine x_istore (dxX12_turnedBy_2 22 rfl) (Nat.le_of_ble_eq_true rfl) rfl rfl ?_
    refine x_mask [true, false, true, true, true, false, true, false, false] (L1 := [some (.ref 179), none, some (.int l2), some (.int l3), some (.long 0), none, some (.int 0), none, none]) rfl ?_
    exact h
  · replace h := h.2 hc
    refine x_iload_n (i := 1) (dxX12_turnedBy_0 10 rfl) rfl rfl ?_
    refine x_iconst (v := 4) (dxX12_turnedBy_0 11 rfl) rfl ?_
    refine x_iand (dxX12_turnedBy_0 12 rfl) ?_
    refine x_if_le (tgt := 34) (dxX12_turnedBy_0 13 rfl) (by decide) (fun hc => ?_) (fun hc => ?_)
    · replace h := h.1 hc
      refine x_aload_n (i := 0) (dxX12_turnedBy_0 19 rfl) rfl rfl ?_
      refine gf_12_137 (kd_179 hL) (rv_179_69 hL) (dxX12_turnedBy_0 20 rfl) ?_
      refine x_iload (dxX12_turnedBy_0 21 rfl) rfl ?_
      obtain ⟨hi1, h⟩ := h
      refine x_iald (kd_221 hL) hi1 (dxX12_turnedBy_0 22 rfl) ?_
      refine x_topi (fun x2 e3 => ?_)
      replace h := h x2 e3
      refine x_istore (dxX12_turnedBy_0 23 rfl) (Nat.le_of_ble_eq_true rfl) rfl rfl ?_
      refine x_iload_n (i := 1) (dxX12_turnedBy_0 24 rfl) rfl rfl ?_
      refine x_iconst (v := 4) (dxX12_turnedBy_0 25 rfl) rfl ?_
      refine x_iand (dxX12_turnedBy_0 26 rfl) ?_
      refine x_if_le (tgt := 59) (dxX12_turnedBy_0 27 rfl) (by decide) (fun hc => ?_) (fun hc => ?_)
      · replace h := h.1 hc
        refine x_aload_n (i := 0) (dxX12_turnedBy_1 1 rfl) rfl rfl ?_
        refine gf_12_140 (kd_179 hL) (rv_179_70 hL) (dxX12_turnedBy_1 2 rfl) ?_
        refine x_iload (dxX12_turnedBy_1 3 rfl) rfl ?_
        obtain ⟨hi4, h⟩ := h
        refine x_iald (kd_222 hL) hi4 (dxX12_turnedBy_1 4 rfl) ?_
        refine x_topi (fun x5 e6 => ?_)
        replace h := h x5 e6
        refine x_istore (dxX12_turnedBy_1 5 rfl) (Nat.le_of_ble_eq_true rfl) rfl rfl ?_
        refine x_iload_n (i := 1) (dxX12_turnedBy_1 6 rfl) rfl rfl ?_
        refine x_iconst (v := 1) (dxX12_turnedBy_1 7 rfl) rfl ?_
        refine x_iand (dxX12_turnedBy_1 8 rfl) ?_
        refine x_if_le (tgt := 80) (dxX12_turnedBy_1 9 rfl) (by decide) (fun hc => ?_) (fun hc => ?_)
        · replace h := h.1 hc
          refine x_iload (dxX12_turnedBy_1 13 rfl) rfl ?_
          refine x_mask [true, true, true, true, true, false, true, false, false] (L1 := [some (.ref 179), some (.int l1), some (.int l2), some (.int l3), some (.int l4), none, some (.int x5), none, none]) rfl ?_
          exact h
        · replace h := h.2 hc
          refine x_iload (dxX12_turnedBy_1 10 rfl) rfl ?_
          refine x_ineg (dxX12_turnedBy_1 11 rfl) ?_
          refine x_goto (tgt := 82) (dxX12_turnedBy_1 12 rfl) (by decide) ?_
          refine x_mask [true, true, true, true, true, false, true, false, false] (L1 := [some (.ref 179), some (.int l1), some (.int l2), some (.int l3), some (.int l4), none, some (.int x5), none, none]) rfl ?_
          exact h
      · replace h := h.2 hc
        refine x_aload_n (i := 0) (dxX12_turnedBy_0 28 rfl) rfl rfl ?_
        refine gf_12_137 (kd_179 hL) (rv_179_69 hL) (dxX12_turnedBy_0 29 rfl) ?_
        refine x_iload (dxX12_turnedBy_0 30 rfl) rfl ?_
        obtain ⟨hi7, h⟩ := h
        refine x_iald (kd_221 hL) hi7 (dxX12_turnedBy_0 31 rfl) ?_
        refine x_goto (tgt := 66) (dxX12_turnedBy_1 0 rfl) (by decide) ?_
        refine x_topi (fun x8 e9 => ?_)
        replace h := h x8 e9
        refine x_istore (dxX12_turnedBy_1 5 rfl) (Nat.le_of_ble_eq_true rfl) rfl rfl ?_
        refine x_iload_n (i := 1) (dxX12_turnedBy_1 6 rfl) rfl rfl ?_
        refine x_iconst (v := 1) (dxX12_turnedBy_1 7 rfl) rfl ?_
        refine x_iand (dxX12_turnedBy_1 8 rfl) ?_
        refine x_if_le (tgt := 80) (dxX12_turnedBy_1 9 rfl) (by decide) (fun hc => ?_) (fun hc => ?_)
        · replace h := h.1 hc
          refine x_iload (dxX12_turnedBy_1 13 rfl) rfl ?_
          refine x_mask [true, true, true, true, true, false, true, false, false] (L1 := [some (.ref 179), some (.int l1), some (.int l2), some (.int l3), some (.int l4), none, some (.int x8), none, none]) rfl ?_
          exact h
        · replace h := h.2 hc
          refine x_iload (dxX12_turnedBy_1 10 rfl) rfl ?_
          refine x_ineg (dxX12_turnedBy_1 11 rfl) ?_
          refine x_goto (tgt := 82) (dxX12_turnedBy_1 12 rfl) (by decide) ?_
          refine x_mask [true, true, true, true, true, false, true, false, false] (L1 := [some (.ref 179), some (.int l1), some (.int l2), some (.int l3), some (.int l4), none, some (.int x8), none, none]) rfl ?_
          exact h
    · replace h := h.2 hc
      refine x_aload_n (i := 0) (dxX12_turnedBy_0 14 rfl) rfl rfl ?_
      refine gf_12_140 (kd_179 hL) (rv_179_70 hL) (dxX12_turnedBy_0 15 rfl) ?_
      refine x_iload (dxX12_turnedBy_0 16 rfl) rfl ?_
      obtain ⟨hi10, h⟩ := h
      refine x_iald (kd_222 hL) hi10 (dxX12_turnedBy_0 17 rfl) ?_
      refine x_goto (tgt := 41) (dxX12_turnedBy_0 18 rfl) (by decide) ?_
      refine x_topi (fun x11 e12 => ?_)
      replace h := h x11 e12
      refine x_istore (dxX12_turnedBy_0 23 rfl) (Nat.le_of_ble_eq_true rfl) rfl rfl ?_
      refine x_iload_n (i := 1) (dxX12_turnedBy_0 24 rfl) rfl rfl ?_
      refine x_iconst (v := 4) (dxX12_turnedBy_0 25 rfl) rfl ?_
      refine x_iand (dxX12_turnedBy_0 26 rfl) ?_
      refine x_if_le (tgt := 59) (dxX12_turnedBy_0 27 rfl) (by decide) (fun hc => ?_) (fun hc => ?_)
      · replace h := h.1 hc
        refine x_aload_n (i := 0) (dxX12_turnedBy_1 1 rfl) rfl rfl ?_
        refine gf_12_140 (kd_179 hL) (rv_179_70 hL) (dxX12_turnedBy_1 2 rfl) ?_
        refine x_iload (dxX12_turnedBy_1 3 rfl) rfl ?_
        obtain ⟨hi13, h⟩ := h
        refine x_iald (kd_222 hL) hi13 (dxX12_turnedBy_1 4 rfl) ?_
        refine x_topi (fun x14 e15 => ?_)
        replace h := h x14 e15
        refine x_istore (dxX12_turnedBy_1 5 rfl) (Nat.le_of_ble_eq_true rfl) rfl rfl ?_
        refine x_iload_n (i := 1) (dxX12_turnedBy_1 6 rfl) rfl rfl ?_
        refine x_iconst (v := 1) (dxX12_turnedBy_1 7 rfl) rfl ?_
        refine x_iand (dxX12_turnedBy_1 8 rfl) ?_
        refine x_if_le (tgt := 80) (dxX12_turnedBy_1 9 rfl) (by decide) (fun hc => ?_) (fun hc => ?_)
        · replace h := h.1 hc
          refine x_iload (dxX12_turnedBy_1 13 rfl) rfl ?_
          refine x_mask [true, true, true, true, true, false, true, false, false] (L1 := [some (.ref 179), some (.int l1), some (.int l2), some (.int l3), some (.int l4), none, some (.int x14), none, none]) rfl ?_
          exact h
        · replace h := h.2 hc
          refine x_iload (dxX12_turnedBy_1 10 rfl) rfl ?_
          refine x_ineg (dxX12_turnedBy_1 11 rfl) ?_
          refine x_goto (tgt := 82) (dxX12_turnedBy_1 12 rfl) (by decide) ?_
          refine x_mask [true, true, true, true, true, false, true, false, false] (L1 := [some (.ref 179), some (.int l1), some (.int l2), some (.int l3), some (.int l4), none, some (.int x14), none, none]) rfl ?_
          exact h
      · replace h := h.2 hc
        refine x_aload_n (i := 0) (dxX12_turnedBy_0 28 rfl) rfl rfl ?_
        refine gf_12_137 (kd_179 hL) (rv_179_69 hL) (dxX12_turnedBy_0 29 rfl) ?_
        refine x_iload (dxX12_turnedBy_0 30 rfl) rfl ?_
        obtain ⟨hi16, h⟩ := h
        refine x_iald (kd_221 hL) hi16 (dxX12_turnedBy_0 31 rfl) ?_
        refine x_goto (tgt := 66) (dxX12_turnedBy_1 0 rfl) (by decide) ?_
        refine x_topi (fun x17 e18 => ?_)
        replace h := h x17 e18
        refine x_istore (dxX12_turnedBy_1 5 rfl) (Nat.le_of_ble_eq_true rfl) rfl rfl ?_
        refine x_iload_n (i := 1) (dxX12_turnedBy_1 6 rfl) rfl rfl ?_
        refine x_iconst (v := 1) (dxX12_turnedBy_1 7 rfl) rfl ?_
        refine x_iand (dxX12_turnedBy_1 8 rfl) ?_
        refine x_if_le (tgt := 80) (dxX12_turnedBy_1 9 rfl) (by decide) (fun hc => ?_) (fun hc => ?_)
        · replace h := h.1 hc
          refine x_iload (dxX12_turnedBy_1 13 rfl) rfl ?_
          refine x_mask [true, true, true, true, true, false, true, false, false] (L1 := [some (.ref 179), some (.int l1), some (.int l2), some (.int l3), some (.int l4), none, some (.int x17), none, none]) rfl ?_
          exact h
        · replace h := h.2 hc
          refine x_iload (dxX12_turnedBy_1 10 rfl) rfl ?_
          refine x_ineg (dxX12_turnedBy_1 11 rfl) ?_
          refine x_goto (tgt := 82) (dxX12_turnedBy_1 12 rfl) (by decide) ?_
          refine x_mask [true, true, true, true, true, false, true, false, false] (L1 := [some (.ref 179), some (.int l1), some (.int l2), some (.int l3), some (.int l4), none, some (.int x17), none, none]) rfl ?_
          exact h
theorem vcX12_turnedBy_153 {g : GV} {d : Nat} {P : Int64 → PS → Prop} {σ : PS} (hL : Lay σ) (l2 : Int32) (l3 : Int32) (l4 : Int64) (l6 : Int32) (h : (8 ≤ l6 → P l4 σ) ∧ (¬ 8 ≤ l6 → VX12_turnedBy g d P 163 [some (.ref 179), none, some (.int l2), some (.int l3), some (.long l4), none, some (.int l6), some (.int 0), none] [] σ)) : VX12_turnedBy g d P 153 [some (.ref 179), none, some (.int l2), some (.int l3), some (.long l4), none, some (.int l6), none, none] [] σ := by
  refine x_iload (dxX12_turnedBy_2 23 rfl) rfl ?_
  refine x_bipush (v := 8) (dxX12_turnedBy_2 24 rfl) rfl ?_
  refine x_icmp_ge (tgt := 237) (dxX12_turnedBy_2 25 rfl) (by decide) (fun hc => ?_) (fun hc => ?_)
  · replace h := h.1 hc
    refine x_lload (dxX12_turnedBy_4 3 rfl) rfl ?_
    exact x_lret rfl (dxX12_turnedBy_4 4 rfl) ⟨_, rfl, h⟩
  · replace h := h.2 hc
    refine x_iconst (v := 0) (dxX12_turnedBy_2 26 rfl) rfl ?_
    refine x_istore (dxX12_turnedBy_2 27 rfl) (Nat.le_of_ble_eq_true rfl) rfl rfl ?_
    exact h
theorem vcX12_turnedBy_82 {g : GV} {d : Nat} {P : Int64 → PS → Prop} {σ : PS} (hL : Lay σ) (l1 : Int32) (l2 : Int32) (l3 : Int32) (l4 : Int32) (l6 : Int32) (t0 : Int32) (h : ((l1 &&& 2) ≤ 0 → vp_in l4 10 ∧ ∀ s20 : PS, s20 = si σ 228 (Int32.toNatClampNeg l4) (((100 * (t0 + 20)) + l6) + 20) → ∀ x22 : Int32, x22 = jmin l2 (t0 + 20) → ∀ x24 : Int32, x24 = jmin l3 (l6 + 20) → ∀ x26 : Int32, x26 = l4 + 1 → VX12_turnedBy g d P 9 [some (.ref 179), some (.int l1), some (.int x22), some (.int x24), some (.int x26), none, none, none, none] [] s20) ∧ (¬ (l1 &&& 2) ≤ 0 → ∀ x28 : Int32, x28 = -l6 → vp_in l4 10 ∧ ∀ s31 : PS, s31 = si σ 228 (Int32.toNatClampNeg l4) (((100 * (t0 + 20)) + x28) + 20) → ∀ x33 : Int32, x33 = jmin l2 (t0 + 20) → ∀ x35 : Int32, x35 = jmin l3 (x28 + 20) → ∀ x37 : Int32, x37 = l4 + 1 → VX12_turnedBy g d P 9 [some (.ref 179), some (.int l1), some (.int x33), some (.int x35), some (.int x37), none, none, none, none] [] s31)) : VX12_turnedBy g d P 82 [some (.ref 179), some (.int l1), some (.int l2), some (.int l3), some (.int l4), none, some (.int l6), none, none] [.int t0] σ := by
  refine x_istore (dxX12_turnedBy_1 14 rfl) (Nat.le_of_ble_eq_true rfl) rfl rfl ?_
  refine x_iload_n (i := 1) (dxX12_turnedBy_1 15 rfl) rfl rfl ?_
  refine x_iconst (v := 2) (dxX12_turnedBy_1 16 rfl) rfl ?_
  refine x_iand (dxX12_turnedBy_1 17 rfl) ?_
  refine x_if_le (tgt := 96) (dxX12_turnedBy_1 18 rfl) (by decide) (fun hc => ?_) (fun hc => ?_)
  · replace h := h.1 hc
    refine x_iload (dxX12_turnedBy_1 22 rfl) rfl ?_
    refine x_istore (dxX12_turnedBy_1 23 rfl) (Nat.le_of_ble_eq_true rfl) rfl rfl ?_
    refine x_aload_n (i := 0) (dxX12_turnedBy_1 24 rfl) rfl rfl ?_
    refine gf_12_159 (kd_179 hL) (rv_179_79 hL) (dxX12_turnedBy_1 25 rfl) ?_
    refine x_iload (dxX12_turnedBy_1 26 rfl) rfl ?_
    refine x_bipush (v := 100) (dxX12_turnedBy_1 27 rfl) rfl ?_
    refine x_iload (dxX12_turnedBy_1 28 rfl) rfl ?_
    refine x_bipush (v := 20) (dxX12_turnedBy_1 29 rfl) rfl ?_
    refine x_iadd (dxX12_turnedBy_1 30 rfl) ?_
    refine x_imul (dxX12_turnedBy_1 31 rfl) ?_
    refine x_iload (dxX12_turnedBy_2 0 rfl) rfl ?_
    refine x_iadd (dxX12_turnedBy_2 1 rfl) ?_
    refine x_bipush (v := 20) (dxX12_turnedBy_2 2 rfl) rfl ?_
    refine x_iadd (dxX12_turnedBy_2 3 rfl) ?_
    obtain ⟨hi19, h⟩ := h
    refine x_iast (kd_228 hL) hi19 (dxX12_turnedBy_2 4 rfl) ?_
    refine x_sto (fun s20 e21 => ?_)
    replace h := h s20 e21
    have hKs20 : kd s20 = kd σ := by rw [e21]; exact (rfl : kd σ = kd σ)
    have hLs20 : Lay s20 := by rw [e21]; exact hL.si
    refine x_iload_n (i := 2) (dxX12_turnedBy_2 5 rfl) rfl rfl ?_
    refine x_iload (dxX12_turnedBy_2 6 rfl) rfl ?_
    refine x_bipush (v := 20) (dxX12_turnedBy_2 7 rfl) rfl ?_
    refine x_iadd (dxX12_turnedBy_2 8 rfl) ?_
    refine cl_12_372 (Nat.le_of_ble_eq_true rfl) (dxX12_turnedBy_2 9 rfl) ?_
    refine x_topi (fun x22 e23 => ?_)
    replace h := h x22 e23
    refine x_istore_n (i := 2) (dxX12_turnedBy_2 10 rfl) rfl (Nat.le_of_ble_eq_true rfl) rfl rfl ?_
    refine x_iload_n (i := 3) (dxX12_turnedBy_2 11 rfl) rfl rfl ?_
    refine x_iload (dxX12_turnedBy_2 12 rfl) rfl ?_
    refine x_bipush (v := 20) (dxX12_turnedBy_2 13 rfl) rfl ?_
    refine x_iadd (dxX12_turnedBy_2 14 rfl) ?_
    refine cl_12_372 (Nat.le_of_ble_eq_true rfl) (dxX12_turnedBy_2 15 rfl) ?_
    refine x_topi (fun x24 e25 => ?_)
    replace h := h x24 e25
    refine x_istore_n (i := 3) (dxX12_turnedBy_2 16 rfl) rfl (Nat.le_of_ble_eq_true rfl) rfl rfl ?_
    obtain ⟨x26, e27⟩ : ∃ y : Int32, y = l4 + 1 := ⟨_, rfl⟩
    replace h := h x26 e27
    refine x_iinc (v := x26) (dxX12_turnedBy_2 17 rfl) (i := 4) rfl (by rw [e27]; rfl) (Nat.le_of_ble_eq_true rfl) rfl rfl ?_
    refine x_goto (tgt := 9) (dxX12_turnedBy_2 18 rfl) (by decide) ?_
    refine x_mask [true, true, true, true, true, false, false, false, false] (L1 := [some (.ref 179), some (.int l1), some (.int x22), some (.int x24), some (.int x26), none, none, none, none]) rfl ?_
    exact h
  · replace h := h.2 hc
    refine x_iload (dxX12_turnedBy_1 19 rfl) rfl ?_
    refine x_ineg (dxX12_turnedBy_1 20 rfl) ?_
    refine x_goto (tgt := 98) (dxX12_turnedBy_1 21 rfl) (by decide) ?_
    refine x_topi (fun x28 e29 => ?_)
    replace h := h x28 e29
    refine x_istore (dxX12_turnedBy_1 23 rfl) (Nat.le_of_ble_eq_true rfl) rfl rfl ?_
    refine x_aload_n (i := 0) (dxX12_turnedBy_1 24 rfl) rfl rfl ?_
    refine gf_12_159 (kd_179 hL) (rv_179_79 hL) (dxX12_turnedBy_1 25 rfl) ?_
    refine x_iload (dxX12_turnedBy_1 26 rfl) rfl ?_
    refine x_bipush (v := 100) (dxX12_turnedBy_1 27 rfl) rfl ?_
    refine x_iload (dxX12_turnedBy_1 28 rfl) rfl ?_
    refine x_bipush (v := 20) (dxX12_turnedBy_1 29 rfl) rfl ?_
    refine x_iadd (dxX12_turnedBy_1 30 rfl) ?_
    refine x_imul (dxX12_turnedBy_1 31 rfl) ?_
    refine x_iload (dxX12_turnedBy_2 0 rfl) rfl ?_
    refine x_iadd (dxX12_turnedBy_2 1 rfl) ?_
    refine x_bipush (v := 20) (dxX12_turnedBy_2 2 rfl) rfl ?_
    refine x_iadd (dxX12_turnedBy_2 3 rfl) ?_
    obtain ⟨hi30, h⟩ := h
    refine x_iast (kd_228 hL) hi30 (dxX12_turnedBy_2 4 rfl) ?_
    refine x_sto (fun s31 e32 => ?_)
    replace h := h s31 e32
    have hKs31 : kd s31 = kd σ := by rw [e32]; exact (rfl : kd σ = kd σ)
    have hLs31 : Lay s31 := by rw [e32]; exact hL.si
    refine x_iload_n (i := 2) (dxX12_turnedBy_2 5 rfl) rfl rfl ?_
    refine x_iload (dxX12_turnedBy_2 6 rfl) rfl ?_
    refine x_bipush (v := 20) (dxX12_turnedBy_2 7 rfl) rfl ?_
    refine x_iadd (dxX12_turnedBy_2 8 rfl) ?_
    refine cl_12_372 (Nat.le_of_ble_eq_true rfl) (dxX12_turnedBy_2 9 rfl) ?_
    refine x_topi (fun x33 e34 => ?_)
    replace h := h x33 e34
    refine x_istore_n (i := 2) (dxX12_turnedBy_2 10 rfl) rfl (Nat.le_of_ble_eq_true rfl) rfl rfl ?_
    refine x_iload_n (i := 3) (dxX12_turnedBy_2 11 rfl) rfl rfl ?_
    refine x_iload (dxX12_turnedBy_2 12 rfl) rfl ?_
    refine x_bipush (v := 20) (dxX12_turnedBy_2 13 rfl) rfl ?_
    refine x_iadd (dxX12_turnedBy_2 14 rfl) ?_
    refine cl_12_372 (Nat.le_of_ble_eq_true rfl) (dxX12_turnedBy_2 15 rfl) ?_
    refine x_topi (fun x35 e36 => ?_)
    replace h := h x35 e36
    refine x_istore_n (i := 3) (dxX12_turnedBy_2 16 rfl) rfl (Nat.le_of_ble_eq_true rfl) rfl rfl ?_
    obtain ⟨x37, e38⟩ : ∃ y : Int32, y = l4 + 1 := ⟨_, rfl⟩
    replace h := h x37 e38
    refine x_iinc (v := x37) (dxX12_turnedBy_2 17 rfl) (i := 4) rfl (by rw [e38]; rfl) (Nat.le_of_ble_eq_true rfl) rfl rfl ?_
    refine x_goto (tgt := 9) (dxX12_turnedBy_2 18 rfl) (by decide) ?_
    refine x_mask [true, true, true, true, true, false, false, false, false] (L1 := [some (.ref 179), some (.int l1), some (.int x33), some (.int x35), some (.int x37), none, none, none, none]) rfl ?_
    exact h
theorem vcX12_turnedBy_163 {g : GV} {d : Nat} {P : Int64 → PS → Prop} {σ : PS} (hL : Lay σ) (l2 : Int32) (l3 : Int32) (l4 : Int64) (l6 : Int32) (l7 : Int32) (h : (8 ≤ l7 → ∀ x39 : Int32, x39 = l6 + 1 → VX12_turnedBy g d P 153 [some (.ref 179), none, some (.int l2), some (.int l3), some (.long l4), none, some (.int x39), none, none] [] σ) ∧ (¬ 8 ≤ l7 → VX12_turnedBy g d P 173 [some (.ref 179), none, some (.int l2), some (.int l3), some (.long l4), none, some (.int l6), some (.int l7), some (.int 0)] [] σ)) : VX12_turnedBy g d P 163 [some (.ref 179), none, some (.int l2), some (.int l3), some (.long l4), none, some (.int l6), some (.int l7), none] [] σ := by
  refine x_iload (dxX12_turnedBy_2 28 rfl) rfl ?_
  refine x_bipush (v := 8) (dxX12_turnedBy_2 29 rfl) rfl ?_
  refine x_icmp_ge (tgt := 231) (dxX12_turnedBy_2 30 rfl) (by decide) (fun hc => ?_) (fun hc => ?_)
  · replace h := h.1 hc
    obtain ⟨x39, e40⟩ : ∃ y : Int32, y = l6 + 1 := ⟨_, rfl⟩
    replace h := h x39 e40
    refine x_iinc (v := x39) (dxX12_turnedBy_4 1 rfl) (i := 6) rfl (by rw [e40]; rfl) (Nat.le_of_ble_eq_true rfl) rfl rfl ?_
    refine x_goto (tgt := 153) (dxX12_turnedBy_4 2 rfl) (by decide) ?_
    refine x_mask [true, false, true, true, true, false, true, false, false] (L1 := [some (.ref 179), none, some (.int l2), some (.int l3), some (.long l4), none, some (.int x39), none, none]) rfl ?_
    exact h
  · replace h := h.2 hc
    refine x_iconst (v := 0) (dxX12_turnedBy_2 31 rfl) rfl ?_
    refine x_istore (dxX12_turnedBy_3 0 rfl) (Nat.le_of_ble_eq_true rfl) rfl rfl ?_
    exact h
theorem vcX12_turnedBy_173 {g : GV} {d : Nat} {P : Int64 → PS → Prop} {σ : PS} (hL : Lay σ) (l2 : Int32) (l3 : Int32) (l4 : Int64) (l6 : Int32) (l7 : Int32) (l8 : Int32) (h : ((mi σ 179 35) ≤ l8 → ∀ x41 : Int32, x41 = l7 + 1 → VX12_turnedBy g d P 163 [some (.ref 179), none, some (.int l2), some (.int l3), some (.long l4), none, some (.int l6), some (.int x41), none] [] σ) ∧ (¬ (mi σ 179 35) ≤ l8 → vp_in l8 10 ∧ (¬ (mi σ 228 (Int32.toNatClampNeg l8)) = (((100 * (l7 + l2)) + l6) + l3) → ∀ x44 : Int32, x44 = l8 + 1 → VX12_turnedBy g d P 173 [some (.ref 179), none, some (.int l2), some (.int l3), some (.long l4), none, some (.int l6), some (.int l7), some (.int x44)] [] σ) ∧ ((mi σ 228 (Int32.toNatClampNeg l8)) = (((100 * (l7 + l2)) + l6) + l3) → ∀ x46 : Int64, x46 = l4 ||| (jlshl 1 ((8 * l6) + l7)) → ∀ x48 : Int32, x48 = l8 + 1 → VX12_turnedBy g d P 173 [some (.ref 179), none, some (.int l2), some (.int l3), some (.long x46), none, some (.int l6), some (.int l7), some (.int x48)] [] σ))) : VX12_turnedBy g d P 173 [some (.ref 179), none, some (.int l2), some (.int l3), some (.long l4), none, some (.int l6), some (.int l7), some (.int l8)] [] σ := by
  refine x_iload (dxX12_turnedBy_3 1 rfl) rfl ?_
  refine x_aload_n (i := 0) (dxX12_turnedBy_3 2 rfl) rfl rfl ?_
  refine gf_12_177 (kd_179 hL) rfl (dxX12_turnedBy_3 3 rfl) ?_
  refine x_icmp_ge (tgt := 225) (dxX12_turnedBy_3 4 rfl) (by decide) (fun hc => ?_) (fun hc => ?_)
  · replace h := h.1 hc
    obtain ⟨x41, e42⟩ : ∃ y : Int32, y = l7 + 1 := ⟨_, rfl⟩
    replace h := h x41 e42
    refine x_iinc (v := x41) (dxX12_turnedBy_3 31 rfl) (i := 7) rfl (by rw [e42]; rfl) (Nat.le_of_ble_eq_true rfl) rfl rfl ?_
    refine x_goto (tgt := 163) (dxX12_turnedBy_4 0 rfl) (by decide) ?_
    refine x_mask [true, false, true, true, true, false, true, true, false] (L1 := [some (.ref 179), none, some (.int l2), some (.int l3), some (.long l4), none, some (.int l6), some (.int x41), none]) rfl ?_
    exact h
  · replace h := h.2 hc
    refine x_aload_n (i := 0) (dxX12_turnedBy_3 5 rfl) rfl rfl ?_
    refine gf_12_159 (kd_179 hL) (rv_179_79 hL) (dxX12_turnedBy_3 6 rfl) ?_
    refine x_iload (dxX12_turnedBy_3 7 rfl) rfl ?_
    obtain ⟨hi43, h⟩ := h
    refine x_iald (kd_228 hL) hi43 (dxX12_turnedBy_3 8 rfl) ?_
    refine x_bipush (v := 100) (dxX12_turnedBy_3 9 rfl) rfl ?_
    refine x_iload (dxX12_turnedBy_3 10 rfl) rfl ?_
    refine x_iload_n (i := 2) (dxX12_turnedBy_3 11 rfl) rfl rfl ?_
    refine x_iadd (dxX12_turnedBy_3 12 rfl) ?_
    refine x_imul (dxX12_turnedBy_3 13 rfl) ?_
    refine x_iload (dxX12_turnedBy_3 14 rfl) rfl ?_
    refine x_iadd (dxX12_turnedBy_3 15 rfl) ?_
    refine x_iload_n (i := 3) (dxX12_turnedBy_3 16 rfl) rfl rfl ?_
    refine x_iadd (dxX12_turnedBy_3 17 rfl) ?_
    refine x_icmp_ne (tgt := 219) (dxX12_turnedBy_3 18 rfl) (by decide) (fun hc => ?_) (fun hc => ?_)
    · replace h := h.1 hc
      obtain ⟨x44, e45⟩ : ∃ y : Int32, y = l8 + 1 := ⟨_, rfl⟩
      replace h := h x44 e45
      refine x_iinc (v := x44) (dxX12_turnedBy_3 29 rfl) (i := 8) rfl (by rw [e45]; rfl) (Nat.le_of_ble_eq_true rfl) rfl rfl ?_
      refine x_goto (tgt := 173) (dxX12_turnedBy_3 30 rfl) (by decide) ?_
      exact h
    · replace h := h.2 hc
      refine x_lload (dxX12_turnedBy_3 19 rfl) rfl ?_
      refine x_lconst (v := 1) (dxX12_turnedBy_3 20 rfl) rfl ?_
      refine x_bipush (v := 8) (dxX12_turnedBy_3 21 rfl) rfl ?_
      refine x_iload (dxX12_turnedBy_3 22 rfl) rfl ?_
      refine x_imul (dxX12_turnedBy_3 23 rfl) ?_
      refine x_iload (dxX12_turnedBy_3 24 rfl) rfl ?_
      refine x_iadd (dxX12_turnedBy_3 25 rfl) ?_
      refine x_lshl (dxX12_turnedBy_3 26 rfl) ?_
      refine x_lor (dxX12_turnedBy_3 27 rfl) ?_
      refine x_topl (fun x46 e47 => ?_)
      replace h := h x46 e47
      refine x_lstore (dxX12_turnedBy_3 28 rfl) (Nat.le_of_ble_eq_true rfl) rfl rfl ?_
      obtain ⟨x48, e49⟩ : ∃ y : Int32, y = l8 + 1 := ⟨_, rfl⟩
      replace h := h x48 e49
      refine x_iinc (v := x48) (dxX12_turnedBy_3 29 rfl) (i := 8) rfl (by rw [e49]; rfl) (Nat.le_of_ble_eq_true rfl) rfl rfl ?_
      refine x_goto (tgt := 173) (dxX12_turnedBy_3 30 rfl) (by decide) ?_
      exact h
theorem vcX12_countsNet {g : GV} {d : Nat} {P : PS → Prop} {σ : PS} (hL : Lay σ)  (h : CX12_turnedBy g d [.ref 179, .int 0] σ (fun (v2 : Int64) (s1 : PS) => Fr σ s1 ∧ VX12_countsNet g (d + 1) P 8 [some (.ref 179), some (.long v2), none, some (.int 1)] [] s1)) : CX12_countsNet g (d + 1) [.ref 179] σ P := by
  refine x_entry (L := [some (.ref 179), none, none, none]) pn_12 (Nat.le_of_ble_eq_true rfl) ⟨3, rfl⟩ ?_
  show VX12_countsNet g (d + 1) P 0 [some (.ref 179), none, none, none] [] σ
  refine x_aload_n (i := 0) (dxX12_countsNet_0 0 rfl) rfl rfl ?_
  refine x_iconst (v := 0) (dxX12_countsNet_0 1 rfl) rfl ?_
  refine cl_12_474 (kd_179 hL) (Nat.le_of_ble_eq_true rfl) (dxX12_countsNet_0 2 rfl) h (fun v2 s1 h => ?_) (Nat.le_refl _) (Nat.le_refl _)
  obtain ⟨hFs1, h⟩ := h
  have hKs1 : kd s1 = kd σ := hFs1.1.trans (rfl : kd σ = kd σ)
  have hLs1 : Lay s1 := hL.fr hFs1
  refine x_lstore_n (i := 1) (dxX12_countsNet_0 3 rfl) rfl (Nat.le_of_ble_eq_true rfl) rfl rfl ?_
  refine x_iconst (v := 1) (dxX12_countsNet_0 4 rfl) rfl ?_
  refine x_istore_n (i := 3) (dxX12_countsNet_0 5 rfl) rfl (Nat.le_of_ble_eq_true rfl) rfl rfl ?_
  exact h
theorem vcX12_countsNet_8 {g : GV} {d : Nat} {P : PS → Prop} {σ : PS} (hL : Lay σ) (l1 : Int64) (l3 : Int32) (h : (8 ≤ l3 → ∀ x3 : Int32, x3 = Int64.toInt32 ((jlushr ((l1 ^^^ (jlushr l1 31)) * 2654435761) 16) &&& 32767) → VX12_countsNet g (d + 1) P 49 [some (.ref 179), some (.long l1), none, some (.int x3)] [] σ) ∧ (¬ 8 ≤ l3 → CX12_turnedBy g d [.ref 179, .int l3] σ (fun (v6 : Int64) (s5 : PS) => Fr σ s5 ∧ ∀ x7 : Int64, x7 = jminL l1 v6 → ∀ x9 : Int32, x9 = l3 + 1 → VX12_countsNet g (d + 1) P 8 [some (.ref 179), some (.long x7), none, some (.int x9)] [] s5))) : VX12_countsNet g (d + 1) P 8 [some (.ref 179), some (.long l1), none, some (.int l3)] [] σ := by
  refine x_iload_n (i := 3) (dxX12_countsNet_0 6 rfl) rfl rfl ?_
  refine x_bipush (v := 8) (dxX12_countsNet_0 7 rfl) rfl ?_
  refine x_icmp_ge (tgt := 30) (dxX12_countsNet_0 8 rfl) (by decide) (fun hc => ?_) (fun hc => ?_)
  · replace h := h.1 hc
    refine x_lload_n (i := 1) (dxX12_countsNet_0 17 rfl) rfl rfl ?_
    refine x_lload_n (i := 1) (dxX12_countsNet_0 18 rfl) rfl rfl ?_
    refine x_bipush (v := 31) (dxX12_countsNet_0 19 rfl) rfl ?_
    refine x_lushr (dxX12_countsNet_0 20 rfl) ?_
    refine x_lxor (dxX12_countsNet_0 21 rfl) ?_
    refine x_ldc2 (dxX12_countsNet_0 22 rfl) gw_1808 ?_
    refine x_lmul (dxX12_countsNet_0 23 rfl) ?_
    refine x_bipush (v := 16) (dxX12_countsNet_0 24 rfl) rfl ?_
    refine x_lushr (dxX12_countsNet_0 25 rfl) ?_
    refine x_ldc2 (dxX12_countsNet_0 26 rfl) gw_1809 ?_
    refine x_land (dxX12_countsNet_0 27 rfl) ?_
    refine x_l2i (dxX12_countsNet_0 28 rfl) ?_
    refine x_topi (fun x3 e4 => ?_)
    replace h := h x3 e4
    refine x_istore_n (i := 3) (dxX12_countsNet_0 29 rfl) rfl (Nat.le_of_ble_eq_true rfl) rfl rfl ?_
    exact h
  · replace h := h.2 hc
    refine x_lload_n (i := 1) (dxX12_countsNet_0 9 rfl) rfl rfl ?_
    refine x_aload_n (i := 0) (dxX12_countsNet_0 10 rfl) rfl rfl ?_
    refine x_iload_n (i := 3) (dxX12_countsNet_0 11 rfl) rfl rfl ?_
    refine cl_12_474 (kd_179 hL) (Nat.le_of_ble_eq_true rfl) (dxX12_countsNet_0 12 rfl) h (fun v6 s5 h => ?_) (Nat.le_refl _) (Nat.le_refl _)
    obtain ⟨hFs5, h⟩ := h
    have hKs5 : kd s5 = kd σ := hFs5.1.trans (rfl : kd σ = kd σ)
    have hLs5 : Lay s5 := hL.fr hFs5
    refine cl_12_478 (Nat.le_of_ble_eq_true rfl) (dxX12_countsNet_0 13 rfl) ?_
    refine x_topl (fun x7 e8 => ?_)
    replace h := h x7 e8
    refine x_lstore_n (i := 1) (dxX12_countsNet_0 14 rfl) rfl (Nat.le_of_ble_eq_true rfl) rfl rfl ?_
    obtain ⟨x9, e10⟩ : ∃ y : Int32, y = l3 + 1 := ⟨_, rfl⟩
    replace h := h x9 e10
    refine x_iinc (v := x9) (dxX12_countsNet_0 15 rfl) (i := 3) rfl (by rw [e10]; rfl) (Nat.le_of_ble_eq_true rfl) rfl rfl ?_
    refine x_goto (tgt := 8) (dxX12_countsNet_0 16 rfl) (by decide) ?_
    exact h
theorem vcX12_countsNet_49 {g : GV} {d : Nat} {P : PS → Prop} {σ : PS} (hL : Lay σ) (l1 : Int64) (l3 : Int32) (h : vp_in l3 32768 ∧ ((mi σ 226 (Int32.toNatClampNeg l3)) < 0 → vp_in l3 32768 ∧ ((mi σ 226 (Int32.toNatClampNeg l3)) < 0 → vp_in l3 32768 ∧ ∀ s14 : PS, s14 = si σ 226 (Int32.toNatClampNeg l3) (mi σ 179 75) → vp_in (mi s14 179 75) 12000 ∧ ∀ s17 : PS, s17 = sj s14 225 (Int32.toNatClampNeg (mi s14 179 75)) l1 → ∀ s19 : PS, s19 = si s17 179 75 ((mi s17 179 75) + 1) → P s19) ∧ (¬ (mi σ 226 (Int32.toNatClampNeg l3)) < 0 → P σ)) ∧ (¬ (mi σ 226 (Int32.toNatClampNeg l3)) < 0 → vp_in l3 32768 ∧ vp_in (mi σ 226 (Int32.toNatClampNeg l3)) 12000 ∧ ((lg_cmp (ml σ 225 (Int32.toNatClampNeg (mi σ 226 (Int32.toNatClampNeg l3)))) l1) = 0 → vp_in l3 32768 ∧ ((mi σ 226 (Int32.toNatClampNeg l3)) < 0 → vp_in l3 32768 ∧ ∀ s25 : PS, s25 = si σ 226 (Int32.toNatClampNeg l3) (mi σ 179 75) → vp_in (mi s25 179 75) 12000 ∧ ∀ s28 : PS, s28 = sj s25 225 (Int32.toNatClampNeg (mi s25 179 75)) l1 → ∀ s30 : PS, s30 = si s28 179 75 ((mi s28 179 75) + 1) → P s30) ∧ (¬ (mi σ 226 (Int32.toNatClampNeg l3)) < 0 → P σ)) ∧ (¬ (lg_cmp (ml σ 225 (Int32.toNatClampNeg (mi σ 226 (Int32.toNatClampNeg l3)))) l1) = 0 → ∀ x32 : Int32, x32 = jrem (l3 + 1) 32768 → VX12_countsNet g (d + 1) P 49 [some (.ref 179), some (.long l1), none, some (.int x32)] [] σ))) : VX12_countsNet g (d + 1) P 49 [some (.ref 179), some (.long l1), none, some (.int l3)] [] σ := by
  refine x_aload_n (i := 0) (dxX12_countsNet_0 30 rfl) rfl rfl ?_
  refine gf_12_153 (kd_179 hL) (rv_179_77 hL) (dxX12_countsNet_0 31 rfl) ?_
  refine x_iload_n (i := 3) (dxX12_countsNet_1 0 rfl) rfl rfl ?_
  obtain ⟨hi11, h⟩ := h
  refine x_iald (kd_226 hL) hi11 (dxX12_countsNet_1 1 rfl) ?_
  refine x_if_lt (tgt := 84) (dxX12_countsNet_1 2 rfl) (by decide) (fun hc => ?_) (fun hc => ?_)
  · replace h := h.1 hc
    refine x_aload_n (i := 0) (dxX12_countsNet_1 20 rfl) rfl rfl ?_
    refine gf_12_153 (kd_179 hL) (rv_179_77 hL) (dxX12_countsNet_1 21 rfl) ?_
    refine x_iload_n (i := 3) (dxX12_countsNet_1 22 rfl) rfl rfl ?_
    obtain ⟨hi12, h⟩ := h
    refine x_iald (kd_226 hL) hi12 (dxX12_countsNet_1 23 rfl) ?_
    refine x_if_lt (tgt := 94) (dxX12_countsNet_1 24 rfl) (by decide) (fun hc => ?_) (fun hc => ?_)
    · replace h := h.1 hc
      refine x_aload_n (i := 0) (dxX12_countsNet_1 26 rfl) rfl rfl ?_
      refine gf_12_153 (kd_179 hL) (rv_179_77 hL) (dxX12_countsNet_1 27 rfl) ?_
      refine x_iload_n (i := 3) (dxX12_countsNet_1 28 rfl) rfl rfl ?_
      refine x_aload_n (i := 0) (dxX12_countsNet_1 29 rfl) rfl rfl ?_
      refine gf_12_485 (kd_179 hL) rfl (dxX12_countsNet_1 30 rfl) ?_
      obtain ⟨hi13, h⟩ := h
      refine x_iast (kd_226 hL) hi13 (dxX12_countsNet_1 31 rfl) ?_
      refine x_sto (fun s14 e15 => ?_)
      replace h := h s14 e15
      have hKs14 : kd s14 = kd σ := by rw [e15]; exact (rfl : kd σ = kd σ)
      have hLs14 : Lay s14 := by rw [e15]; exact hL.si
      refine x_aload_n (i := 0) (dxX12_countsNet_2 0 rfl) rfl rfl ?_
      refine gf_12_149 (kd_179 hLs14) (rv_179_76 hLs14) (dxX12_countsNet_2 1 rfl) ?_
      refine x_aload_n (i := 0) (dxX12_countsNet_2 2 rfl) rfl rfl ?_
      refine gf_12_485 (kd_179 hLs14) rfl (dxX12_countsNet_2 3 rfl) ?_
      refine x_lload_n (i := 1) (dxX12_countsNet_2 4 rfl) rfl rfl ?_
      obtain ⟨hi16, h⟩ := h
      refine x_last (kd_225 hLs14) hi16 (dxX12_countsNet_2 5 rfl) ?_
      refine x_sto (fun s17 e18 => ?_)
      replace h := h s17 e18
      have hKs17 : kd s17 = kd σ := by rw [e18]; exact hKs14
      have hLs17 : Lay s17 := by rw [e18]; exact hLs14.sj
      refine x_aload_n (i := 0) (dxX12_countsNet_2 6 rfl) rfl rfl ?_
      refine x_dup (dxX12_countsNet_2 7 rfl) rfl ?_
      refine gf_12_485 (kd_179 hLs17) rfl (dxX12_countsNet_2 8 rfl) ?_
      refine x_iconst (v := 1) (dxX12_countsNet_2 9 rfl) rfl ?_
      refine x_iadd (dxX12_countsNet_2 10 rfl) ?_
      refine pf_12_485 (kd_179 hLs17) (dxX12_countsNet_2 11 rfl) ?_
      refine x_sto (fun s19 e20 => ?_)
      replace h := h s19 e20
      have hKs19 : kd s19 = kd σ := by rw [e20]; exact hKs17
      have hLs19 : Lay s19 := by rw [e20]; exact hLs17.si
      exact x_vret rfl (dxX12_countsNet_2 12 rfl) ⟨rfl, h⟩
    · replace h := h.2 hc
      exact x_vret rfl (dxX12_countsNet_1 25 rfl) ⟨rfl, h⟩
  · replace h := h.2 hc
    refine x_aload_n (i := 0) (dxX12_countsNet_1 3 rfl) rfl rfl ?_
    refine gf_12_149 (kd_179 hL) (rv_179_76 hL) (dxX12_countsNet_1 4 rfl) ?_
    refine x_aload_n (i := 0) (dxX12_countsNet_1 5 rfl) rfl rfl ?_
    refine gf_12_153 (kd_179 hL) (rv_179_77 hL) (dxX12_countsNet_1 6 rfl) ?_
    refine x_iload_n (i := 3) (dxX12_countsNet_1 7 rfl) rfl rfl ?_
    obtain ⟨hi21, h⟩ := h
    refine x_iald (kd_226 hL) hi21 (dxX12_countsNet_1 8 rfl) ?_
    obtain ⟨hi22, h⟩ := h
    refine x_lald (kd_225 hL) hi22 (dxX12_countsNet_1 9 rfl) ?_
    refine x_lload_n (i := 1) (dxX12_countsNet_1 10 rfl) rfl rfl ?_
    refine x_lcmp (dxX12_countsNet_1 11 rfl) ?_
    refine x_if_eq (tgt := 84) (dxX12_countsNet_1 12 rfl) (by decide) (fun hc => ?_) (fun hc => ?_)
    · replace h := h.1 hc
      refine x_aload_n (i := 0) (dxX12_countsNet_1 20 rfl) rfl rfl ?_
      refine gf_12_153 (kd_179 hL) (rv_179_77 hL) (dxX12_countsNet_1 21 rfl) ?_
      refine x_iload_n (i := 3) (dxX12_countsNet_1 22 rfl) rfl rfl ?_
      obtain ⟨hi23, h⟩ := h
      refine x_iald (kd_226 hL) hi23 (dxX12_countsNet_1 23 rfl) ?_
      refine x_if_lt (tgt := 94) (dxX12_countsNet_1 24 rfl) (by decide) (fun hc => ?_) (fun hc => ?_)
      · replace h := h.1 hc
        refine x_aload_n (i := 0) (dxX12_countsNet_1 26 rfl) rfl rfl ?_
        refine gf_12_153 (kd_179 hL) (rv_179_77 hL) (dxX12_countsNet_1 27 rfl) ?_
        refine x_iload_n (i := 3) (dxX12_countsNet_1 28 rfl) rfl rfl ?_
        refine x_aload_n (i := 0) (dxX12_countsNet_1 29 rfl) rfl rfl ?_
        refine gf_12_485 (kd_179 hL) rfl (dxX12_countsNet_1 30 rfl) ?_
        obtain ⟨hi24, h⟩ := h
        refine x_iast (kd_226 hL) hi24 (dxX12_countsNet_1 31 rfl) ?_
        refine x_sto (fun s25 e26 => ?_)
        replace h := h s25 e26
        have hKs25 : kd s25 = kd σ := by rw [e26]; exact (rfl : kd σ = kd σ)
        have hLs25 : Lay s25 := by rw [e26]; exact hL.si
        refine x_aload_n (i := 0) (dxX12_countsNet_2 0 rfl) rfl rfl ?_
        refine gf_12_149 (kd_179 hLs25) (rv_179_76 hLs25) (dxX12_countsNet_2 1 rfl) ?_
        refine x_aload_n (i := 0) (dxX12_countsNet_2 2 rfl) rfl rfl ?_
        refine gf_12_485 (kd_179 hLs25) rfl (dxX12_countsNet_2 3 rfl) ?_
        refine x_lload_n (i := 1) (dxX12_countsNet_2 4 rfl) rfl rfl ?_
        obtain ⟨hi27, h⟩ := h
        refine x_last (kd_225 hLs25) hi27 (dxX12_countsNet_2 5 rfl) ?_
        refine x_sto (fun s28 e29 => ?_)
        replace h := h s28 e29
        have hKs28 : kd s28 = kd σ := by rw [e29]; exact hKs25
        have hLs28 : Lay s28 := by rw [e29]; exact hLs25.sj
        refine x_aload_n (i := 0) (dxX12_countsNet_2 6 rfl) rfl rfl ?_
        refine x_dup (dxX12_countsNet_2 7 rfl) rfl ?_
        refine gf_12_485 (kd_179 hLs28) rfl (dxX12_countsNet_2 8 rfl) ?_
        refine x_iconst (v := 1) (dxX12_countsNet_2 9 rfl) rfl ?_
        refine x_iadd (dxX12_countsNet_2 10 rfl) ?_
        refine pf_12_485 (kd_179 hLs28) (dxX12_countsNet_2 11 rfl) ?_
        refine x_sto (fun s30 e31 => ?_)
        replace h := h s30 e31
        have hKs30 : kd s30 = kd σ := by rw [e31]; exact hKs28
        have hLs30 : Lay s30 := by rw [e31]; exact hLs28.si
        exact x_vret rfl (dxX12_countsNet_2 12 rfl) ⟨rfl, h⟩
      · replace h := h.2 hc
        exact x_vret rfl (dxX12_countsNet_1 25 rfl) ⟨rfl, h⟩
    · replace h := h.2 hc
      refine x_iload_n (i := 3) (dxX12_countsNet_1 13 rfl) rfl rfl ?_
      refine x_iconst (v := 1) (dxX12_countsNet_1 14 rfl) rfl ?_
      refine x_iadd (dxX12_countsNet_1 15 rfl) ?_
      refine x_ldc (dxX12_countsNet_1 16 rfl) gw_1208 ?_
      refine x_irem (dxX12_countsNet_1 17 rfl) (by decide) ?_
      refine x_topi (fun x32 e33 => ?_)
      replace h := h x32 e33
      refine x_istore_n (i := 3) (dxX12_countsNet_1 18 rfl) rfl (Nat.le_of_ble_eq_true rfl) rfl rfl ?_
      refine x_goto (tgt := 49) (dxX12_countsNet_1 19 rfl) (by decide) ?_
      exact h
theorem vcX12_groupOf {g : GV} {d : Nat} {P : Int32 → PS → Prop} {σ : PS} (hL : Lay σ) (p0 : Int32) (h : VX12_groupOf g d P 2 [some (.ref 179), none, some (.int p0)] [] σ) : CX12_groupOf g d [.ref 179, .int p0] σ P := by
  refine x_entry (L := [some (.ref 179), some (.int p0), none]) pn_12 (Nat.le_of_ble_eq_true rfl) ⟨1, rfl⟩ ?_
  show VX12_groupOf g d P 0 [some (.ref 179), some (.int p0), none] [] σ
  refine x_iload_n (i := 1) (dxX12_groupOf_0 0 rfl) rfl rfl ?_
  refine x_istore_n (i := 2) (dxX12_groupOf_0 1 rfl) rfl (Nat.le_of_ble_eq_true rfl) rfl rfl ?_
  refine x_mask [true, false, true] (L1 := [some (.ref 179), none, some (.int p0)]) rfl ?_
  exact h
theorem vcX12_groupOf_2 {g : GV} {d : Nat} {P : Int32 → PS → Prop} {σ : PS} (hL : Lay σ) (l2 : Int32) (h : vp_in l2 10 ∧ ((mi σ 224 (Int32.toNatClampNeg l2)) = l2 → P l2 σ) ∧ (¬ (mi σ 224 (Int32.toNatClampNeg l2)) = l2 → vp_in l2 10 ∧ ∀ x3 : Int32, x3 = mi σ 224 (Int32.toNatClampNeg l2) → VX12_groupOf g d P 2 [some (.ref 179), none, some (.int x3)] [] σ)) : VX12_groupOf g d P 2 [some (.ref 179), none, some (.int l2)] [] σ := by
  refine x_aload_n (i := 0) (dxX12_groupOf_0 2 rfl) rfl rfl ?_
  refine gf_12_146 (kd_179 hL) (rv_179_72 hL) (dxX12_groupOf_0 3 rfl) ?_
  refine x_iload_n (i := 2) (dxX12_groupOf_0 4 rfl) rfl rfl ?_
  obtain ⟨hi1, h⟩ := h
  refine x_iald (kd_224 hL) hi1 (dxX12_groupOf_0 5 rfl) ?_
  refine x_iload_n (i := 2) (dxX12_groupOf_0 6 rfl) rfl rfl ?_
  refine x_icmp_eq (tgt := 22) (dxX12_groupOf_0 7 rfl) (by decide) (fun hc => ?_) (fun hc => ?_)
  · replace h := h.1 hc
    refine x_iload_n (i := 2) (dxX12_groupOf_0 14 rfl) rfl rfl ?_
    exact x_iret (ty := .int) rfl rfl (dxX12_groupOf_0 15 rfl) ⟨_, rfl, h⟩
  · replace h := h.2 hc
    refine x_aload_n (i := 0) (dxX12_groupOf_0 8 rfl) rfl rfl ?_
    refine gf_12_146 (kd_179 hL) (rv_179_72 hL) (dxX12_groupOf_0 9 rfl) ?_
    refine x_iload_n (i := 2) (dxX12_groupOf_0 10 rfl) rfl rfl ?_
    obtain ⟨hi2, h⟩ := h
    refine x_iald (kd_224 hL) hi2 (dxX12_groupOf_0 11 rfl) ?_
    refine x_topi (fun x3 e4 => ?_)
    replace h := h x3 e4
    refine x_istore_n (i := 2) (dxX12_groupOf_0 12 rfl) rfl (Nat.le_of_ble_eq_true rfl) rfl rfl ?_
    refine x_goto (tgt := 2) (dxX12_groupOf_0 13 rfl) (by decide) ?_
    exact h
theorem vcX12_picks {g : GV} {d : Nat} {P : PS → Prop} {σ : PS} (hL : Lay σ) (p0 : Int32) (p1 : Int32) (h : (¬ p1 = ((mi σ 179 35) - 1) → VX12_picks g (d + 1) P 46 [some (.ref 179), none, some (.int p1), some (.int p0), none, none] [] σ) ∧ (p1 = ((mi σ 179 35) - 1) → ∀ s1 : PS, s1 = si σ 179 73 ((mi σ 179 73) + 1) → CX12_isFlat g d [.ref 179, .int p1] s1 (fun (v4 : Int32) (s3 : PS) => Fr s1 s3 ∧ (¬ v4 = 0 → ∀ s5 : PS, s5 = si s3 179 74 ((mi s3 179 74) + 1) → CX12_countsNet g d [.ref 179] s5 (fun (s7 : PS) => Fr s5 s7 ∧ P s7)) ∧ (v4 = 0 → P s3)))) : CX12_picks g (d + 1) [.ref 179, .int p0, .int p1] σ P := by
  refine x_entry (L := [some (.ref 179), some (.int p0), some (.int p1), none, none, none]) pn_12 (Nat.le_of_ble_eq_true rfl) ⟨3, rfl⟩ ?_
  show VX12_picks g (d + 1) P 0 [some (.ref 179), some (.int p0), some (.int p1), none, none, none] [] σ
  refine x_iload_n (i := 2) (dxX12_picks_0 0 rfl) rfl rfl ?_
  refine x_aload_n (i := 0) (dxX12_picks_0 1 rfl) rfl rfl ?_
  refine gf_12_177 (kd_179 hL) rfl (dxX12_picks_0 2 rfl) ?_
  refine x_iconst (v := 1) (dxX12_picks_0 3 rfl) rfl ?_
  refine x_isub (dxX12_picks_0 4 rfl) ?_
  refine x_icmp_ne (tgt := 44) (dxX12_picks_0 5 rfl) (by decide) (fun hc => ?_) (fun hc => ?_)
  · replace h := h.1 hc
    refine x_iload_n (i := 1) (dxX12_picks_0 26 rfl) rfl rfl ?_
    refine x_istore_n (i := 3) (dxX12_picks_0 27 rfl) rfl (Nat.le_of_ble_eq_true rfl) rfl rfl ?_
    refine x_mask [true, false, true, true, false, false] (L1 := [some (.ref 179), none, some (.int p1), some (.int p0), none, none]) rfl ?_
    exact h
  · replace h := h.2 hc
    refine x_aload_n (i := 0) (dxX12_picks_0 6 rfl) rfl rfl ?_
    refine x_dup (dxX12_picks_0 7 rfl) rfl ?_
    refine gf_12_488 (kd_179 hL) rfl (dxX12_picks_0 8 rfl) ?_
    refine x_iconst (v := 1) (dxX12_picks_0 9 rfl) rfl ?_
    refine x_iadd (dxX12_picks_0 10 rfl) ?_
    refine pf_12_488 (kd_179 hL) (dxX12_picks_0 11 rfl) ?_
    refine x_sto (fun s1 e2 => ?_)
    replace h := h s1 e2
    have hKs1 : kd s1 = kd σ := by rw [e2]; exact (rfl : kd σ = kd σ)
    have hLs1 : Lay s1 := by rw [e2]; exact hL.si
    refine x_aload_n (i := 0) (dxX12_picks_0 12 rfl) rfl rfl ?_
    refine x_iload_n (i := 2) (dxX12_picks_0 13 rfl) rfl rfl ?_
    refine cl_12_491 (kd_179 hLs1) (Nat.le_of_ble_eq_true rfl) (dxX12_picks_0 14 rfl) h (fun v4 s3 h => ?_) (Nat.le_refl _) (Nat.le_refl _)
    obtain ⟨hFs3, h⟩ := h
    have hKs3 : kd s3 = kd σ := hFs3.1.trans hKs1
    have hLs3 : Lay s3 := hLs1.fr hFs3
    refine x_if_ne (tgt := 29) (dxX12_picks_0 15 rfl) (by decide) (fun hc => ?_) (fun hc => ?_)
    · replace h := h.1 hc
      refine x_aload_n (i := 0) (dxX12_picks_0 17 rfl) rfl rfl ?_
      refine x_dup (dxX12_picks_0 18 rfl) rfl ?_
      refine gf_12_494 (kd_179 hLs3) rfl (dxX12_picks_0 19 rfl) ?_
      refine x_iconst (v := 1) (dxX12_picks_0 20 rfl) rfl ?_
      refine x_iadd (dxX12_picks_0 21 rfl) ?_
      refine pf_12_494 (kd_179 hLs3) (dxX12_picks_0 22 rfl) ?_
      refine x_sto (fun s5 e6 => ?_)
      replace h := h s5 e6
      have hKs5 : kd s5 = kd σ := by rw [e6]; exact hKs3
      have hLs5 : Lay s5 := by rw [e6]; exact hLs3.si
      refine x_aload_n (i := 0) (dxX12_picks_0 23 rfl) rfl rfl ?_
      refine cl_12_497 (kd_179 hLs5) (Nat.le_of_ble_eq_true rfl) (dxX12_picks_0 24 rfl) h (fun s7 h => ?_) (Nat.le_refl _) (Nat.le_refl _)
      obtain ⟨hFs7, h⟩ := h
      have hKs7 : kd s7 = kd σ := hFs7.1.trans hKs5
      have hLs7 : Lay s7 := hLs5.fr hFs7
      exact x_vret rfl (dxX12_picks_0 25 rfl) ⟨rfl, h⟩
    · replace h := h.2 hc
      exact x_vret rfl (dxX12_picks_0 16 rfl) ⟨rfl, h⟩
theorem vcX12_picks_46 {g : GV} {d : Nat} {P : PS → Prop} {σ : PS} (hL : Lay σ) (l2 : Int32) (l3 : Int32) (h : ((mi σ 179 67) ≤ l3 → P σ) ∧ (¬ (mi σ 179 67) ≤ l3 → vp_in l3 40 ∧ CX12_groupOf g d [.ref 179, .int ((mi σ 220 (Int32.toNatClampNeg l3)) / 4)] σ (fun (v11 : Int32) (s10 : PS) => Fr σ s10 ∧ vp_in l3 40 ∧ vp_in (mi s10 220 (Int32.toNatClampNeg l3)) 80 ∧ CX12_groupOf g d [.ref 179, .int ((mi s10 215 (Int32.toNatClampNeg (mi s10 220 (Int32.toNatClampNeg l3)))) / 4)] s10 (fun (v15 : Int32) (s14 : PS) => Fr s10 s14 ∧ (¬ v11 = v15 → vp_in v11 10 ∧ ∀ s17 : PS, s17 = si s14 224 (Int32.toNatClampNeg v11) v15 → vp_in l2 10 ∧ ∀ s20 : PS, s20 = si s17 227 (Int32.toNatClampNeg l2) l3 → CX12_picks g d [.ref 179, .int (l3 + 1), .int (l2 + 1)] s20 (fun (s22 : PS) => Fr s20 s22 ∧ vp_in v11 10 ∧ ∀ s25 : PS, s25 = si s22 224 (Int32.toNatClampNeg v11) v11 → ∀ x27 : Int32, x27 = l3 + 1 → VX12_picks g (d + 1) P 46 [some (.ref 179), none, some (.int l2), some (.int x27), none, none] [] s25)) ∧ (v11 = v15 → ∀ x29 : Int32, x29 = l3 + 1 → VX12_picks g (d + 1) P 46 [some (.ref 179), none, some (.int l2), some (.int x29), none, none] [] s14))))) : VX12_picks g (d + 1) P 46 [some (.ref 179), none, some (.int l2), some (.int l3), none, none] [] σ := by
  refine x_iload_n (i := 3) (dxX12_picks_0 28 rfl) rfl rfl ?_
  refine x_aload_n (i := 0) (dxX12_picks_0 29 rfl) rfl rfl ?_
  refine gf_12_500 (kd_179 hL) rfl (dxX12_picks_0 30 rfl) ?_
  refine x_icmp_ge (tgt := 138) (dxX12_picks_0 31 rfl) (by decide) (fun hc => ?_) (fun hc => ?_)
  · replace h := h.1 hc
    exact x_vret rfl (dxX12_picks_2 18 rfl) ⟨rfl, h⟩
  · replace h := h.2 hc
    refine x_aload_n (i := 0) (dxX12_picks_1 0 rfl) rfl rfl ?_
    refine x_aload_n (i := 0) (dxX12_picks_1 1 rfl) rfl rfl ?_
    refine gf_12_134 (kd_179 hL) (rv_179_68 hL) (dxX12_picks_1 2 rfl) ?_
    refine x_iload_n (i := 3) (dxX12_picks_1 3 rfl) rfl rfl ?_
    obtain ⟨hi9, h⟩ := h
    refine x_iald (kd_220 hL) hi9 (dxX12_picks_1 4 rfl) ?_
    refine x_iconst (v := 4) (dxX12_picks_1 5 rfl) rfl ?_
    refine x_idiv (dxX12_picks_1 6 rfl) (by decide) ?_
    refine cl_12_503 (kd_179 hL) (Nat.le_of_ble_eq_true rfl) (dxX12_picks_1 7 rfl) h (fun v11 s10 h => ?_) (Nat.le_refl _) (Nat.le_refl _)
    obtain ⟨hFs10, h⟩ := h
    have hKs10 : kd s10 = kd σ := hFs10.1.trans (rfl : kd σ = kd σ)
    have hLs10 : Lay s10 := hL.fr hFs10
    refine x_istore (dxX12_picks_1 8 rfl) (Nat.le_of_ble_eq_true rfl) rfl rfl ?_
    refine x_aload_n (i := 0) (dxX12_picks_1 9 rfl) rfl rfl ?_
    refine x_aload_n (i := 0) (dxX12_picks_1 10 rfl) rfl rfl ?_
    refine gf_12_119 (kd_179 hLs10) (rv_179_55 hLs10) (dxX12_picks_1 11 rfl) ?_
    refine x_aload_n (i := 0) (dxX12_picks_1 12 rfl) rfl rfl ?_
    refine gf_12_134 (kd_179 hLs10) (rv_179_68 hLs10) (dxX12_picks_1 13 rfl) ?_
    refine x_iload_n (i := 3) (dxX12_picks_1 14 rfl) rfl rfl ?_
    obtain ⟨hi12, h⟩ := h
    refine x_iald (kd_220 hLs10) hi12 (dxX12_picks_1 15 rfl) ?_
    obtain ⟨hi13, h⟩ := h
    refine x_iald (kd_215 hLs10) hi13 (dxX12_picks_1 16 rfl) ?_
    refine x_iconst (v := 4) (dxX12_picks_1 17 rfl) rfl ?_
    refine x_idiv (dxX12_picks_1 18 rfl) (by decide) ?_
    refine cl_12_503 (kd_179 hLs10) (Nat.le_of_ble_eq_true rfl) (dxX12_picks_1 19 rfl) h (fun v15 s14 h => ?_) (Nat.le_refl _) (Nat.le_refl _)
    obtain ⟨hFs14, h⟩ := h
    have hKs14 : kd s14 = kd σ := hFs14.1.trans hKs10
    have hLs14 : Lay s14 := hLs10.fr hFs14
    refine x_istore (dxX12_picks_1 20 rfl) (Nat.le_of_ble_eq_true rfl) rfl rfl ?_
    refine x_iload (dxX12_picks_1 21 rfl) rfl ?_
    refine x_iload (dxX12_picks_1 22 rfl) rfl ?_
    refine x_icmp_ne (tgt := 97) (dxX12_picks_1 23 rfl) (by decide) (fun hc => ?_) (fun hc => ?_)
    · replace h := h.1 hc
      refine x_aload_n (i := 0) (dxX12_picks_1 25 rfl) rfl rfl ?_
      refine gf_12_146 (kd_179 hLs14) (rv_179_72 hLs14) (dxX12_picks_1 26 rfl) ?_
      refine x_iload (dxX12_picks_1 27 rfl) rfl ?_
      refine x_iload (dxX12_picks_1 28 rfl) rfl ?_
      obtain ⟨hi16, h⟩ := h
      refine x_iast (kd_224 hLs14) hi16 (dxX12_picks_1 29 rfl) ?_
      refine x_sto (fun s17 e18 => ?_)
      replace h := h s17 e18
      have hKs17 : kd s17 = kd σ := by rw [e18]; exact hKs14
      have hLs17 : Lay s17 := by rw [e18]; exact hLs14.si
      refine x_aload_n (i := 0) (dxX12_picks_1 30 rfl) rfl rfl ?_
      refine gf_12_156 (kd_179 hLs17) (rv_179_78 hLs17) (dxX12_picks_1 31 rfl) ?_
      refine x_iload_n (i := 2) (dxX12_picks_2 0 rfl) rfl rfl ?_
      refine x_iload_n (i := 3) (dxX12_picks_2 1 rfl) rfl rfl ?_
      obtain ⟨hi19, h⟩ := h
      refine x_iast (kd_227 hLs17) hi19 (dxX12_picks_2 2 rfl) ?_
      refine x_sto (fun s20 e21 => ?_)
      replace h := h s20 e21
      have hKs20 : kd s20 = kd σ := by rw [e21]; exact hKs17
      have hLs20 : Lay s20 := by rw [e21]; exact hLs17.si
      refine x_aload_n (i := 0) (dxX12_picks_2 3 rfl) rfl rfl ?_
      refine x_iload_n (i := 3) (dxX12_picks_2 4 rfl) rfl rfl ?_
      refine x_iconst (v := 1) (dxX12_picks_2 5 rfl) rfl ?_
      refine x_iadd (dxX12_picks_2 6 rfl) ?_
      refine x_iload_n (i := 2) (dxX12_picks_2 7 rfl) rfl rfl ?_
      refine x_iconst (v := 1) (dxX12_picks_2 8 rfl) rfl ?_
      refine x_iadd (dxX12_picks_2 9 rfl) ?_
      refine cl_12_506 (kd_179 hLs20) (Nat.le_of_ble_eq_true rfl) (dxX12_picks_2 10 rfl) h (fun s22 h => ?_) (Nat.le_refl _) (Nat.le_refl _)
      obtain ⟨hFs22, h⟩ := h
      have hKs22 : kd s22 = kd σ := hFs22.1.trans hKs20
      have hLs22 : Lay s22 := hLs20.fr hFs22
      refine x_aload_n (i := 0) (dxX12_picks_2 11 rfl) rfl rfl ?_
      refine gf_12_146 (kd_179 hLs22) (rv_179_72 hLs22) (dxX12_picks_2 12 rfl) ?_
      refine x_iload (dxX12_picks_2 13 rfl) rfl ?_
      refine x_iload (dxX12_picks_2 14 rfl) rfl ?_
      obtain ⟨hi24, h⟩ := h
      refine x_iast (kd_224 hLs22) hi24 (dxX12_picks_2 15 rfl) ?_
      refine x_sto (fun s25 e26 => ?_)
      replace h := h s25 e26
      have hKs25 : kd s25 = kd σ := by rw [e26]; exact hKs22
      have hLs25 : Lay s25 := by rw [e26]; exact hLs22.si
      obtain ⟨x27, e28⟩ : ∃ y : Int32, y = l3 + 1 := ⟨_, rfl⟩
      replace h := h x27 e28
      refine x_iinc (v := x27) (dxX12_picks_2 16 rfl) (i := 3) rfl (by rw [e28]; rfl) (Nat.le_of_ble_eq_true rfl) rfl rfl ?_
      refine x_goto (tgt := 46) (dxX12_picks_2 17 rfl) (by decide) ?_
      refine x_mask [true, false, true, true, false, false] (L1 := [some (.ref 179), none, some (.int l2), some (.int x27), none, none]) rfl ?_
      exact h
    · replace h := h.2 hc
      refine x_goto (tgt := 132) (dxX12_picks_1 24 rfl) (by decide) ?_
      obtain ⟨x29, e30⟩ : ∃ y : Int32, y = l3 + 1 := ⟨_, rfl⟩
      replace h := h x29 e30
      refine x_iinc (v := x29) (dxX12_picks_2 16 rfl) (i := 3) rfl (by rw [e30]; rfl) (Nat.le_of_ble_eq_true rfl) rfl rfl ?_
      refine x_goto (tgt := 46) (dxX12_picks_2 17 rfl) (by decide) ?_
      refine x_mask [true, false, true, true, false, false] (L1 := [some (.ref 179), none, some (.int l2), some (.int x29), none, none]) rfl ?_
      exact h
theorem vcX12_nets {g : GV} {d : Nat} {P : Int32 → PS → Prop} {σ : PS} (hL : Lay σ) (p0 : Int32) (h : ∀ s1 : PS, s1 = si σ 179 0 0 → CX12_within g d [.int p0, .int 0, .int 2] s1 (fun (v4 : Int32) (s3 : PS) => Fr s1 s3 ∧ (v4 = 0 → P (-1) s3) ∧ (¬ v4 = 0 → (8 < (mi s3 179 35) → P (-1) s3) ∧ (¬ 8 < (mi s3 179 35) → CX12_isBody g d [.ref 179] s3 (fun (v6 : Int32) (s5 : PS) => Fr s3 s5 ∧ (¬ v6 = 0 → CX12_laysBody g d [.ref 179, .int 0, .int (-1)] s5 (fun (s7 : PS) => Fr s5 s7 ∧ ∀ s9 : PS, s9 = si s7 179 67 0 → VX12_nets g (d + 1) P 45 [some (.ref 179), some (.int p0), some (.int 0)] [] s9)) ∧ (v6 = 0 → P (-1) s5)))))) : CX12_nets g (d + 1) [.ref 179, .int p0] σ P := by
  refine x_entry (L := [some (.ref 179), some (.int p0), none]) pn_12 (Nat.le_of_ble_eq_true rfl) ⟨1, rfl⟩ ?_
  show VX12_nets g (d + 1) P 0 [some (.ref 179), some (.int p0), none] [] σ
  refine x_aload_n (i := 0) (dxX12_nets_0 0 rfl) rfl rfl ?_
  refine x_iconst (v := 0) (dxX12_nets_0 1 rfl) rfl ?_
  refine pf_12_184 (kd_179 hL) (dxX12_nets_0 2 rfl) ?_
  refine x_sto (fun s1 e2 => ?_)
  replace h := h s1 e2
  have hKs1 : kd s1 = kd σ := by rw [e2]; exact (rfl : kd σ = kd σ)
  have hLs1 : Lay s1 := by rw [e2]; exact hL.si
  refine x_iload_n (i := 1) (dxX12_nets_0 3 rfl) rfl rfl ?_
  refine x_iconst (v := 0) (dxX12_nets_0 4 rfl) rfl ?_
  refine x_iconst (v := 2) (dxX12_nets_0 5 rfl) rfl ?_
  refine cl_12_307 (Nat.le_of_ble_eq_true rfl) (dxX12_nets_0 6 rfl) h (fun v4 s3 h => ?_) (Nat.le_refl _) (Nat.le_refl _)
  obtain ⟨hFs3, h⟩ := h
  have hKs3 : kd s3 = kd σ := hFs3.1.trans hKs1
  have hLs3 : Lay s3 := hLs1.fr hFs3
  refine x_if_eq (tgt := 30) (dxX12_nets_0 7 rfl) (by decide) (fun hc => ?_) (fun hc => ?_)
  · replace h := h.1 hc
    refine x_iconst (v := (-1)) (dxX12_nets_0 15 rfl) rfl ?_
    exact x_iret (ty := .int) rfl rfl (dxX12_nets_0 16 rfl) ⟨_, rfl, h⟩
  · replace h := h.2 hc
    refine x_aload_n (i := 0) (dxX12_nets_0 8 rfl) rfl rfl ?_
    refine gf_12_177 (kd_179 hLs3) rfl (dxX12_nets_0 9 rfl) ?_
    refine x_bipush (v := 8) (dxX12_nets_0 10 rfl) rfl ?_
    refine x_icmp_gt (tgt := 30) (dxX12_nets_0 11 rfl) (by decide) (fun hc => ?_) (fun hc => ?_)
    · replace h := h.1 hc
      refine x_iconst (v := (-1)) (dxX12_nets_0 15 rfl) rfl ?_
      exact x_iret (ty := .int) rfl rfl (dxX12_nets_0 16 rfl) ⟨_, rfl, h⟩
    · replace h := h.2 hc
      refine x_aload_n (i := 0) (dxX12_nets_0 12 rfl) rfl rfl ?_
      refine cl_12_420 (kd_179 hLs3) (Nat.le_of_ble_eq_true rfl) (dxX12_nets_0 13 rfl) h (fun v6 s5 h => ?_) (Nat.le_refl _) (Nat.le_refl _)
      obtain ⟨hFs5, h⟩ := h
      have hKs5 : kd s5 = kd σ := hFs5.1.trans hKs3
      have hLs5 : Lay s5 := hLs3.fr hFs5
      refine x_if_ne (tgt := 32) (dxX12_nets_0 14 rfl) (by decide) (fun hc => ?_) (fun hc => ?_)
      · replace h := h.1 hc
        refine x_aload_n (i := 0) (dxX12_nets_0 17 rfl) rfl rfl ?_
        refine x_iconst (v := 0) (dxX12_nets_0 18 rfl) rfl ?_
        refine x_iconst (v := (-1)) (dxX12_nets_0 19 rfl) rfl ?_
        refine cl_12_423 (kd_179 hLs5) (Nat.le_of_ble_eq_true rfl) (dxX12_nets_0 20 rfl) h (fun s7 h => ?_) (Nat.le_refl _) (Nat.le_refl _)
        obtain ⟨hFs7, h⟩ := h
        have hKs7 : kd s7 = kd σ := hFs7.1.trans hKs5
        have hLs7 : Lay s7 := hLs5.fr hFs7
        refine x_aload_n (i := 0) (dxX12_nets_0 21 rfl) rfl rfl ?_
        refine x_iconst (v := 0) (dxX12_nets_0 22 rfl) rfl ?_
        refine pf_12_500 (kd_179 hLs7) (dxX12_nets_0 23 rfl) ?_
        refine x_sto (fun s9 e10 => ?_)
        replace h := h s9 e10
        have hKs9 : kd s9 = kd σ := by rw [e10]; exact hKs7
        have hLs9 : Lay s9 := by rw [e10]; exact hLs7.si
        refine x_iconst (v := 0) (dxX12_nets_0 24 rfl) rfl ?_
        refine x_istore_n (i := 2) (dxX12_nets_0 25 rfl) rfl (Nat.le_of_ble_eq_true rfl) rfl rfl ?_
        exact h
      · replace h := h.2 hc
        refine x_iconst (v := (-1)) (dxX12_nets_0 15 rfl) rfl ?_
        exact x_iret (ty := .int) rfl rfl (dxX12_nets_0 16 rfl) ⟨_, rfl, h⟩
theorem vcX12_nets_45 {g : GV} {d : Nat} {P : Int32 → PS → Prop} {σ : PS} (hL : Lay σ) (l1 : Int32) (l2 : Int32) (h : ((4 * (mi σ 179 35)) ≤ l2 → VX12_nets g (d + 1) P 96 [some (.ref 179), some (.int l1), some (.int 0)] [] σ) ∧ (¬ (4 * (mi σ 179 35)) ≤ l2 → vp_in l2 80 ∧ (l2 ≤ (mi σ 215 (Int32.toNatClampNeg l2)) → vp_in (mi σ 179 67) 40 ∧ ∀ s13 : PS, s13 = si σ 220 (Int32.toNatClampNeg (mi σ 179 67)) l2 → ∀ s15 : PS, s15 = si s13 179 67 ((mi s13 179 67) + 1) → ∀ x17 : Int32, x17 = l2 + 1 → VX12_nets g (d + 1) P 45 [some (.ref 179), some (.int l1), some (.int x17)] [] s15) ∧ (¬ l2 ≤ (mi σ 215 (Int32.toNatClampNeg l2)) → ∀ x19 : Int32, x19 = l2 + 1 → VX12_nets g (d + 1) P 45 [some (.ref 179), some (.int l1), some (.int x19)] [] σ))) : VX12_nets g (d + 1) P 45 [some (.ref 179), some (.int l1), some (.int l2)] [] σ := by
  refine x_iload_n (i := 2) (dxX12_nets_0 26 rfl) rfl rfl ?_
  refine x_iconst (v := 4) (dxX12_nets_0 27 rfl) rfl ?_
  refine x_aload_n (i := 0) (dxX12_nets_0 28 rfl) rfl rfl ?_
  refine gf_12_177 (kd_179 hL) rfl (dxX12_nets_0 29 rfl) ?_
  refine x_imul (dxX12_nets_0 30 rfl) ?_
  refine x_icmp_ge (tgt := 94) (dxX12_nets_0 31 rfl) (by decide) (fun hc => ?_) (fun hc => ?_)
  · replace h := h.1 hc
    refine x_iconst (v := 0) (dxX12_nets_1 21 rfl) rfl ?_
    refine x_istore_n (i := 2) (dxX12_nets_1 22 rfl) rfl (Nat.le_of_ble_eq_true rfl) rfl rfl ?_
    exact h
  · replace h := h.2 hc
    refine x_aload_n (i := 0) (dxX12_nets_1 0 rfl) rfl rfl ?_
    refine gf_12_119 (kd_179 hL) (rv_179_55 hL) (dxX12_nets_1 1 rfl) ?_
    refine x_iload_n (i := 2) (dxX12_nets_1 2 rfl) rfl rfl ?_
    obtain ⟨hi11, h⟩ := h
    refine x_iald (kd_215 hL) hi11 (dxX12_nets_1 3 rfl) ?_
    refine x_iload_n (i := 2) (dxX12_nets_1 4 rfl) rfl rfl ?_
    refine x_icmp_ge (tgt := 68) (dxX12_nets_1 5 rfl) (by decide) (fun hc => ?_) (fun hc => ?_)
    · replace h := h.1 hc
      refine x_aload_n (i := 0) (dxX12_nets_1 7 rfl) rfl rfl ?_
      refine gf_12_134 (kd_179 hL) (rv_179_68 hL) (dxX12_nets_1 8 rfl) ?_
      refine x_aload_n (i := 0) (dxX12_nets_1 9 rfl) rfl rfl ?_
      refine gf_12_500 (kd_179 hL) rfl (dxX12_nets_1 10 rfl) ?_
      refine x_iload_n (i := 2) (dxX12_nets_1 11 rfl) rfl rfl ?_
      obtain ⟨hi12, h⟩ := h
      refine x_iast (kd_220 hL) hi12 (dxX12_nets_1 12 rfl) ?_
      refine x_sto (fun s13 e14 => ?_)
      replace h := h s13 e14
      have hKs13 : kd s13 = kd σ := by rw [e14]; exact (rfl : kd σ = kd σ)
      have hLs13 : Lay s13 := by rw [e14]; exact hL.si
      refine x_aload_n (i := 0) (dxX12_nets_1 13 rfl) rfl rfl ?_
      refine x_dup (dxX12_nets_1 14 rfl) rfl ?_
      refine gf_12_500 (kd_179 hLs13) rfl (dxX12_nets_1 15 rfl) ?_
      refine x_iconst (v := 1) (dxX12_nets_1 16 rfl) rfl ?_
      refine x_iadd (dxX12_nets_1 17 rfl) ?_
      refine pf_12_500 (kd_179 hLs13) (dxX12_nets_1 18 rfl) ?_
      refine x_sto (fun s15 e16 => ?_)
      replace h := h s15 e16
      have hKs15 : kd s15 = kd σ := by rw [e16]; exact hKs13
      have hLs15 : Lay s15 := by rw [e16]; exact hLs13.si
      obtain ⟨x17, e18⟩ : ∃ y : Int32, y = l2 + 1 := ⟨_, rfl⟩
      replace h := h x17 e18
      refine x_iinc (v := x17) (dxX12_nets_1 19 rfl) (i := 2) rfl (by rw [e18]; rfl) (Nat.le_of_ble_eq_true rfl) rfl rfl ?_
      refine x_goto (tgt := 45) (dxX12_nets_1 20 rfl) (by decide) ?_
      exact h
    · replace h := h.2 hc
      refine x_goto (tgt := 88) (dxX12_nets_1 6 rfl) (by decide) ?_
      obtain ⟨x19, e20⟩ : ∃ y : Int32, y = l2 + 1 := ⟨_, rfl⟩
      replace h := h x19 e20
      refine x_iinc (v := x19) (dxX12_nets_1 19 rfl) (i := 2) rfl (by rw [e20]; rfl) (Nat.le_of_ble_eq_true rfl) rfl rfl ?_
      refine x_goto (tgt := 45) (dxX12_nets_1 20 rfl) (by decide) ?_
      exact h
theorem vcX12_nets_96 {g : GV} {d : Nat} {P : Int32 → PS → Prop} {σ : PS} (hL : Lay σ) (l1 : Int32) (l2 : Int32) (h : (32768 ≤ l2 → VX12_nets g (d + 1) P 117 [some (.ref 179), some (.int l1), some (.int 0)] [] σ) ∧ (¬ 32768 ≤ l2 → vp_in l2 32768 ∧ ∀ s22 : PS, s22 = si σ 226 (Int32.toNatClampNeg l2) (-1) → ∀ x24 : Int32, x24 = l2 + 1 → VX12_nets g (d + 1) P 96 [some (.ref 179), some (.int l1), some (.int x24)] [] s22)) : VX12_nets g (d + 1) P 96 [some (.ref 179), some (.int l1), some (.int l2)] [] σ := by
  refine x_iload_n (i := 2) (dxX12_nets_1 23 rfl) rfl rfl ?_
  refine x_ldc (dxX12_nets_1 24 rfl) gw_1208 ?_
  refine x_icmp_ge (tgt := 115) (dxX12_nets_1 25 rfl) (by decide) (fun hc => ?_) (fun hc => ?_)
  · replace h := h.1 hc
    refine x_iconst (v := 0) (dxX12_nets_2 1 rfl) rfl ?_
    refine x_istore_n (i := 2) (dxX12_nets_2 2 rfl) rfl (Nat.le_of_ble_eq_true rfl) rfl rfl ?_
    exact h
  · replace h := h.2 hc
    refine x_aload_n (i := 0) (dxX12_nets_1 26 rfl) rfl rfl ?_
    refine gf_12_153 (kd_179 hL) (rv_179_77 hL) (dxX12_nets_1 27 rfl) ?_
    refine x_iload_n (i := 2) (dxX12_nets_1 28 rfl) rfl rfl ?_
    refine x_iconst (v := (-1)) (dxX12_nets_1 29 rfl) rfl ?_
    obtain ⟨hi21, h⟩ := h
    refine x_iast (kd_226 hL) hi21 (dxX12_nets_1 30 rfl) ?_
    refine x_sto (fun s22 e23 => ?_)
    replace h := h s22 e23
    have hKs22 : kd s22 = kd σ := by rw [e23]; exact (rfl : kd σ = kd σ)
    have hLs22 : Lay s22 := by rw [e23]; exact hL.si
    obtain ⟨x24, e25⟩ : ∃ y : Int32, y = l2 + 1 := ⟨_, rfl⟩
    replace h := h x24 e25
    refine x_iinc (v := x24) (dxX12_nets_1 31 rfl) (i := 2) rfl (by rw [e25]; rfl) (Nat.le_of_ble_eq_true rfl) rfl rfl ?_
    refine x_goto (tgt := 96) (dxX12_nets_2 0 rfl) (by decide) ?_
    exact h
theorem vcX12_nets_117 {g : GV} {d : Nat} {P : Int32 → PS → Prop} {σ : PS} (hL : Lay σ) (l1 : Int32) (l2 : Int32) (h : (10 ≤ l2 → ∀ s26 : PS, s26 = si σ 179 73 0 → ∀ s28 : PS, s28 = si s26 179 74 0 → ∀ s30 : PS, s30 = si s28 179 75 0 → CX12_picks g d [.ref 179, .int 0, .int 0] s30 (fun (s32 : PS) => Fr s30 s32 ∧ (¬ l1 = 0 → (¬ l1 = 1 → P (mi s32 179 75) s32) ∧ (l1 = 1 → P (mi s32 179 74) s32)) ∧ (l1 = 0 → P (mi s32 179 73) s32))) ∧ (¬ 10 ≤ l2 → vp_in l2 10 ∧ ∀ s35 : PS, s35 = si σ 224 (Int32.toNatClampNeg l2) l2 → ∀ x37 : Int32, x37 = l2 + 1 → VX12_nets g (d + 1) P 117 [some (.ref 179), some (.int l1), some (.int x37)] [] s35)) : VX12_nets g (d + 1) P 117 [some (.ref 179), some (.int l1), some (.int l2)] [] σ := by
  refine x_iload_n (i := 2) (dxX12_nets_2 3 rfl) rfl rfl ?_
  refine x_bipush (v := 10) (dxX12_nets_2 4 rfl) rfl ?_
  refine x_icmp_ge (tgt := 136) (dxX12_nets_2 5 rfl) (by decide) (fun hc => ?_) (fun hc => ?_)
  · replace h := h.1 hc
    refine x_aload_n (i := 0) (dxX12_nets_2 13 rfl) rfl rfl ?_
    refine x_iconst (v := 0) (dxX12_nets_2 14 rfl) rfl ?_
    refine pf_12_488 (kd_179 hL) (dxX12_nets_2 15 rfl) ?_
    refine x_sto (fun s26 e27 => ?_)
    replace h := h s26 e27
    have hKs26 : kd s26 = kd σ := by rw [e27]; exact (rfl : kd σ = kd σ)
    have hLs26 : Lay s26 := by rw [e27]; exact hL.si
    refine x_aload_n (i := 0) (dxX12_nets_2 16 rfl) rfl rfl ?_
    refine x_iconst (v := 0) (dxX12_nets_2 17 rfl) rfl ?_
    refine pf_12_494 (kd_179 hLs26) (dxX12_nets_2 18 rfl) ?_
    refine x_sto (fun s28 e29 => ?_)
    replace h := h s28 e29
    have hKs28 : kd s28 = kd σ := by rw [e29]; exact hKs26
    have hLs28 : Lay s28 := by rw [e29]; exact hLs26.si
    refine x_aload_n (i := 0) (dxX12_nets_2 19 rfl) rfl rfl ?_
    refine x_iconst (v := 0) (dxX12_nets_2 20 rfl) rfl ?_
    refine pf_12_485 (kd_179 hLs28) (dxX12_nets_2 21 rfl) ?_
    refine x_sto (fun s30 e31 => ?_)
    replace h := h s30 e31
    have hKs30 : kd s30 = kd σ := by rw [e31]; exact hKs28
    have hLs30 : Lay s30 := by rw [e31]; exact hLs28.si
    refine x_aload_n (i := 0) (dxX12_nets_2 22 rfl) rfl rfl ?_
    refine x_iconst (v := 0) (dxX12_nets_2 23 rfl) rfl ?_
    refine x_iconst (v := 0) (dxX12_nets_2 24 rfl) rfl ?_
    refine cl_12_506 (kd_179 hLs30) (Nat.le_of_ble_eq_true rfl) (dxX12_nets_2 25 rfl) h (fun s32 h => ?_) (Nat.le_refl _) (Nat.le_refl _)
    obtain ⟨hFs32, h⟩ := h
    have hKs32 : kd s32 = kd σ := hFs32.1.trans hKs30
    have hLs32 : Lay s32 := hLs30.fr hFs32
    refine x_iload_n (i := 1) (dxX12_nets_2 26 rfl) rfl rfl ?_
    refine x_if_ne (tgt := 168) (dxX12_nets_2 27 rfl) (by decide) (fun hc => ?_) (fun hc => ?_)
    · replace h := h.1 hc
      refine x_iload_n (i := 1) (dxX12_nets_2 31 rfl) rfl rfl ?_
      refine x_iconst (v := 1) (dxX12_nets_3 0 rfl) rfl ?_
      refine x_icmp_ne (tgt := 180) (dxX12_nets_3 1 rfl) (by decide) (fun hc => ?_) (fun hc => ?_)
      · replace h := h.1 hc
        refine x_aload_n (i := 0) (dxX12_nets_3 5 rfl) rfl rfl ?_
        refine gf_12_485 (kd_179 hLs32) rfl (dxX12_nets_3 6 rfl) ?_
        exact x_iret (ty := .int) rfl rfl (dxX12_nets_3 7 rfl) ⟨_, rfl, h⟩
      · replace h := h.2 hc
        refine x_aload_n (i := 0) (dxX12_nets_3 2 rfl) rfl rfl ?_
        refine gf_12_494 (kd_179 hLs32) rfl (dxX12_nets_3 3 rfl) ?_
        refine x_goto (tgt := 184) (dxX12_nets_3 4 rfl) (by decide) ?_
        exact x_iret (ty := .int) rfl rfl (dxX12_nets_3 7 rfl) ⟨_, rfl, h⟩
    · replace h := h.2 hc
      refine x_aload_n (i := 0) (dxX12_nets_2 28 rfl) rfl rfl ?_
      refine gf_12_488 (kd_179 hLs32) rfl (dxX12_nets_2 29 rfl) ?_
      refine x_goto (tgt := 184) (dxX12_nets_2 30 rfl) (by decide) ?_
      exact x_iret (ty := .int) rfl rfl (dxX12_nets_3 7 rfl) ⟨_, rfl, h⟩
  · replace h := h.2 hc
    refine x_aload_n (i := 0) (dxX12_nets_2 6 rfl) rfl rfl ?_
    refine gf_12_146 (kd_179 hL) (rv_179_72 hL) (dxX12_nets_2 7 rfl) ?_
    refine x_iload_n (i := 2) (dxX12_nets_2 8 rfl) rfl rfl ?_
    refine x_iload_n (i := 2) (dxX12_nets_2 9 rfl) rfl rfl ?_
    obtain ⟨hi34, h⟩ := h
    refine x_iast (kd_224 hL) hi34 (dxX12_nets_2 10 rfl) ?_
    refine x_sto (fun s35 e36 => ?_)
    replace h := h s35 e36
    have hKs35 : kd s35 = kd σ := by rw [e36]; exact (rfl : kd σ = kd σ)
    have hLs35 : Lay s35 := by rw [e36]; exact hL.si
    obtain ⟨x37, e38⟩ : ∃ y : Int32, y = l2 + 1 := ⟨_, rfl⟩
    replace h := h x37 e38
    refine x_iinc (v := x37) (dxX12_nets_2 11 rfl) (i := 2) rfl (by rw [e38]; rfl) (Nat.le_of_ble_eq_true rfl) rfl rfl ?_
    refine x_goto (tgt := 117) (dxX12_nets_2 12 rfl) (by decide) ?_
    exact h
theorem vcX12_mark {g : GV} {d : Nat} {P : Int32 → PS → Prop} {σ : PS} (hL : Lay σ) (p0 : Int32) (p1 : Int32) (h : ∀ s1 : PS, s1 = si σ 179 0 0 → CX12_within g d [.int p0, .int 0, .int 3] s1 (fun (v4 : Int32) (s3 : PS) => Fr s1 s3 ∧ (v4 = 0 → P 0 s3) ∧ (¬ v4 = 0 → (p1 = 0 → vp_in p0 4 ∧ ∀ s6 : PS, s6 = si s3 229 (Int32.toNatClampNeg p0) (vp_nar .boolean 1) → (p1 = 0 → vp_in p0 4 ∧ ∀ s9 : PS, s9 = si s6 230 (Int32.toNatClampNeg p0) (mi s6 179 35) → VX12_mark g (d + 1) P 147 [some (.ref 179), some (.int p0), none, some (.int 0)] [] s9) ∧ (¬ p1 = 0 → vp_in p0 4 ∧ ∀ s12 : PS, s12 = si s6 179 35 (mi s6 230 (Int32.toNatClampNeg p0)) → VX12_mark g (d + 1) P 52 [some (.ref 179), some (.int p0), none, some (.int 0)] [] s12)) ∧ (¬ p1 = 0 → vp_in p0 4 ∧ (¬ (mi s3 229 (Int32.toNatClampNeg p0)) = 0 → vp_in p0 4 ∧ ∀ s16 : PS, s16 = si s3 229 (Int32.toNatClampNeg p0) (vp_nar .boolean 1) → (p1 = 0 → vp_in p0 4 ∧ ∀ s19 : PS, s19 = si s16 230 (Int32.toNatClampNeg p0) (mi s16 179 35) → VX12_mark g (d + 1) P 147 [some (.ref 179), some (.int p0), none, some (.int 0)] [] s19) ∧ (¬ p1 = 0 → vp_in p0 4 ∧ ∀ s22 : PS, s22 = si s16 179 35 (mi s16 230 (Int32.toNatClampNeg p0)) → VX12_mark g (d + 1) P 52 [some (.ref 179), some (.int p0), none, some (.int 0)] [] s22)) ∧ ((mi s3 229 (Int32.toNatClampNeg p0)) = 0 → P 0 s3))))) : CX12_mark g (d + 1) [.ref 179, .int p0, .int p1] σ P := by
  refine x_entry (L := [some (.ref 179), some (.int p0), some (.int p1), none]) pn_12 (Nat.le_of_ble_eq_true rfl) ⟨1, rfl⟩ ?_
  show VX12_mark g (d + 1) P 0 [some (.ref 179), some (.int p0), some (.int p1), none] [] σ
  refine x_aload_n (i := 0) (dxX12_mark_0 0 rfl) rfl rfl ?_
  refine x_iconst (v := 0) (dxX12_mark_0 1 rfl) rfl ?_
  refine pf_12_184 (kd_179 hL) (dxX12_mark_0 2 rfl) ?_
  refine x_sto (fun s1 e2 => ?_)
  replace h := h s1 e2
  have hKs1 : kd s1 = kd σ := by rw [e2]; exact (rfl : kd σ = kd σ)
  have hLs1 : Lay s1 := by rw [e2]; exact hL.si
  refine x_iload_n (i := 1) (dxX12_mark_0 3 rfl) rfl rfl ?_
  refine x_iconst (v := 0) (dxX12_mark_0 4 rfl) rfl ?_
  refine x_iconst (v := 3) (dxX12_mark_0 5 rfl) rfl ?_
  refine cl_12_307 (Nat.le_of_ble_eq_true rfl) (dxX12_mark_0 6 rfl) h (fun v4 s3 h => ?_) (Nat.le_refl _) (Nat.le_refl _)
  obtain ⟨hFs3, h⟩ := h
  have hKs3 : kd s3 = kd σ := hFs3.1.trans hKs1
  have hLs3 : Lay s3 := hLs1.fr hFs3
  refine x_if_eq (tgt := 27) (dxX12_mark_0 7 rfl) (by decide) (fun hc => ?_) (fun hc => ?_)
  · replace h := h.1 hc
    refine x_iconst (v := 0) (dxX12_mark_0 15 rfl) rfl ?_
    exact x_iret (ty := .boolean) rfl rfl (dxX12_mark_0 16 rfl) ⟨_, rfl, h⟩
  · replace h := h.2 hc
    refine x_iload_n (i := 2) (dxX12_mark_0 8 rfl) rfl rfl ?_
    refine x_if_eq (tgt := 29) (dxX12_mark_0 9 rfl) (by decide) (fun hc => ?_) (fun hc => ?_)
    · replace h := h.1 hc
      refine x_aload_n (i := 0) (dxX12_mark_0 17 rfl) rfl rfl ?_
      refine gf_12_162 (kd_179 hLs3) (rv_179_80 hLs3) (dxX12_mark_0 18 rfl) ?_
      refine x_iload_n (i := 1) (dxX12_mark_0 19 rfl) rfl rfl ?_
      refine x_iconst (v := 1) (dxX12_mark_0 20 rfl) rfl ?_
      obtain ⟨hi5, h⟩ := h
      refine x_zast (kd_229 hLs3) hi5 (dxX12_mark_0 21 rfl) ?_
      refine x_sto (fun s6 e7 => ?_)
      replace h := h s6 e7
      have hKs6 : kd s6 = kd σ := by rw [e7]; exact hKs3
      have hLs6 : Lay s6 := by rw [e7]; exact hLs3.si
      refine x_iload_n (i := 2) (dxX12_mark_0 22 rfl) rfl rfl ?_
      refine x_if_eq (tgt := 135) (dxX12_mark_0 23 rfl) (by decide) (fun hc => ?_) (fun hc => ?_)
      · replace h := h.1 hc
        refine x_aload_n (i := 0) (dxX12_mark_2 20 rfl) rfl rfl ?_
        refine gf_12_165 (kd_179 hLs6) (rv_179_81 hLs6) (dxX12_mark_2 21 rfl) ?_
        refine x_iload_n (i := 1) (dxX12_mark_2 22 rfl) rfl rfl ?_
        refine x_aload_n (i := 0) (dxX12_mark_2 23 rfl) rfl rfl ?_
        refine gf_12_177 (kd_179 hLs6) rfl (dxX12_mark_2 24 rfl) ?_
        obtain ⟨hi8, h⟩ := h
        refine x_iast (kd_230 hLs6) hi8 (dxX12_mark_2 25 rfl) ?_
        refine x_sto (fun s9 e10 => ?_)
        replace h := h s9 e10
        have hKs9 : kd s9 = kd σ := by rw [e10]; exact hKs6
        have hLs9 : Lay s9 := by rw [e10]; exact hLs6.si
        refine x_iconst (v := 0) (dxX12_mark_2 26 rfl) rfl ?_
        refine x_istore_n (i := 3) (dxX12_mark_2 27 rfl) rfl (Nat.le_of_ble_eq_true rfl) rfl rfl ?_
        refine x_mask [true, true, false, true] (L1 := [some (.ref 179), some (.int p0), none, some (.int 0)]) rfl ?_
        exact h
      · replace h := h.2 hc
        refine x_aload_n (i := 0) (dxX12_mark_0 24 rfl) rfl rfl ?_
        refine x_aload_n (i := 0) (dxX12_mark_0 25 rfl) rfl rfl ?_
        refine gf_12_165 (kd_179 hLs6) (rv_179_81 hLs6) (dxX12_mark_0 26 rfl) ?_
        refine x_iload_n (i := 1) (dxX12_mark_0 27 rfl) rfl rfl ?_
        obtain ⟨hi11, h⟩ := h
        refine x_iald (kd_230 hLs6) hi11 (dxX12_mark_0 28 rfl) ?_
        refine pf_12_177 (kd_179 hLs6) (dxX12_mark_0 29 rfl) ?_
        refine x_sto (fun s12 e13 => ?_)
        replace h := h s12 e13
        have hKs12 : kd s12 = kd σ := by rw [e13]; exact hKs6
        have hLs12 : Lay s12 := by rw [e13]; exact hLs6.si
        refine x_iconst (v := 0) (dxX12_mark_0 30 rfl) rfl ?_
        refine x_istore_n (i := 3) (dxX12_mark_0 31 rfl) rfl (Nat.le_of_ble_eq_true rfl) rfl rfl ?_
        refine x_mask [true, true, false, true] (L1 := [some (.ref 179), some (.int p0), none, some (.int 0)]) rfl ?_
        exact h
    · replace h := h.2 hc
      refine x_aload_n (i := 0) (dxX12_mark_0 10 rfl) rfl rfl ?_
      refine gf_12_162 (kd_179 hLs3) (rv_179_80 hLs3) (dxX12_mark_0 11 rfl) ?_
      refine x_iload_n (i := 1) (dxX12_mark_0 12 rfl) rfl rfl ?_
      obtain ⟨hi14, h⟩ := h
      refine x_zald (kd_229 hLs3) hi14 (dxX12_mark_0 13 rfl) ?_
      refine x_if_ne (tgt := 29) (dxX12_mark_0 14 rfl) (by decide) (fun hc => ?_) (fun hc => ?_)
      · replace h := h.1 hc
        refine x_aload_n (i := 0) (dxX12_mark_0 17 rfl) rfl rfl ?_
        refine gf_12_162 (kd_179 hLs3) (rv_179_80 hLs3) (dxX12_mark_0 18 rfl) ?_
        refine x_iload_n (i := 1) (dxX12_mark_0 19 rfl) rfl rfl ?_
        refine x_iconst (v := 1) (dxX12_mark_0 20 rfl) rfl ?_
        obtain ⟨hi15, h⟩ := h
        refine x_zast (kd_229 hLs3) hi15 (dxX12_mark_0 21 rfl) ?_
        refine x_sto (fun s16 e17 => ?_)
        replace h := h s16 e17
        have hKs16 : kd s16 = kd σ := by rw [e17]; exact hKs3
        have hLs16 : Lay s16 := by rw [e17]; exact hLs3.si
        refine x_iload_n (i := 2) (dxX12_mark_0 22 rfl) rfl rfl ?_
        refine x_if_eq (tgt := 135) (dxX12_mark_0 23 rfl) (by decide) (fun hc => ?_) (fun hc => ?_)
        · replace h := h.1 hc
          refine x_aload_n (i := 0) (dxX12_mark_2 20 rfl) rfl rfl ?_
          refine gf_12_165 (kd_179 hLs16) (rv_179_81 hLs16) (dxX12_mark_2 21 rfl) ?_
          refine x_iload_n (i := 1) (dxX12_mark_2 22 rfl) rfl rfl ?_
          refine x_aload_n (i := 0) (dxX12_mark_2 23 rfl) rfl rfl ?_
          refine gf_12_177 (kd_179 hLs16) rfl (dxX12_mark_2 24 rfl) ?_
          obtain ⟨hi18, h⟩ := h
          refine x_iast (kd_230 hLs16) hi18 (dxX12_mark_2 25 rfl) ?_
          refine x_sto (fun s19 e20 => ?_)
          replace h := h s19 e20
          have hKs19 : kd s19 = kd σ := by rw [e20]; exact hKs16
          have hLs19 : Lay s19 := by rw [e20]; exact hLs16.si
          refine x_iconst (v := 0) (dxX12_mark_2 26 rfl) rfl ?_
          refine x_istore_n (i := 3) (dxX12_mark_2 27 rfl) rfl (Nat.le_of_ble_eq_true rfl) rfl rfl ?_
          refine x_mask [true, true, false, true] (L1 := [some (.ref 179), some (.int p0), none, some (.int 0)]) rfl ?_
          exact h
        · replace h := h.2 hc
          refine x_aload_n (i := 0) (dxX12_mark_0 24 rfl) rfl rfl ?_
          refine x_aload_n (i := 0) (dxX12_mark_0 25 rfl) rfl rfl ?_
          refine gf_12_165 (kd_179 hLs16) (rv_179_81 hLs16) (dxX12_mark_0 26 rfl) ?_
          refine x_iload_n (i := 1) (dxX12_mark_0 27 rfl) rfl rfl ?_
          obtain ⟨hi21, h⟩ := h
          refine x_iald (kd_230 hLs16) hi21 (dxX12_mark_0 28 rfl) ?_
          refine pf_12_177 (kd_179 hLs16) (dxX12_mark_0 29 rfl) ?_
          refine x_sto (fun s22 e23 => ?_)
          replace h := h s22 e23
          have hKs22 : kd s22 = kd σ := by rw [e23]; exact hKs16
          have hLs22 : Lay s22 := by rw [e23]; exact hLs16.si
          refine x_iconst (v := 0) (dxX12_mark_0 30 rfl) rfl ?_
          refine x_istore_n (i := 3) (dxX12_mark_0 31 rfl) rfl (Nat.le_of_ble_eq_true rfl) rfl rfl ?_
          refine x_mask [true, true, false, true] (L1 := [some (.ref 179), some (.int p0), none, some (.int 0)]) rfl ?_
          exact h
      · replace h := h.2 hc
        refine x_iconst (v := 0) (dxX12_mark_0 15 rfl) rfl ?_
        exact x_iret (ty := .boolean) rfl rfl (dxX12_mark_0 16 rfl) ⟨_, rfl, h⟩
