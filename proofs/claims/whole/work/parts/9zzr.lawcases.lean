theorem gl_102 : Cond.initialized RL ∈ lwG := gw 102 (by decide +kernel) rfl
theorem gl_1114 : Cond.methodLink RL 99 yL_shortest ∈ lwG := gw 1114 (by decide +kernel) rfl
theorem gl_1115 : Cond.static yL_shortest ∈ lwG := gw 1115 (by decide +kernel) rfl
theorem gl_1116 : Cond.codeWith yL_shortest cL_shortest 6 (some FieldType.int) hhS ∈ lwG := gw 1116 (by decide +kernel) rfl
theorem gl_1192 : Cond.methodLink RL 108 yL_round ∈ lwG := gw 1192 (by decide +kernel) rfl
theorem gl_1193 : Cond.static yL_round ∈ lwG := gw 1193 (by decide +kernel) rfl
theorem gl_1194 : Cond.codeWith yL_round cL_round 5 (some FieldType.int) hhR ∈ lwG := gw 1194 (by decide +kernel) rfl
theorem pdL_shortest : yL_shortest.cls ≠ "java/lang/invoke/MethodHandle" ∧ yL_shortest.cls ≠ "java/lang/invoke/VarHandle" ∧ (parseMethodDescriptor yL_shortest.desc).map (fun d => d.parameters.length) = some 5 := by decide +kernel
theorem pdL_round : yL_round.cls ≠ "java/lang/invoke/MethodHandle" ∧ yL_round.cls ≠ "java/lang/invoke/VarHandle" ∧ (parseMethodDescriptor yL_round.desc).map (fun d => d.parameters.length) = some 4 := by decide +kernel
abbrev VL (g : GV) (Z : ZC) (d mc ms k n pc : Nat) (L : List (Option Value)) (st : List Value) (s : PS) : Prop := X g Z RL cL_law 7 d mc ms k n pc L st s
theorem vL_0 {g : GV} {Z : ZC} {d mc ms k n a : Nat} {σ : PS} (hL : Lay σ) (hk : k ≤ mc) (hn : n ≤ ms) (ha : a + 7 ≤ gL g) (hg : gL g < 2147483648) (h : CX11_feed g d [.ref 10, .long ((jlshl (Int32.toInt64 (gx g (a + 1))) 32) ||| ((Int32.toInt64 (gx g (a + 2))) &&& 4294967295)), .long ((jlshl (Int32.toInt64 (gx g (a + 3))) 32) ||| ((Int32.toInt64 (gx g (a + 4))) &&& 4294967295)), .long ((jlshl (Int32.toInt64 (gx g (a + 5))) 32) ||| ((Int32.toInt64 (gx g (a + 6))) &&& 4294967295))] σ (fun (v2 : Int32) (s1 : PS) => FrL σ s1 ∧ CX12_feed g d [.ref 179, .long ((jlshl (Int32.toInt64 (gx g (a + 1))) 32) ||| ((Int32.toInt64 (gx g (a + 2))) &&& 4294967295)), .long ((jlshl (Int32.toInt64 (gx g (a + 3))) 32) ||| ((Int32.toInt64 (gx g (a + 4))) &&& 4294967295)), .long ((jlshl (Int32.toInt64 (gx g (a + 5))) 32) ||| ((Int32.toInt64 (gx g (a + 6))) &&& 4294967295))] s1 (fun (v4 : Int32) (s3 : PS) => FrL s1 s3 ∧ v2 = v4 ∧ VL g Z (d + 1) mc ms k n 1043 [some (.ref 0), some (.ref 10), some (.ref 179), some (.ref 234), some (.int ((nI a))), none, none] [] s3))) : VL g Z (d + 1) mc ms k n 148 [some (.ref 0), some (.ref 10), some (.ref 179), some (.ref 234), some (.int ((nI a))), none, none] [] σ := by
  refine x_aload_n (i := 1) (dxL_law_0 25 rfl) rfl rfl ?_
  refine x_aload_n (i := 0) (dxL_law_0 26 rfl) rfl rfl ?_
  refine x_iload (i := 4) (dxL_law_0 27 rfl) rfl ?_
  refine x_iconst (v := 1) (dxL_law_0 28 rfl) rfl ?_
  refine x_iadd (dxL_law_0 29 rfl) ?_
  refine x_sc (j := 1) rfl (by decide) ha hg (dxL_law_0 30 rfl) ?_
  refine x_i2l (dxL_law_0 31 rfl) ?_
  refine x_bipush (v := 32) (dxL_law_1 0 rfl) rfl ?_
  refine x_lshl (dxL_law_1 1 rfl) ?_
  refine x_aload_n (i := 0) (dxL_law_1 2 rfl) rfl rfl ?_
  refine x_iload (i := 4) (dxL_law_1 3 rfl) rfl ?_
  refine x_iconst (v := 2) (dxL_law_1 4 rfl) rfl ?_
  refine x_iadd (dxL_law_1 5 rfl) ?_
  refine x_sc (j := 2) rfl (by decide) ha hg (dxL_law_1 6 rfl) ?_
  refine x_i2l (dxL_law_1 7 rfl) ?_
  refine x_ldc2 (dxL_law_1 8 rfl) gl_1822 ?_
  refine x_land (dxL_law_1 9 rfl) ?_
  refine x_lor (dxL_law_1 10 rfl) ?_
  refine x_aload_n (i := 0) (dxL_law_1 11 rfl) rfl rfl ?_
  refine x_iload (i := 4) (dxL_law_1 12 rfl) rfl ?_
  refine x_iconst (v := 3) (dxL_law_1 13 rfl) rfl ?_
  refine x_iadd (dxL_law_1 14 rfl) ?_
  refine x_sc (j := 3) rfl (by decide) ha hg (dxL_law_1 15 rfl) ?_
  refine x_i2l (dxL_law_1 16 rfl) ?_
  refine x_bipush (v := 32) (dxL_law_1 17 rfl) rfl ?_
  refine x_lshl (dxL_law_1 18 rfl) ?_
  refine x_aload_n (i := 0) (dxL_law_1 19 rfl) rfl rfl ?_
  refine x_iload (i := 4) (dxL_law_1 20 rfl) rfl ?_
  refine x_iconst (v := 4) (dxL_law_1 21 rfl) rfl ?_
  refine x_iadd (dxL_law_1 22 rfl) ?_
  refine x_sc (j := 4) rfl (by decide) ha hg (dxL_law_1 23 rfl) ?_
  refine x_i2l (dxL_law_1 24 rfl) ?_
  refine x_ldc2 (dxL_law_1 25 rfl) gl_1822 ?_
  refine x_land (dxL_law_1 26 rfl) ?_
  refine x_lor (dxL_law_1 27 rfl) ?_
  refine x_aload_n (i := 0) (dxL_law_1 28 rfl) rfl rfl ?_
  refine x_iload (i := 4) (dxL_law_1 29 rfl) rfl ?_
  refine x_iconst (v := 5) (dxL_law_1 30 rfl) rfl ?_
  refine x_iadd (dxL_law_1 31 rfl) ?_
  refine x_sc (j := 5) rfl (by decide) ha hg (dxL_law_2 0 rfl) ?_
  refine x_i2l (dxL_law_2 1 rfl) ?_
  refine x_bipush (v := 32) (dxL_law_2 2 rfl) rfl ?_
  refine x_lshl (dxL_law_2 3 rfl) ?_
  refine x_aload_n (i := 0) (dxL_law_2 4 rfl) rfl rfl ?_
  refine x_iload (i := 4) (dxL_law_2 5 rfl) rfl ?_
  refine x_bipush (v := 6) (dxL_law_2 6 rfl) rfl ?_
  refine x_iadd (dxL_law_2 7 rfl) ?_
  refine x_sc (j := 6) rfl (by decide) ha hg (dxL_law_2 8 rfl) ?_
  refine x_i2l (dxL_law_2 9 rfl) ?_
  refine x_ldc2 (dxL_law_2 10 rfl) gl_1822 ?_
  refine x_land (dxL_law_2 11 rfl) ?_
  refine x_lor (dxL_law_2 12 rfl) ?_
  refine cl_L_25 (kd_10 hL) (Nat.le_of_ble_eq_true rfl) (dxL_law_2 13 rfl) h (fun v2 s1 h => ?_) hk hn
  obtain ⟨hFs1, h⟩ := h
  have hKs1 : kd s1 = kd σ := hFs1.1.trans (rfl : kd σ = kd σ)
  have hLs1 : Lay s1 := hFs1.2
  refine x_aload_n (i := 2) (dxL_law_2 14 rfl) rfl rfl ?_
  refine x_aload_n (i := 0) (dxL_law_2 15 rfl) rfl rfl ?_
  refine x_iload (i := 4) (dxL_law_2 16 rfl) rfl ?_
  refine x_iconst (v := 1) (dxL_law_2 17 rfl) rfl ?_
  refine x_iadd (dxL_law_2 18 rfl) ?_
  refine x_sc (j := 1) rfl (by decide) ha hg (dxL_law_2 19 rfl) ?_
  refine x_i2l (dxL_law_2 20 rfl) ?_
  refine x_bipush (v := 32) (dxL_law_2 21 rfl) rfl ?_
  refine x_lshl (dxL_law_2 22 rfl) ?_
  refine x_aload_n (i := 0) (dxL_law_2 23 rfl) rfl rfl ?_
  refine x_iload (i := 4) (dxL_law_2 24 rfl) rfl ?_
  refine x_iconst (v := 2) (dxL_law_2 25 rfl) rfl ?_
  refine x_iadd (dxL_law_2 26 rfl) ?_
  refine x_sc (j := 2) rfl (by decide) ha hg (dxL_law_2 27 rfl) ?_
  refine x_i2l (dxL_law_2 28 rfl) ?_
  refine x_ldc2 (dxL_law_2 29 rfl) gl_1822 ?_
  refine x_land (dxL_law_2 30 rfl) ?_
  refine x_lor (dxL_law_2 31 rfl) ?_
  refine x_aload_n (i := 0) (dxL_law_3 0 rfl) rfl rfl ?_
  refine x_iload (i := 4) (dxL_law_3 1 rfl) rfl ?_
  refine x_iconst (v := 3) (dxL_law_3 2 rfl) rfl ?_
  refine x_iadd (dxL_law_3 3 rfl) ?_
  refine x_sc (j := 3) rfl (by decide) ha hg (dxL_law_3 4 rfl) ?_
  refine x_i2l (dxL_law_3 5 rfl) ?_
  refine x_bipush (v := 32) (dxL_law_3 6 rfl) rfl ?_
  refine x_lshl (dxL_law_3 7 rfl) ?_
  refine x_aload_n (i := 0) (dxL_law_3 8 rfl) rfl rfl ?_
  refine x_iload (i := 4) (dxL_law_3 9 rfl) rfl ?_
  refine x_iconst (v := 4) (dxL_law_3 10 rfl) rfl ?_
  refine x_iadd (dxL_law_3 11 rfl) ?_
  refine x_sc (j := 4) rfl (by decide) ha hg (dxL_law_3 12 rfl) ?_
  refine x_i2l (dxL_law_3 13 rfl) ?_
  refine x_ldc2 (dxL_law_3 14 rfl) gl_1822 ?_
  refine x_land (dxL_law_3 15 rfl) ?_
  refine x_lor (dxL_law_3 16 rfl) ?_
  refine x_aload_n (i := 0) (dxL_law_3 17 rfl) rfl rfl ?_
  refine x_iload (i := 4) (dxL_law_3 18 rfl) rfl ?_
  refine x_iconst (v := 5) (dxL_law_3 19 rfl) rfl ?_
  refine x_iadd (dxL_law_3 20 rfl) ?_
  refine x_sc (j := 5) rfl (by decide) ha hg (dxL_law_3 21 rfl) ?_
  refine x_i2l (dxL_law_3 22 rfl) ?_
  refine x_bipush (v := 32) (dxL_law_3 23 rfl) rfl ?_
  refine x_lshl (dxL_law_3 24 rfl) ?_
  refine x_aload_n (i := 0) (dxL_law_3 25 rfl) rfl rfl ?_
  refine x_iload (i := 4) (dxL_law_3 26 rfl) rfl ?_
  refine x_bipush (v := 6) (dxL_law_3 27 rfl) rfl ?_
  refine x_iadd (dxL_law_3 28 rfl) ?_
  refine x_sc (j := 6) rfl (by decide) ha hg (dxL_law_3 29 rfl) ?_
  refine x_i2l (dxL_law_3 30 rfl) ?_
  refine x_ldc2 (dxL_law_3 31 rfl) gl_1822 ?_
  refine x_land (dxL_law_4 0 rfl) ?_
  refine x_lor (dxL_law_4 1 rfl) ?_
  refine cl_L_29 (kd_179 hLs1) (Nat.le_of_ble_eq_true rfl) (dxL_law_4 2 rfl) h (fun v4 s3 h => ?_) hk hn
  obtain ⟨hFs3, h⟩ := h
  have hKs3 : kd s3 = kd σ := hFs3.1.trans hKs1
  have hLs3 : Lay s3 := hFs3.2
  obtain ⟨he, h⟩ := h
  refine x_icmp_eq (tgt := 1043) (dxL_law_4 3 rfl) (by decide) (fun hc => ?_) (fun hc => absurd he hc)
  exact h
theorem vL_1 {g : GV} {Z : ZC} {d mc ms k n a : Nat} {σ : PS} (hL : Lay σ) (hk : k ≤ mc) (hn : n ≤ ms) (ha : a + 7 ≤ gL g) (hg : gL g < 2147483648) (h : CX11_figure g d [.ref 10] σ (fun (v2 : Int32) (s1 : PS) => FrL σ s1 ∧ CX12_figure g d [.ref 179] s1 (fun (v4 : Int32) (s3 : PS) => FrL s1 s3 ∧ v2 = v4 ∧ VL g Z (d + 1) mc ms k n 1043 [some (.ref 0), some (.ref 10), some (.ref 179), some (.ref 234), some (.int ((nI a))), none, none] [] s3))) : VL g Z (d + 1) mc ms k n 295 [some (.ref 0), some (.ref 10), some (.ref 179), some (.ref 234), some (.int ((nI a))), none, none] [] σ := by
  refine x_aload_n (i := 1) (dxL_law_4 6 rfl) rfl rfl ?_
  refine cl_L_30 (kd_10 hL) (Nat.le_of_ble_eq_true rfl) (dxL_law_4 7 rfl) h (fun v2 s1 h => ?_) hk hn
  obtain ⟨hFs1, h⟩ := h
  have hKs1 : kd s1 = kd σ := hFs1.1.trans (rfl : kd σ = kd σ)
  have hLs1 : Lay s1 := hFs1.2
  refine x_aload_n (i := 2) (dxL_law_4 8 rfl) rfl rfl ?_
  refine cl_L_34 (kd_179 hLs1) (Nat.le_of_ble_eq_true rfl) (dxL_law_4 9 rfl) h (fun v4 s3 h => ?_) hk hn
  obtain ⟨hFs3, h⟩ := h
  have hKs3 : kd s3 = kd σ := hFs3.1.trans hKs1
  have hLs3 : Lay s3 := hFs3.2
  obtain ⟨he, h⟩ := h
  refine x_icmp_eq (tgt := 1043) (dxL_law_4 10 rfl) (by decide) (fun hc => ?_) (fun hc => absurd he hc)
  exact h
theorem vL_2 {g : GV} {Z : ZC} {d mc ms k n a : Nat} {σ : PS} (hL : Lay σ) (hk : k ≤ mc) (hn : n ≤ ms) (ha : a + 7 ≤ gL g) (hg : gL g < 2147483648) (h : CX11_cell g d [.ref 10, .int ((gx g (a + 1))), .int ((gx g (a + 2)))] σ (fun (v2 : Int32) (s1 : PS) => FrL σ s1 ∧ CX12_cell g d [.ref 179, .int ((gx g (a + 1))), .int ((gx g (a + 2)))] s1 (fun (v4 : Int32) (s3 : PS) => FrL s1 s3 ∧ v2 = v4 ∧ VL g Z (d + 1) mc ms k n 1043 [some (.ref 0), some (.ref 10), some (.ref 179), some (.ref 234), some (.int ((nI a))), none, none] [] s3))) : VL g Z (d + 1) mc ms k n 308 [some (.ref 0), some (.ref 10), some (.ref 179), some (.ref 234), some (.int ((nI a))), none, none] [] σ := by
  refine x_aload_n (i := 1) (dxL_law_4 13 rfl) rfl rfl ?_
  refine x_aload_n (i := 0) (dxL_law_4 14 rfl) rfl rfl ?_
  refine x_iload (i := 4) (dxL_law_4 15 rfl) rfl ?_
  refine x_iconst (v := 1) (dxL_law_4 16 rfl) rfl ?_
  refine x_iadd (dxL_law_4 17 rfl) ?_
  refine x_sc (j := 1) rfl (by decide) ha hg (dxL_law_4 18 rfl) ?_
  refine x_aload_n (i := 0) (dxL_law_4 19 rfl) rfl rfl ?_
  refine x_iload (i := 4) (dxL_law_4 20 rfl) rfl ?_
  refine x_iconst (v := 2) (dxL_law_4 21 rfl) rfl ?_
  refine x_iadd (dxL_law_4 22 rfl) ?_
  refine x_sc (j := 2) rfl (by decide) ha hg (dxL_law_4 23 rfl) ?_
  refine cl_L_35 (kd_10 hL) (Nat.le_of_ble_eq_true rfl) (dxL_law_4 24 rfl) h (fun v2 s1 h => ?_) hk hn
  obtain ⟨hFs1, h⟩ := h
  have hKs1 : kd s1 = kd σ := hFs1.1.trans (rfl : kd σ = kd σ)
  have hLs1 : Lay s1 := hFs1.2
  refine x_aload_n (i := 2) (dxL_law_4 25 rfl) rfl rfl ?_
  refine x_aload_n (i := 0) (dxL_law_4 26 rfl) rfl rfl ?_
  refine x_iload (i := 4) (dxL_law_4 27 rfl) rfl ?_
  refine x_iconst (v := 1) (dxL_law_4 28 rfl) rfl ?_
  refine x_iadd (dxL_law_4 29 rfl) ?_
  refine x_sc (j := 1) rfl (by decide) ha hg (dxL_law_4 30 rfl) ?_
  refine x_aload_n (i := 0) (dxL_law_4 31 rfl) rfl rfl ?_
  refine x_iload (i := 4) (dxL_law_5 0 rfl) rfl ?_
  refine x_iconst (v := 2) (dxL_law_5 1 rfl) rfl ?_
  refine x_iadd (dxL_law_5 2 rfl) ?_
  refine x_sc (j := 2) rfl (by decide) ha hg (dxL_law_5 3 rfl) ?_
  refine cl_L_38 (kd_179 hLs1) (Nat.le_of_ble_eq_true rfl) (dxL_law_5 4 rfl) h (fun v4 s3 h => ?_) hk hn
  obtain ⟨hFs3, h⟩ := h
  have hKs3 : kd s3 = kd σ := hFs3.1.trans hKs1
  have hLs3 : Lay s3 := hFs3.2
  obtain ⟨he, h⟩ := h
  refine x_icmp_eq (tgt := 1043) (dxL_law_5 5 rfl) (by decide) (fun hc => ?_) (fun hc => absurd he hc)
  exact h
theorem vL_3 {g : GV} {Z : ZC} {d mc ms k n a : Nat} {σ : PS} (hL : Lay σ) (hk : k ≤ mc) (hn : n ≤ ms) (ha : a + 7 ≤ gL g) (hg : gL g < 2147483648) (h : CX11_edge g d [.ref 10, .int ((gx g (a + 1))), .int ((gx g (a + 2)))] σ (fun (v2 : Int32) (s1 : PS) => FrL σ s1 ∧ CX12_edge g d [.ref 179, .int ((gx g (a + 1))), .int ((gx g (a + 2)))] s1 (fun (v4 : Int32) (s3 : PS) => FrL s1 s3 ∧ v2 = v4 ∧ VL g Z (d + 1) mc ms k n 1043 [some (.ref 0), some (.ref 10), some (.ref 179), some (.ref 234), some (.int ((nI a))), none, none] [] s3))) : VL g Z (d + 1) mc ms k n 345 [some (.ref 0), some (.ref 10), some (.ref 179), some (.ref 234), some (.int ((nI a))), none, none] [] σ := by
  refine x_aload_n (i := 1) (dxL_law_5 8 rfl) rfl rfl ?_
  refine x_aload_n (i := 0) (dxL_law_5 9 rfl) rfl rfl ?_
  refine x_iload (i := 4) (dxL_law_5 10 rfl) rfl ?_
  refine x_iconst (v := 1) (dxL_law_5 11 rfl) rfl ?_
  refine x_iadd (dxL_law_5 12 rfl) ?_
  refine x_sc (j := 1) rfl (by decide) ha hg (dxL_law_5 13 rfl) ?_
  refine x_aload_n (i := 0) (dxL_law_5 14 rfl) rfl rfl ?_
  refine x_iload (i := 4) (dxL_law_5 15 rfl) rfl ?_
  refine x_iconst (v := 2) (dxL_law_5 16 rfl) rfl ?_
  refine x_iadd (dxL_law_5 17 rfl) ?_
  refine x_sc (j := 2) rfl (by decide) ha hg (dxL_law_5 18 rfl) ?_
  refine cl_L_39 (kd_10 hL) (Nat.le_of_ble_eq_true rfl) (dxL_law_5 19 rfl) h (fun v2 s1 h => ?_) hk hn
  obtain ⟨hFs1, h⟩ := h
  have hKs1 : kd s1 = kd σ := hFs1.1.trans (rfl : kd σ = kd σ)
  have hLs1 : Lay s1 := hFs1.2
  refine x_aload_n (i := 2) (dxL_law_5 20 rfl) rfl rfl ?_
  refine x_aload_n (i := 0) (dxL_law_5 21 rfl) rfl rfl ?_
  refine x_iload (i := 4) (dxL_law_5 22 rfl) rfl ?_
  refine x_iconst (v := 1) (dxL_law_5 23 rfl) rfl ?_
  refine x_iadd (dxL_law_5 24 rfl) ?_
  refine x_sc (j := 1) rfl (by decide) ha hg (dxL_law_5 25 rfl) ?_
  refine x_aload_n (i := 0) (dxL_law_5 26 rfl) rfl rfl ?_
  refine x_iload (i := 4) (dxL_law_5 27 rfl) rfl ?_
  refine x_iconst (v := 2) (dxL_law_5 28 rfl) rfl ?_
  refine x_iadd (dxL_law_5 29 rfl) ?_
  refine x_sc (j := 2) rfl (by decide) ha hg (dxL_law_5 30 rfl) ?_
  refine cl_L_42 (kd_179 hLs1) (Nat.le_of_ble_eq_true rfl) (dxL_law_5 31 rfl) h (fun v4 s3 h => ?_) hk hn
  obtain ⟨hFs3, h⟩ := h
  have hKs3 : kd s3 = kd σ := hFs3.1.trans hKs1
  have hLs3 : Lay s3 := hFs3.2
  obtain ⟨he, h⟩ := h
  refine x_icmp_eq (tgt := 1043) (dxL_law_6 0 rfl) (by decide) (fun hc => ?_) (fun hc => absurd he hc)
  exact h
theorem vL_4 {g : GV} {Z : ZC} {d mc ms k n a : Nat} {σ : PS} (hL : Lay σ) (hk : k ≤ mc) (hn : n ≤ ms) (ha : a + 7 ≤ gL g) (hg : gL g < 2147483648) (h : CX11_gluings g d [.ref 10] σ (fun (v2 : Int32) (s1 : PS) => FrL σ s1 ∧ CX12_gluings g d [.ref 179] s1 (fun (v4 : Int32) (s3 : PS) => FrL s1 s3 ∧ v2 = v4 ∧ VL g Z (d + 1) mc ms k n 1043 [some (.ref 0), some (.ref 10), some (.ref 179), some (.ref 234), some (.int ((nI a))), none, none] [] s3))) : VL g Z (d + 1) mc ms k n 382 [some (.ref 0), some (.ref 10), some (.ref 179), some (.ref 234), some (.int ((nI a))), none, none] [] σ := by
  refine x_aload_n (i := 1) (dxL_law_6 3 rfl) rfl rfl ?_
  refine cl_L_43 (kd_10 hL) (Nat.le_of_ble_eq_true rfl) (dxL_law_6 4 rfl) h (fun v2 s1 h => ?_) hk hn
  obtain ⟨hFs1, h⟩ := h
  have hKs1 : kd s1 = kd σ := hFs1.1.trans (rfl : kd σ = kd σ)
  have hLs1 : Lay s1 := hFs1.2
  refine x_aload_n (i := 2) (dxL_law_6 5 rfl) rfl rfl ?_
  refine cl_L_46 (kd_179 hLs1) (Nat.le_of_ble_eq_true rfl) (dxL_law_6 6 rfl) h (fun v4 s3 h => ?_) hk hn
  obtain ⟨hFs3, h⟩ := h
  have hKs3 : kd s3 = kd σ := hFs3.1.trans hKs1
  have hLs3 : Lay s3 := hFs3.2
  obtain ⟨he, h⟩ := h
  refine x_icmp_eq (tgt := 1043) (dxL_law_6 7 rfl) (by decide) (fun hc => ?_) (fun hc => absurd he hc)
  exact h
theorem vL_5 {g : GV} {Z : ZC} {d mc ms k n a : Nat} {σ : PS} (hL : Lay σ) (hk : k ≤ mc) (hn : n ≤ ms) (ha : a + 7 ≤ gL g) (hg : gL g < 2147483648) (h : CX11_partner g d [.ref 10, .int ((gx g (a + 1))), .int ((gx g (a + 2)))] σ (fun (v2 : Int32) (s1 : PS) => FrL σ s1 ∧ CX12_partner g d [.ref 179, .int ((gx g (a + 1))), .int ((gx g (a + 2)))] s1 (fun (v4 : Int32) (s3 : PS) => FrL s1 s3 ∧ v2 = v4 ∧ VL g Z (d + 1) mc ms k n 1043 [some (.ref 0), some (.ref 10), some (.ref 179), some (.ref 234), some (.int ((nI a))), none, none] [] s3))) : VL g Z (d + 1) mc ms k n 395 [some (.ref 0), some (.ref 10), some (.ref 179), some (.ref 234), some (.int ((nI a))), none, none] [] σ := by
  refine x_aload_n (i := 1) (dxL_law_6 10 rfl) rfl rfl ?_
  refine x_aload_n (i := 0) (dxL_law_6 11 rfl) rfl rfl ?_
  refine x_iload (i := 4) (dxL_law_6 12 rfl) rfl ?_
  refine x_iconst (v := 1) (dxL_law_6 13 rfl) rfl ?_
  refine x_iadd (dxL_law_6 14 rfl) ?_
  refine x_sc (j := 1) rfl (by decide) ha hg (dxL_law_6 15 rfl) ?_
  refine x_aload_n (i := 0) (dxL_law_6 16 rfl) rfl rfl ?_
  refine x_iload (i := 4) (dxL_law_6 17 rfl) rfl ?_
  refine x_iconst (v := 2) (dxL_law_6 18 rfl) rfl ?_
  refine x_iadd (dxL_law_6 19 rfl) ?_
  refine x_sc (j := 2) rfl (by decide) ha hg (dxL_law_6 20 rfl) ?_
  refine cl_L_47 (kd_10 hL) (Nat.le_of_ble_eq_true rfl) (dxL_law_6 21 rfl) h (fun v2 s1 h => ?_) hk hn
  obtain ⟨hFs1, h⟩ := h
  have hKs1 : kd s1 = kd σ := hFs1.1.trans (rfl : kd σ = kd σ)
  have hLs1 : Lay s1 := hFs1.2
  refine x_aload_n (i := 2) (dxL_law_6 22 rfl) rfl rfl ?_
  refine x_aload_n (i := 0) (dxL_law_6 23 rfl) rfl rfl ?_
  refine x_iload (i := 4) (dxL_law_6 24 rfl) rfl ?_
  refine x_iconst (v := 1) (dxL_law_6 25 rfl) rfl ?_
  refine x_iadd (dxL_law_6 26 rfl) ?_
  refine x_sc (j := 1) rfl (by decide) ha hg (dxL_law_6 27 rfl) ?_
  refine x_aload_n (i := 0) (dxL_law_6 28 rfl) rfl rfl ?_
  refine x_iload (i := 4) (dxL_law_6 29 rfl) rfl ?_
  refine x_iconst (v := 2) (dxL_law_6 30 rfl) rfl ?_
  refine x_iadd (dxL_law_6 31 rfl) ?_
  refine x_sc (j := 2) rfl (by decide) ha hg (dxL_law_7 0 rfl) ?_
  refine cl_L_50 (kd_179 hLs1) (Nat.le_of_ble_eq_true rfl) (dxL_law_7 1 rfl) h (fun v4 s3 h => ?_) hk hn
  obtain ⟨hFs3, h⟩ := h
  have hKs3 : kd s3 = kd σ := hFs3.1.trans hKs1
  have hLs3 : Lay s3 := hFs3.2
  obtain ⟨he, h⟩ := h
  refine x_icmp_eq (tgt := 1043) (dxL_law_7 2 rfl) (by decide) (fun hc => ?_) (fun hc => absurd he hc)
  exact h
theorem vL_6 {g : GV} {Z : ZC} {d mc ms k n a : Nat} {σ : PS} (hL : Lay σ) (hk : k ≤ mc) (hn : n ≤ ms) (ha : a + 7 ≤ gL g) (hg : gL g < 2147483648) (h : CX11_glue g d [.ref 10, .int ((gx g (a + 1))), .int ((gx g (a + 2)))] σ (fun (v2 : Int32) (s1 : PS) => FrL σ s1 ∧ CX12_glue g d [.ref 179, .int ((gx g (a + 1))), .int ((gx g (a + 2)))] s1 (fun (v4 : Int32) (s3 : PS) => FrL s1 s3 ∧ v2 = v4 ∧ VL g Z (d + 1) mc ms k n 1043 [some (.ref 0), some (.ref 10), some (.ref 179), some (.ref 234), some (.int ((nI a))), none, none] [] s3))) : VL g Z (d + 1) mc ms k n 432 [some (.ref 0), some (.ref 10), some (.ref 179), some (.ref 234), some (.int ((nI a))), none, none] [] σ := by
  refine x_aload_n (i := 1) (dxL_law_7 5 rfl) rfl rfl ?_
  refine x_aload_n (i := 0) (dxL_law_7 6 rfl) rfl rfl ?_
  refine x_iload (i := 4) (dxL_law_7 7 rfl) rfl ?_
  refine x_iconst (v := 1) (dxL_law_7 8 rfl) rfl ?_
  refine x_iadd (dxL_law_7 9 rfl) ?_
  refine x_sc (j := 1) rfl (by decide) ha hg (dxL_law_7 10 rfl) ?_
  refine x_aload_n (i := 0) (dxL_law_7 11 rfl) rfl rfl ?_
  refine x_iload (i := 4) (dxL_law_7 12 rfl) rfl ?_
  refine x_iconst (v := 2) (dxL_law_7 13 rfl) rfl ?_
  refine x_iadd (dxL_law_7 14 rfl) ?_
  refine x_sc (j := 2) rfl (by decide) ha hg (dxL_law_7 15 rfl) ?_
  refine cl_L_51 (kd_10 hL) (Nat.le_of_ble_eq_true rfl) (dxL_law_7 16 rfl) h (fun v2 s1 h => ?_) hk hn
  obtain ⟨hFs1, h⟩ := h
  have hKs1 : kd s1 = kd σ := hFs1.1.trans (rfl : kd σ = kd σ)
  have hLs1 : Lay s1 := hFs1.2
  refine x_aload_n (i := 2) (dxL_law_7 17 rfl) rfl rfl ?_
  refine x_aload_n (i := 0) (dxL_law_7 18 rfl) rfl rfl ?_
  refine x_iload (i := 4) (dxL_law_7 19 rfl) rfl ?_
  refine x_iconst (v := 1) (dxL_law_7 20 rfl) rfl ?_
  refine x_iadd (dxL_law_7 21 rfl) ?_
  refine x_sc (j := 1) rfl (by decide) ha hg (dxL_law_7 22 rfl) ?_
  refine x_aload_n (i := 0) (dxL_law_7 23 rfl) rfl rfl ?_
  refine x_iload (i := 4) (dxL_law_7 24 rfl) rfl ?_
  refine x_iconst (v := 2) (dxL_law_7 25 rfl) rfl ?_
  refine x_iadd (dxL_law_7 26 rfl) ?_
  refine x_sc (j := 2) rfl (by decide) ha hg (dxL_law_7 27 rfl) ?_
  refine cl_L_54 (kd_179 hLs1) (Nat.le_of_ble_eq_true rfl) (dxL_law_7 28 rfl) h (fun v4 s3 h => ?_) hk hn
  obtain ⟨hFs3, h⟩ := h
  have hKs3 : kd s3 = kd σ := hFs3.1.trans hKs1
  have hLs3 : Lay s3 := hFs3.2
  obtain ⟨he, h⟩ := h
  refine x_icmp_eq (tgt := 1043) (dxL_law_7 29 rfl) (by decide) (fun hc => ?_) (fun hc => absurd he hc)
  exact h
theorem vL_7 {g : GV} {Z : ZC} {d mc ms k n a : Nat} {σ : PS} (hL : Lay σ) (hk : k ≤ mc) (hn : n ≤ ms) (ha : a + 7 ≤ gL g) (hg : gL g < 2147483648) (h : CX11_choose g d [.ref 10, .int ((gx g (a + 1)))] σ (fun (v2 : Int32) (s1 : PS) => FrL σ s1 ∧ CX12_choose g d [.ref 179, .int ((gx g (a + 1)))] s1 (fun (v4 : Int32) (s3 : PS) => FrL s1 s3 ∧ v2 = v4 ∧ VL g Z (d + 1) mc ms k n 1043 [some (.ref 0), some (.ref 10), some (.ref 179), some (.ref 234), some (.int ((nI a))), none, none] [] s3))) : VL g Z (d + 1) mc ms k n 469 [some (.ref 0), some (.ref 10), some (.ref 179), some (.ref 234), some (.int ((nI a))), none, none] [] σ := by
  refine x_aload_n (i := 1) (dxL_law_8 0 rfl) rfl rfl ?_
  refine x_aload_n (i := 0) (dxL_law_8 1 rfl) rfl rfl ?_
  refine x_iload (i := 4) (dxL_law_8 2 rfl) rfl ?_
  refine x_iconst (v := 1) (dxL_law_8 3 rfl) rfl ?_
  refine x_iadd (dxL_law_8 4 rfl) ?_
  refine x_sc (j := 1) rfl (by decide) ha hg (dxL_law_8 5 rfl) ?_
  refine cl_L_55 (kd_10 hL) (Nat.le_of_ble_eq_true rfl) (dxL_law_8 6 rfl) h (fun v2 s1 h => ?_) hk hn
  obtain ⟨hFs1, h⟩ := h
  have hKs1 : kd s1 = kd σ := hFs1.1.trans (rfl : kd σ = kd σ)
  have hLs1 : Lay s1 := hFs1.2
  refine x_aload_n (i := 2) (dxL_law_8 7 rfl) rfl rfl ?_
  refine x_aload_n (i := 0) (dxL_law_8 8 rfl) rfl rfl ?_
  refine x_iload (i := 4) (dxL_law_8 9 rfl) rfl ?_
  refine x_iconst (v := 1) (dxL_law_8 10 rfl) rfl ?_
  refine x_iadd (dxL_law_8 11 rfl) ?_
  refine x_sc (j := 1) rfl (by decide) ha hg (dxL_law_8 12 rfl) ?_
  refine cl_L_59 (kd_179 hLs1) (Nat.le_of_ble_eq_true rfl) (dxL_law_8 13 rfl) h (fun v4 s3 h => ?_) hk hn
  obtain ⟨hFs3, h⟩ := h
  have hKs3 : kd s3 = kd σ := hFs3.1.trans hKs1
  have hLs3 : Lay s3 := hFs3.2
  obtain ⟨he, h⟩ := h
  refine x_icmp_eq (tgt := 1043) (dxL_law_8 14 rfl) (by decide) (fun hc => ?_) (fun hc => absurd he hc)
  exact h
theorem vL_8 {g : GV} {Z : ZC} {d mc ms k n a : Nat} {σ : PS} (hL : Lay σ) (hk : k ≤ mc) (hn : n ≤ ms) (ha : a + 7 ≤ gL g) (hg : gL g < 2147483648) (h : CX11_undo g d [.ref 10] σ (fun (v2 : Int32) (s1 : PS) => FrL σ s1 ∧ CX12_undo g d [.ref 179] s1 (fun (v4 : Int32) (s3 : PS) => FrL s1 s3 ∧ v2 = v4 ∧ VL g Z (d + 1) mc ms k n 1043 [some (.ref 0), some (.ref 10), some (.ref 179), some (.ref 234), some (.int ((nI a))), none, none] [] s3))) : VL g Z (d + 1) mc ms k n 494 [some (.ref 0), some (.ref 10), some (.ref 179), some (.ref 234), some (.int ((nI a))), none, none] [] σ := by
  refine x_aload_n (i := 1) (dxL_law_8 17 rfl) rfl rfl ?_
  refine cl_L_60 (kd_10 hL) (Nat.le_of_ble_eq_true rfl) (dxL_law_8 18 rfl) h (fun v2 s1 h => ?_) hk hn
  obtain ⟨hFs1, h⟩ := h
  have hKs1 : kd s1 = kd σ := hFs1.1.trans (rfl : kd σ = kd σ)
  have hLs1 : Lay s1 := hFs1.2
  refine x_aload_n (i := 2) (dxL_law_8 19 rfl) rfl rfl ?_
  refine cl_L_64 (kd_179 hLs1) (Nat.le_of_ble_eq_true rfl) (dxL_law_8 20 rfl) h (fun v4 s3 h => ?_) hk hn
  obtain ⟨hFs3, h⟩ := h
  have hKs3 : kd s3 = kd σ := hFs3.1.trans hKs1
  have hLs3 : Lay s3 := hFs3.2
  obtain ⟨he, h⟩ := h
  refine x_icmp_eq (tgt := 1043) (dxL_law_8 21 rfl) (by decide) (fun hc => ?_) (fun hc => absurd he hc)
  exact h
theorem vL_9 {g : GV} {Z : ZC} {d mc ms k n a : Nat} {σ : PS} (hL : Lay σ) (hk : k ≤ mc) (hn : n ≤ ms) (ha : a + 7 ≤ gL g) (hg : gL g < 2147483648) (h : CX11_redo g d [.ref 10] σ (fun (v2 : Int32) (s1 : PS) => FrL σ s1 ∧ CX12_redo g d [.ref 179] s1 (fun (v4 : Int32) (s3 : PS) => FrL s1 s3 ∧ v2 = v4 ∧ VL g Z (d + 1) mc ms k n 1043 [some (.ref 0), some (.ref 10), some (.ref 179), some (.ref 234), some (.int ((nI a))), none, none] [] s3))) : VL g Z (d + 1) mc ms k n 507 [some (.ref 0), some (.ref 10), some (.ref 179), some (.ref 234), some (.int ((nI a))), none, none] [] σ := by
  refine x_aload_n (i := 1) (dxL_law_8 24 rfl) rfl rfl ?_
  refine cl_L_65 (kd_10 hL) (Nat.le_of_ble_eq_true rfl) (dxL_law_8 25 rfl) h (fun v2 s1 h => ?_) hk hn
  obtain ⟨hFs1, h⟩ := h
  have hKs1 : kd s1 = kd σ := hFs1.1.trans (rfl : kd σ = kd σ)
  have hLs1 : Lay s1 := hFs1.2
  refine x_aload_n (i := 2) (dxL_law_8 26 rfl) rfl rfl ?_
  refine cl_L_68 (kd_179 hLs1) (Nat.le_of_ble_eq_true rfl) (dxL_law_8 27 rfl) h (fun v4 s3 h => ?_) hk hn
  obtain ⟨hFs3, h⟩ := h
  have hKs3 : kd s3 = kd σ := hFs3.1.trans hKs1
  have hLs3 : Lay s3 := hFs3.2
  obtain ⟨he, h⟩ := h
  refine x_icmp_eq (tgt := 1043) (dxL_law_8 28 rfl) (by decide) (fun hc => ?_) (fun hc => absurd he hc)
  exact h
theorem vL_10 {g : GV} {Z : ZC} {d mc ms k n a : Nat} {σ : PS} (hL : Lay σ) (hk : k ≤ mc) (hn : n ≤ ms) (ha : a + 7 ≤ gL g) (hg : gL g < 2147483648) (h : CX11_corner g d [.ref 10, .int ((gx g (a + 1))), .int ((gx g (a + 2)))] σ (fun (v2 : Int32) (s1 : PS) => FrL σ s1 ∧ CX12_corner g d [.ref 179, .int ((gx g (a + 1))), .int ((gx g (a + 2)))] s1 (fun (v4 : Int32) (s3 : PS) => FrL s1 s3 ∧ v2 = v4 ∧ VL g Z (d + 1) mc ms k n 1043 [some (.ref 0), some (.ref 10), some (.ref 179), some (.ref 234), some (.int ((nI a))), none, none] [] s3))) : VL g Z (d + 1) mc ms k n 520 [some (.ref 0), some (.ref 10), some (.ref 179), some (.ref 234), some (.int ((nI a))), none, none] [] σ := by
  refine x_aload_n (i := 1) (dxL_law_8 31 rfl) rfl rfl ?_
  refine x_aload_n (i := 0) (dxL_law_9 0 rfl) rfl rfl ?_
  refine x_iload (i := 4) (dxL_law_9 1 rfl) rfl ?_
  refine x_iconst (v := 1) (dxL_law_9 2 rfl) rfl ?_
  refine x_iadd (dxL_law_9 3 rfl) ?_
  refine x_sc (j := 1) rfl (by decide) ha hg (dxL_law_9 4 rfl) ?_
  refine x_aload_n (i := 0) (dxL_law_9 5 rfl) rfl rfl ?_
  refine x_iload (i := 4) (dxL_law_9 6 rfl) rfl ?_
  refine x_iconst (v := 2) (dxL_law_9 7 rfl) rfl ?_
  refine x_iadd (dxL_law_9 8 rfl) ?_
  refine x_sc (j := 2) rfl (by decide) ha hg (dxL_law_9 9 rfl) ?_
  refine cl_L_69 (kd_10 hL) (Nat.le_of_ble_eq_true rfl) (dxL_law_9 10 rfl) h (fun v2 s1 h => ?_) hk hn
  obtain ⟨hFs1, h⟩ := h
  have hKs1 : kd s1 = kd σ := hFs1.1.trans (rfl : kd σ = kd σ)
  have hLs1 : Lay s1 := hFs1.2
  refine x_aload_n (i := 2) (dxL_law_9 11 rfl) rfl rfl ?_
  refine x_aload_n (i := 0) (dxL_law_9 12 rfl) rfl rfl ?_
  refine x_iload (i := 4) (dxL_law_9 13 rfl) rfl ?_
  refine x_iconst (v := 1) (dxL_law_9 14 rfl) rfl ?_
  refine x_iadd (dxL_law_9 15 rfl) ?_
  refine x_sc (j := 1) rfl (by decide) ha hg (dxL_law_9 16 rfl) ?_
  refine x_aload_n (i := 0) (dxL_law_9 17 rfl) rfl rfl ?_
  refine x_iload (i := 4) (dxL_law_9 18 rfl) rfl ?_
  refine x_iconst (v := 2) (dxL_law_9 19 rfl) rfl ?_
  refine x_iadd (dxL_law_9 20 rfl) ?_
  refine x_sc (j := 2) rfl (by decide) ha hg (dxL_law_9 21 rfl) ?_
  refine cl_L_72 (kd_179 hLs1) (Nat.le_of_ble_eq_true rfl) (dxL_law_9 22 rfl) h (fun v4 s3 h => ?_) hk hn
  obtain ⟨hFs3, h⟩ := h
  have hKs3 : kd s3 = kd σ := hFs3.1.trans hKs1
  have hLs3 : Lay s3 := hFs3.2
  obtain ⟨he, h⟩ := h
  refine x_icmp_eq (tgt := 1043) (dxL_law_9 23 rfl) (by decide) (fun hc => ?_) (fun hc => absurd he hc)
  exact h
theorem vL_11 {g : GV} {Z : ZC} {d mc ms k n a : Nat} {σ : PS} (hL : Lay σ) (hk : k ≤ mc) (hn : n ≤ ms) (ha : a + 7 ≤ gL g) (hg : gL g < 2147483648) (h : CX11_lacking g d [.ref 10, .int ((gx g (a + 1)))] σ (fun (v2 : Int32) (s1 : PS) => FrL σ s1 ∧ CX12_lacking g d [.ref 179, .int ((gx g (a + 1)))] s1 (fun (v4 : Int32) (s3 : PS) => FrL s1 s3 ∧ v2 = v4 ∧ VL g Z (d + 1) mc ms k n 1043 [some (.ref 0), some (.ref 10), some (.ref 179), some (.ref 234), some (.int ((nI a))), none, none] [] s3))) : VL g Z (d + 1) mc ms k n 557 [some (.ref 0), some (.ref 10), some (.ref 179), some (.ref 234), some (.int ((nI a))), none, none] [] σ := by
  refine x_aload_n (i := 1) (dxL_law_9 26 rfl) rfl rfl ?_
  refine x_aload_n (i := 0) (dxL_law_9 27 rfl) rfl rfl ?_
  refine x_iload (i := 4) (dxL_law_9 28 rfl) rfl ?_
  refine x_iconst (v := 1) (dxL_law_9 29 rfl) rfl ?_
  refine x_iadd (dxL_law_9 30 rfl) ?_
  refine x_sc (j := 1) rfl (by decide) ha hg (dxL_law_9 31 rfl) ?_
  refine cl_L_73 (kd_10 hL) (Nat.le_of_ble_eq_true rfl) (dxL_law_10 0 rfl) h (fun v2 s1 h => ?_) hk hn
  obtain ⟨hFs1, h⟩ := h
  have hKs1 : kd s1 = kd σ := hFs1.1.trans (rfl : kd σ = kd σ)
  have hLs1 : Lay s1 := hFs1.2
  refine x_aload_n (i := 2) (dxL_law_10 1 rfl) rfl rfl ?_
  refine x_aload_n (i := 0) (dxL_law_10 2 rfl) rfl rfl ?_
  refine x_iload (i := 4) (dxL_law_10 3 rfl) rfl ?_
  refine x_iconst (v := 1) (dxL_law_10 4 rfl) rfl ?_
  refine x_iadd (dxL_law_10 5 rfl) ?_
  refine x_sc (j := 1) rfl (by decide) ha hg (dxL_law_10 6 rfl) ?_
  refine cl_L_77 (kd_179 hLs1) (Nat.le_of_ble_eq_true rfl) (dxL_law_10 7 rfl) h (fun v4 s3 h => ?_) hk hn
  obtain ⟨hFs3, h⟩ := h
  have hKs3 : kd s3 = kd σ := hFs3.1.trans hKs1
  have hLs3 : Lay s3 := hFs3.2
  obtain ⟨he, h⟩ := h
  refine x_icmp_eq (tgt := 1043) (dxL_law_10 8 rfl) (by decide) (fun hc => ?_) (fun hc => absurd he hc)
  exact h
theorem vL_12 {g : GV} {Z : ZC} {d mc ms k n a : Nat} {σ : PS} (hL : Lay σ) (hk : k ≤ mc) (hn : n ≤ ms) (ha : a + 7 ≤ gL g) (hg : gL g < 2147483648) (h : CX11_beyond g d [.ref 10, .int ((gx g (a + 1))), .int ((gx g (a + 2))), .int ((gx g (a + 3)))] σ (fun (v2 : Int32) (s1 : PS) => FrL σ s1 ∧ CX12_beyond g d [.ref 179, .int ((gx g (a + 1))), .int ((gx g (a + 2))), .int ((gx g (a + 3)))] s1 (fun (v4 : Int32) (s3 : PS) => FrL s1 s3 ∧ v2 = v4 ∧ VL g Z (d + 1) mc ms k n 1043 [some (.ref 0), some (.ref 10), some (.ref 179), some (.ref 234), some (.int ((nI a))), none, none] [] s3))) : VL g Z (d + 1) mc ms k n 582 [some (.ref 0), some (.ref 10), some (.ref 179), some (.ref 234), some (.int ((nI a))), none, none] [] σ := by
  refine x_aload_n (i := 1) (dxL_law_10 11 rfl) rfl rfl ?_
  refine x_aload_n (i := 0) (dxL_law_10 12 rfl) rfl rfl ?_
  refine x_iload (i := 4) (dxL_law_10 13 rfl) rfl ?_
  refine x_iconst (v := 1) (dxL_law_10 14 rfl) rfl ?_
  refine x_iadd (dxL_law_10 15 rfl) ?_
  refine x_sc (j := 1) rfl (by decide) ha hg (dxL_law_10 16 rfl) ?_
  refine x_aload_n (i := 0) (dxL_law_10 17 rfl) rfl rfl ?_
  refine x_iload (i := 4) (dxL_law_10 18 rfl) rfl ?_
  refine x_iconst (v := 2) (dxL_law_10 19 rfl) rfl ?_
  refine x_iadd (dxL_law_10 20 rfl) ?_
  refine x_sc (j := 2) rfl (by decide) ha hg (dxL_law_10 21 rfl) ?_
  refine x_aload_n (i := 0) (dxL_law_10 22 rfl) rfl rfl ?_
  refine x_iload (i := 4) (dxL_law_10 23 rfl) rfl ?_
  refine x_iconst (v := 3) (dxL_law_10 24 rfl) rfl ?_
  refine x_iadd (dxL_law_10 25 rfl) ?_
  refine x_sc (j := 3) rfl (by decide) ha hg (dxL_law_10 26 rfl) ?_
  refine cl_L_78 (kd_10 hL) (Nat.le_of_ble_eq_true rfl) (dxL_law_10 27 rfl) h (fun v2 s1 h => ?_) hk hn
  obtain ⟨hFs1, h⟩ := h
  have hKs1 : kd s1 = kd σ := hFs1.1.trans (rfl : kd σ = kd σ)
  have hLs1 : Lay s1 := hFs1.2
  refine x_aload_n (i := 2) (dxL_law_10 28 rfl) rfl rfl ?_
  refine x_aload_n (i := 0) (dxL_law_10 29 rfl) rfl rfl ?_
  refine x_iload (i := 4) (dxL_law_10 30 rfl) rfl ?_
  refine x_iconst (v := 1) (dxL_law_10 31 rfl) rfl ?_
  refine x_iadd (dxL_law_11 0 rfl) ?_
  refine x_sc (j := 1) rfl (by decide) ha hg (dxL_law_11 1 rfl) ?_
  refine x_aload_n (i := 0) (dxL_law_11 2 rfl) rfl rfl ?_
  refine x_iload (i := 4) (dxL_law_11 3 rfl) rfl ?_
  refine x_iconst (v := 2) (dxL_law_11 4 rfl) rfl ?_
  refine x_iadd (dxL_law_11 5 rfl) ?_
  refine x_sc (j := 2) rfl (by decide) ha hg (dxL_law_11 6 rfl) ?_
  refine x_aload_n (i := 0) (dxL_law_11 7 rfl) rfl rfl ?_
  refine x_iload (i := 4) (dxL_law_11 8 rfl) rfl ?_
  refine x_iconst (v := 3) (dxL_law_11 9 rfl) rfl ?_
  refine x_iadd (dxL_law_11 10 rfl) ?_
  refine x_sc (j := 3) rfl (by decide) ha hg (dxL_law_11 11 rfl) ?_
  refine cl_L_81 (kd_179 hLs1) (Nat.le_of_ble_eq_true rfl) (dxL_law_11 12 rfl) h (fun v4 s3 h => ?_) hk hn
  obtain ⟨hFs3, h⟩ := h
  have hKs3 : kd s3 = kd σ := hFs3.1.trans hKs1
  have hLs3 : Lay s3 := hFs3.2
  obtain ⟨he, h⟩ := h
  refine x_icmp_eq (tgt := 1043) (dxL_law_11 13 rfl) (by decide) (fun hc => ?_) (fun hc => absurd he hc)
  exact h
theorem vL_13 {g : GV} {Z : ZC} {d mc ms k n a : Nat} {σ : PS} (hL : Lay σ) (hk : k ≤ mc) (hn : n ≤ ms) (ha : a + 7 ≤ gL g) (hg : gL g < 2147483648) (h : CX11_same g d [.ref 10, .int ((gx g (a + 1))), .int ((gx g (a + 2)))] σ (fun (v2 : Int32) (s1 : PS) => FrL σ s1 ∧ CX12_same g d [.ref 179, .int ((gx g (a + 1))), .int ((gx g (a + 2)))] s1 (fun (v4 : Int32) (s3 : PS) => FrL s1 s3 ∧ v2 = v4 ∧ VL g Z (d + 1) mc ms k n 1043 [some (.ref 0), some (.ref 10), some (.ref 179), some (.ref 234), some (.int ((nI a))), none, none] [] s3))) : VL g Z (d + 1) mc ms k n 631 [some (.ref 0), some (.ref 10), some (.ref 179), some (.ref 234), some (.int ((nI a))), none, none] [] σ := by
  refine x_aload_n (i := 1) (dxL_law_11 16 rfl) rfl rfl ?_
  refine x_aload_n (i := 0) (dxL_law_11 17 rfl) rfl rfl ?_
  refine x_iload (i := 4) (dxL_law_11 18 rfl) rfl ?_
  refine x_iconst (v := 1) (dxL_law_11 19 rfl) rfl ?_
  refine x_iadd (dxL_law_11 20 rfl) ?_
  refine x_sc (j := 1) rfl (by decide) ha hg (dxL_law_11 21 rfl) ?_
  refine x_aload_n (i := 0) (dxL_law_11 22 rfl) rfl rfl ?_
  refine x_iload (i := 4) (dxL_law_11 23 rfl) rfl ?_
  refine x_iconst (v := 2) (dxL_law_11 24 rfl) rfl ?_
  refine x_iadd (dxL_law_11 25 rfl) ?_
  refine x_sc (j := 2) rfl (by decide) ha hg (dxL_law_11 26 rfl) ?_
  refine cl_L_82 (kd_10 hL) (Nat.le_of_ble_eq_true rfl) (dxL_law_11 27 rfl) h (fun v2 s1 h => ?_) hk hn
  obtain ⟨hFs1, h⟩ := h
  have hKs1 : kd s1 = kd σ := hFs1.1.trans (rfl : kd σ = kd σ)
  have hLs1 : Lay s1 := hFs1.2
  refine x_aload_n (i := 2) (dxL_law_11 28 rfl) rfl rfl ?_
  refine x_aload_n (i := 0) (dxL_law_11 29 rfl) rfl rfl ?_
  refine x_iload (i := 4) (dxL_law_11 30 rfl) rfl ?_
  refine x_iconst (v := 1) (dxL_law_11 31 rfl) rfl ?_
  refine x_iadd (dxL_law_12 0 rfl) ?_
  refine x_sc (j := 1) rfl (by decide) ha hg (dxL_law_12 1 rfl) ?_
  refine x_aload_n (i := 0) (dxL_law_12 2 rfl) rfl rfl ?_
  refine x_iload (i := 4) (dxL_law_12 3 rfl) rfl ?_
  refine x_iconst (v := 2) (dxL_law_12 4 rfl) rfl ?_
  refine x_iadd (dxL_law_12 5 rfl) ?_
  refine x_sc (j := 2) rfl (by decide) ha hg (dxL_law_12 6 rfl) ?_
  refine cl_L_85 (kd_179 hLs1) (Nat.le_of_ble_eq_true rfl) (dxL_law_12 7 rfl) h (fun v4 s3 h => ?_) hk hn
  obtain ⟨hFs3, h⟩ := h
  have hKs3 : kd s3 = kd σ := hFs3.1.trans hKs1
  have hLs3 : Lay s3 := hFs3.2
  obtain ⟨he, h⟩ := h
  refine x_icmp_eq (tgt := 1043) (dxL_law_12 8 rfl) (by decide) (fun hc => ?_) (fun hc => absurd he hc)
  exact h
theorem vL_14 {g : GV} {Z : ZC} {d mc ms k n a : Nat} {σ : PS} (hL : Lay σ) (hk : k ≤ mc) (hn : n ≤ ms) (ha : a + 7 ≤ gL g) (hg : gL g < 2147483648) (h : CX11_bodyOf g d [.ref 10, .int ((gx g (a + 1)))] σ (fun (v2 : Int32) (s1 : PS) => FrL σ s1 ∧ CX12_bodyOf g d [.ref 179, .int ((gx g (a + 1)))] s1 (fun (v4 : Int32) (s3 : PS) => FrL s1 s3 ∧ v2 = v4 ∧ VL g Z (d + 1) mc ms k n 1043 [some (.ref 0), some (.ref 10), some (.ref 179), some (.ref 234), some (.int ((nI a))), none, none] [] s3))) : VL g Z (d + 1) mc ms k n 668 [some (.ref 0), some (.ref 10), some (.ref 179), some (.ref 234), some (.int ((nI a))), none, none] [] σ := by
  refine x_aload_n (i := 1) (dxL_law_12 11 rfl) rfl rfl ?_
  refine x_aload_n (i := 0) (dxL_law_12 12 rfl) rfl rfl ?_
  refine x_iload (i := 4) (dxL_law_12 13 rfl) rfl ?_
  refine x_iconst (v := 1) (dxL_law_12 14 rfl) rfl ?_
  refine x_iadd (dxL_law_12 15 rfl) ?_
  refine x_sc (j := 1) rfl (by decide) ha hg (dxL_law_12 16 rfl) ?_
  refine cl_L_86 (kd_10 hL) (Nat.le_of_ble_eq_true rfl) (dxL_law_12 17 rfl) h (fun v2 s1 h => ?_) hk hn
  obtain ⟨hFs1, h⟩ := h
  have hKs1 : kd s1 = kd σ := hFs1.1.trans (rfl : kd σ = kd σ)
  have hLs1 : Lay s1 := hFs1.2
  refine x_aload_n (i := 2) (dxL_law_12 18 rfl) rfl rfl ?_
  refine x_aload_n (i := 0) (dxL_law_12 19 rfl) rfl rfl ?_
  refine x_iload (i := 4) (dxL_law_12 20 rfl) rfl ?_
  refine x_iconst (v := 1) (dxL_law_12 21 rfl) rfl ?_
  refine x_iadd (dxL_law_12 22 rfl) ?_
  refine x_sc (j := 1) rfl (by decide) ha hg (dxL_law_12 23 rfl) ?_
  refine cl_L_89 (kd_179 hLs1) (Nat.le_of_ble_eq_true rfl) (dxL_law_12 24 rfl) h (fun v4 s3 h => ?_) hk hn
  obtain ⟨hFs3, h⟩ := h
  have hKs3 : kd s3 = kd σ := hFs3.1.trans hKs1
  have hLs3 : Lay s3 := hFs3.2
  obtain ⟨he, h⟩ := h
  refine x_icmp_eq (tgt := 1043) (dxL_law_12 25 rfl) (by decide) (fun hc => ?_) (fun hc => absurd he hc)
  exact h
theorem vL_15 {g : GV} {Z : ZC} {d mc ms k n a : Nat} {σ : PS} (hL : Lay σ) (hk : k ≤ mc) (hn : n ≤ ms) (ha : a + 7 ≤ gL g) (hg : gL g < 2147483648) (h : CX11_bodies g d [.ref 10] σ (fun (v2 : Int32) (s1 : PS) => FrL σ s1 ∧ CX12_bodies g d [.ref 179] s1 (fun (v4 : Int32) (s3 : PS) => FrL s1 s3 ∧ v2 = v4 ∧ VL g Z (d + 1) mc ms k n 1043 [some (.ref 0), some (.ref 10), some (.ref 179), some (.ref 234), some (.int ((nI a))), none, none] [] s3))) : VL g Z (d + 1) mc ms k n 693 [some (.ref 0), some (.ref 10), some (.ref 179), some (.ref 234), some (.int ((nI a))), none, none] [] σ := by
  refine x_aload_n (i := 1) (dxL_law_12 28 rfl) rfl rfl ?_
  refine cl_L_90 (kd_10 hL) (Nat.le_of_ble_eq_true rfl) (dxL_law_12 29 rfl) h (fun v2 s1 h => ?_) hk hn
  obtain ⟨hFs1, h⟩ := h
  have hKs1 : kd s1 = kd σ := hFs1.1.trans (rfl : kd σ = kd σ)
  have hLs1 : Lay s1 := hFs1.2
  refine x_aload_n (i := 2) (dxL_law_12 30 rfl) rfl rfl ?_
  refine cl_L_93 (kd_179 hLs1) (Nat.le_of_ble_eq_true rfl) (dxL_law_12 31 rfl) h (fun v4 s3 h => ?_) hk hn
  obtain ⟨hFs3, h⟩ := h
  have hKs3 : kd s3 = kd σ := hFs3.1.trans hKs1
  have hLs3 : Lay s3 := hFs3.2
  obtain ⟨he, h⟩ := h
  refine x_icmp_eq (tgt := 1043) (dxL_law_13 0 rfl) (by decide) (fun hc => ?_) (fun hc => absurd he hc)
  exact h
theorem vL_16 {g : GV} {Z : ZC} {d mc ms k n a : Nat} {σ : PS} (hL : Lay σ) (hk : k ≤ mc) (hn : n ≤ ms) (ha : a + 7 ≤ gL g) (hg : gL g < 2147483648) (h : CX11_way g d [.ref 10, .int ((gx g (a + 1))), .int ((gx g (a + 2))), .int ((gx g (a + 3))), .int ((gx g (a + 4)))] σ (fun (v2 : Int32) (s1 : PS) => FrL σ s1 ∧ CX12_way g d [.ref 179, .int ((gx g (a + 1))), .int ((gx g (a + 2))), .int ((gx g (a + 3))), .int ((gx g (a + 4)))] s1 (fun (v4 : Int32) (s3 : PS) => FrL s1 s3 ∧ v2 = v4 ∧ VL g Z (d + 1) mc ms k n 1043 [some (.ref 0), some (.ref 10), some (.ref 179), some (.ref 234), some (.int ((nI a))), none, none] [] s3))) : VL g Z (d + 1) mc ms k n 706 [some (.ref 0), some (.ref 10), some (.ref 179), some (.ref 234), some (.int ((nI a))), none, none] [] σ := by
  refine x_aload_n (i := 1) (dxL_law_13 3 rfl) rfl rfl ?_
  refine x_aload_n (i := 0) (dxL_law_13 4 rfl) rfl rfl ?_
  refine x_iload (i := 4) (dxL_law_13 5 rfl) rfl ?_
  refine x_iconst (v := 1) (dxL_law_13 6 rfl) rfl ?_
  refine x_iadd (dxL_law_13 7 rfl) ?_
  refine x_sc (j := 1) rfl (by decide) ha hg (dxL_law_13 8 rfl) ?_
  refine x_aload_n (i := 0) (dxL_law_13 9 rfl) rfl rfl ?_
  refine x_iload (i := 4) (dxL_law_13 10 rfl) rfl ?_
  refine x_iconst (v := 2) (dxL_law_13 11 rfl) rfl ?_
  refine x_iadd (dxL_law_13 12 rfl) ?_
  refine x_sc (j := 2) rfl (by decide) ha hg (dxL_law_13 13 rfl) ?_
  refine x_aload_n (i := 0) (dxL_law_13 14 rfl) rfl rfl ?_
  refine x_iload (i := 4) (dxL_law_13 15 rfl) rfl ?_
  refine x_iconst (v := 3) (dxL_law_13 16 rfl) rfl ?_
  refine x_iadd (dxL_law_13 17 rfl) ?_
  refine x_sc (j := 3) rfl (by decide) ha hg (dxL_law_13 18 rfl) ?_
  refine x_aload_n (i := 0) (dxL_law_13 19 rfl) rfl rfl ?_
  refine x_iload (i := 4) (dxL_law_13 20 rfl) rfl ?_
  refine x_iconst (v := 4) (dxL_law_13 21 rfl) rfl ?_
  refine x_iadd (dxL_law_13 22 rfl) ?_
  refine x_sc (j := 4) rfl (by decide) ha hg (dxL_law_13 23 rfl) ?_
  refine cl_L_94 (kd_10 hL) (Nat.le_of_ble_eq_true rfl) (dxL_law_13 24 rfl) h (fun v2 s1 h => ?_) hk hn
  obtain ⟨hFs1, h⟩ := h
  have hKs1 : kd s1 = kd σ := hFs1.1.trans (rfl : kd σ = kd σ)
  have hLs1 : Lay s1 := hFs1.2
  refine x_aload_n (i := 2) (dxL_law_13 25 rfl) rfl rfl ?_
  refine x_aload_n (i := 0) (dxL_law_13 26 rfl) rfl rfl ?_
  refine x_iload (i := 4) (dxL_law_13 27 rfl) rfl ?_
  refine x_iconst (v := 1) (dxL_law_13 28 rfl) rfl ?_
  refine x_iadd (dxL_law_13 29 rfl) ?_
  refine x_sc (j := 1) rfl (by decide) ha hg (dxL_law_13 30 rfl) ?_
  refine x_aload_n (i := 0) (dxL_law_13 31 rfl) rfl rfl ?_
  refine x_iload (i := 4) (dxL_law_14 0 rfl) rfl ?_
  refine x_iconst (v := 2) (dxL_law_14 1 rfl) rfl ?_
  refine x_iadd (dxL_law_14 2 rfl) ?_
  refine x_sc (j := 2) rfl (by decide) ha hg (dxL_law_14 3 rfl) ?_
  refine x_aload_n (i := 0) (dxL_law_14 4 rfl) rfl rfl ?_
  refine x_iload (i := 4) (dxL_law_14 5 rfl) rfl ?_
  refine x_iconst (v := 3) (dxL_law_14 6 rfl) rfl ?_
  refine x_iadd (dxL_law_14 7 rfl) ?_
  refine x_sc (j := 3) rfl (by decide) ha hg (dxL_law_14 8 rfl) ?_
  refine x_aload_n (i := 0) (dxL_law_14 9 rfl) rfl rfl ?_
  refine x_iload (i := 4) (dxL_law_14 10 rfl) rfl ?_
  refine x_iconst (v := 4) (dxL_law_14 11 rfl) rfl ?_
  refine x_iadd (dxL_law_14 12 rfl) ?_
  refine x_sc (j := 4) rfl (by decide) ha hg (dxL_law_14 13 rfl) ?_
  refine cl_L_98 (kd_179 hLs1) (Nat.le_of_ble_eq_true rfl) (dxL_law_14 14 rfl) h (fun v4 s3 h => ?_) hk hn
  obtain ⟨hFs3, h⟩ := h
  have hKs3 : kd s3 = kd σ := hFs3.1.trans hKs1
  have hLs3 : Lay s3 := hFs3.2
  obtain ⟨he, h⟩ := h
  refine x_icmp_eq (tgt := 1043) (dxL_law_14 15 rfl) (by decide) (fun hc => ?_) (fun hc => absurd he hc)
  exact h
theorem vL_17 {g : GV} {Z : ZC} {d mc ms k n a : Nat} {σ : PS} (hL : Lay σ) (hZn : ∀ p e R s m args below meth c Q, Z p e R s m args below meth c Q → nsW s) (hk : k + 1 ≤ mc) (hn : n + 6 ≤ ms) (ha : a + 7 ≤ gL g) (hg : gL g < 2147483648) (h : CtW g yL_shortest cL_shortest 6 (some FieldType.int) hhS d 1 6 [.ref 10, .int ((gx g (a + 1))), .int ((gx g (a + 2))), .int ((gx g (a + 3))), .ref 234] σ (PI (fun (v1 : Int32) (s2 : PS) => Lay s2 ∧ kd s2 234 = some (.inr (1, 1)) ∧ CX12_shortest g d [.ref 179, .int ((gx g (a + 1))), .int ((gx g (a + 2))), .int ((gx g (a + 3)))] s2 (fun (v4 : Int32) (s3 : PS) => FrL s2 s3 ∧ CX12_thrown g d [.ref 179] s3 (fun (v6 : Int32) (s5 : PS) => FrL s3 s5 ∧ v6 = v1 ∧ (¬ v1 = 0 → VL g Z (d + 1) mc ms (k + 1) (n + 6) 1043 [some (.ref 0), some (.ref 10), some (.ref 179), some (.ref 234), some (.int ((nI a))), none, none] [] s5) ∧ (v1 = 0 → (lg_cmp (ml s5 234 (Int32.toNatClampNeg 0)) (Int32.toInt64 v4)) = 0 ∧ VL g Z (d + 1) mc ms (k + 1) (n + 6) 1043 [some (.ref 0), some (.ref 10), some (.ref 179), some (.ref 234), some (.int ((nI a))), none, none] [] s5)))))) : VL g Z (d + 1) mc ms k n 767 [some (.ref 0), some (.ref 10), some (.ref 179), some (.ref 234), some (.int ((nI a))), none, none] [] σ := by
  refine x_aload_n (i := 1) (dxL_law_14 18 rfl) rfl rfl ?_
  refine x_aload_n (i := 0) (dxL_law_14 19 rfl) rfl rfl ?_
  refine x_iload (i := 4) (dxL_law_14 20 rfl) rfl ?_
  refine x_iconst (v := 1) (dxL_law_14 21 rfl) rfl ?_
  refine x_iadd (dxL_law_14 22 rfl) ?_
  refine x_sc (j := 1) rfl (by decide) ha hg (dxL_law_14 23 rfl) ?_
  refine x_aload_n (i := 0) (dxL_law_14 24 rfl) rfl rfl ?_
  refine x_iload (i := 4) (dxL_law_14 25 rfl) rfl ?_
  refine x_iconst (v := 2) (dxL_law_14 26 rfl) rfl ?_
  refine x_iadd (dxL_law_14 27 rfl) ?_
  refine x_sc (j := 2) rfl (by decide) ha hg (dxL_law_14 28 rfl) ?_
  refine x_aload_n (i := 0) (dxL_law_14 29 rfl) rfl rfl ?_
  refine x_iload (i := 4) (dxL_law_14 30 rfl) rfl ?_
  refine x_iconst (v := 3) (dxL_law_14 31 rfl) rfl ?_
  refine x_iadd (dxL_law_15 0 rfl) ?_
  refine x_sc (j := 3) rfl (by decide) ha hg (dxL_law_15 1 rfl) ?_
  refine x_aload_n (i := 3) (dxL_law_15 2 rfl) rfl rfl ?_
  refine x_callSW (As := [.ref 10, .int ((gx g (a + 1))), .int ((gx g (a + 2))), .int ((gx g (a + 3))), .ref 234]) (hh := hhS) hZn (dxL_law_15 3 rfl) gl_1114 gl_1115 gl_102 gl_1116 pdL_shortest (Nat.le_of_ble_eq_true rfl) (Nat.le_of_ble_eq_true rfl) hk hn rfl h (fun r s2 hr => ?_)
  obtain ⟨v1, rfl, h⟩ := hr
  obtain ⟨hLs2, hOs2, h⟩ := h
  refine x_istore (dxL_law_15 4 rfl) (Nat.le_of_ble_eq_true rfl) rfl rfl ?_
  refine x_aload_n (i := 2) (dxL_law_15 5 rfl) rfl rfl ?_
  refine x_aload_n (i := 0) (dxL_law_15 6 rfl) rfl rfl ?_
  refine x_iload (i := 4) (dxL_law_15 7 rfl) rfl ?_
  refine x_iconst (v := 1) (dxL_law_15 8 rfl) rfl ?_
  refine x_iadd (dxL_law_15 9 rfl) ?_
  refine x_sc (j := 1) rfl (by decide) ha hg (dxL_law_15 10 rfl) ?_
  refine x_aload_n (i := 0) (dxL_law_15 11 rfl) rfl rfl ?_
  refine x_iload (i := 4) (dxL_law_15 12 rfl) rfl ?_
  refine x_iconst (v := 2) (dxL_law_15 13 rfl) rfl ?_
  refine x_iadd (dxL_law_15 14 rfl) ?_
  refine x_sc (j := 2) rfl (by decide) ha hg (dxL_law_15 15 rfl) ?_
  refine x_aload_n (i := 0) (dxL_law_15 16 rfl) rfl rfl ?_
  refine x_iload (i := 4) (dxL_law_15 17 rfl) rfl ?_
  refine x_iconst (v := 3) (dxL_law_15 18 rfl) rfl ?_
  refine x_iadd (dxL_law_15 19 rfl) ?_
  refine x_sc (j := 3) rfl (by decide) ha hg (dxL_law_15 20 rfl) ?_
  refine cl_L_104 (kd_179 hLs2) (Nat.le_of_ble_eq_true rfl) (dxL_law_15 21 rfl) h (fun v4 s3 h => ?_) hk hn
  obtain ⟨hFs3, h⟩ := h
  have hKs3 : kd s3 = kd s2 := hFs3.1.trans (rfl : kd s2 = kd s2)
  have hLs3 : Lay s3 := hFs3.2
  refine x_istore (dxL_law_15 22 rfl) (Nat.le_of_ble_eq_true rfl) rfl rfl ?_
  refine x_aload_n (i := 2) (dxL_law_15 23 rfl) rfl rfl ?_
  refine cl_L_105 (kd_179 hLs3) (Nat.le_of_ble_eq_true rfl) (dxL_law_15 24 rfl) h (fun v6 s5 h => ?_) hk hn
  obtain ⟨hFs5, h⟩ := h
  have hKs5 : kd s5 = kd s2 := hFs5.1.trans hKs3
  have hLs5 : Lay s5 := hFs5.2
  refine x_iload (dxL_law_15 25 rfl) rfl ?_
  obtain ⟨he, h⟩ := h
  refine x_icmp_eq (tgt := 827) (dxL_law_15 26 rfl) (by decide) (fun hc => ?_) (fun hc => absurd he hc)
  refine x_iload (dxL_law_15 29 rfl) rfl ?_
  refine x_if_ne (tgt := 844) (dxL_law_15 30 rfl) (by decide) (fun hc => ?_) (fun hc => ?_)
  · replace h := h.1 hc
    refine x_goto (tgt := 1043) (dxL_law_16 8 rfl) (by decide) ?_
    refine x_mask [true, true, true, true, true, false, false] (L1 := [some (.ref 0), some (.ref 10), some (.ref 179), some (.ref 234), some (.int ((nI a))), none, none]) rfl ?_
    exact h
  · replace h := h.2 hc
    refine x_aload_n (i := 3) (dxL_law_15 31 rfl) rfl rfl ?_
    refine x_iconst (v := 0) (dxL_law_16 0 rfl) rfl ?_
    refine x_lald ((congrFun hKs5 _).trans hOs2) (vpl 1 0 rfl) (dxL_law_16 1 rfl) ?_
    refine x_iload (dxL_law_16 2 rfl) rfl ?_
    refine x_i2l (dxL_law_16 3 rfl) ?_
    refine x_lcmp (dxL_law_16 4 rfl) ?_
    obtain ⟨he, h⟩ := h
    refine x_if_eq (tgt := 844) (dxL_law_16 5 rfl) (by decide) (fun hc => ?_) (fun hc => absurd he hc)
    refine x_goto (tgt := 1043) (dxL_law_16 8 rfl) (by decide) ?_
    refine x_mask [true, true, true, true, true, false, false] (L1 := [some (.ref 0), some (.ref 10), some (.ref 179), some (.ref 234), some (.int ((nI a))), none, none]) rfl ?_
    exact h
theorem vL_18 {g : GV} {Z : ZC} {d mc ms k n a : Nat} {σ : PS} (hL : Lay σ) (hZn : ∀ p e R s m args below meth c Q, Z p e R s m args below meth c Q → nsW s) (hk : k + 1 ≤ mc) (hn : n + 6 ≤ ms) (ha : a + 7 ≤ gL g) (hg : gL g < 2147483648) (h : CtW g yL_round cL_round 5 (some FieldType.int) hhR d 1 6 [.ref 10, .int ((gx g (a + 1))), .int ((gx g (a + 2))), .ref 234] σ (PI (fun (v1 : Int32) (s2 : PS) => Lay s2 ∧ kd s2 234 = some (.inr (1, 1)) ∧ CX12_round g d [.ref 179, .int ((gx g (a + 1))), .int ((gx g (a + 2)))] s2 (fun (v4 : Int32) (s3 : PS) => FrL s2 s3 ∧ CX12_thrown g d [.ref 179] s3 (fun (v6 : Int32) (s5 : PS) => FrL s3 s5 ∧ v6 = v1 ∧ (¬ v1 = 0 → VL g Z (d + 1) mc ms (k + 1) (n + 6) 1043 [some (.ref 0), some (.ref 10), some (.ref 179), some (.ref 234), some (.int ((nI a))), none, none] [] s5) ∧ (v1 = 0 → (lg_cmp (ml s5 234 (Int32.toNatClampNeg 0)) (Int32.toInt64 v4)) = 0 ∧ VL g Z (d + 1) mc ms (k + 1) (n + 6) 1043 [some (.ref 0), some (.ref 10), some (.ref 179), some (.ref 234), some (.int ((nI a))), none, none] [] s5)))))) : VL g Z (d + 1) mc ms k n 847 [some (.ref 0), some (.ref 10), some (.ref 179), some (.ref 234), some (.int ((nI a))), none, none] [] σ := by
  refine x_aload_n (i := 1) (dxL_law_16 9 rfl) rfl rfl ?_
  refine x_aload_n (i := 0) (dxL_law_16 10 rfl) rfl rfl ?_
  refine x_iload (i := 4) (dxL_law_16 11 rfl) rfl ?_
  refine x_iconst (v := 1) (dxL_law_16 12 rfl) rfl ?_
  refine x_iadd (dxL_law_16 13 rfl) ?_
  refine x_sc (j := 1) rfl (by decide) ha hg (dxL_law_16 14 rfl) ?_
  refine x_aload_n (i := 0) (dxL_law_16 15 rfl) rfl rfl ?_
  refine x_iload (i := 4) (dxL_law_16 16 rfl) rfl ?_
  refine x_iconst (v := 2) (dxL_law_16 17 rfl) rfl ?_
  refine x_iadd (dxL_law_16 18 rfl) ?_
  refine x_sc (j := 2) rfl (by decide) ha hg (dxL_law_16 19 rfl) ?_
  refine x_aload_n (i := 3) (dxL_law_16 20 rfl) rfl rfl ?_
  refine x_callSW (As := [.ref 10, .int ((gx g (a + 1))), .int ((gx g (a + 2))), .ref 234]) (hh := hhR) hZn (dxL_law_16 21 rfl) gl_1192 gl_1193 gl_102 gl_1194 pdL_round (Nat.le_of_ble_eq_true rfl) (Nat.le_of_ble_eq_true rfl) hk hn rfl h (fun r s2 hr => ?_)
  obtain ⟨v1, rfl, h⟩ := hr
  obtain ⟨hLs2, hOs2, h⟩ := h
  refine x_istore (dxL_law_16 22 rfl) (Nat.le_of_ble_eq_true rfl) rfl rfl ?_
  refine x_aload_n (i := 2) (dxL_law_16 23 rfl) rfl rfl ?_
  refine x_aload_n (i := 0) (dxL_law_16 24 rfl) rfl rfl ?_
  refine x_iload (i := 4) (dxL_law_16 25 rfl) rfl ?_
  refine x_iconst (v := 1) (dxL_law_16 26 rfl) rfl ?_
  refine x_iadd (dxL_law_16 27 rfl) ?_
  refine x_sc (j := 1) rfl (by decide) ha hg (dxL_law_16 28 rfl) ?_
  refine x_aload_n (i := 0) (dxL_law_16 29 rfl) rfl rfl ?_
  refine x_iload (i := 4) (dxL_law_16 30 rfl) rfl ?_
  refine x_iconst (v := 2) (dxL_law_16 31 rfl) rfl ?_
  refine x_iadd (dxL_law_17 0 rfl) ?_
  refine x_sc (j := 2) rfl (by decide) ha hg (dxL_law_17 1 rfl) ?_
  refine cl_L_111 (kd_179 hLs2) (Nat.le_of_ble_eq_true rfl) (dxL_law_17 2 rfl) h (fun v4 s3 h => ?_) hk hn
  obtain ⟨hFs3, h⟩ := h
  have hKs3 : kd s3 = kd s2 := hFs3.1.trans (rfl : kd s2 = kd s2)
  have hLs3 : Lay s3 := hFs3.2
  refine x_istore (dxL_law_17 3 rfl) (Nat.le_of_ble_eq_true rfl) rfl rfl ?_
  refine x_aload_n (i := 2) (dxL_law_17 4 rfl) rfl rfl ?_
  refine cl_L_105 (kd_179 hLs3) (Nat.le_of_ble_eq_true rfl) (dxL_law_17 5 rfl) h (fun v6 s5 h => ?_) hk hn
  obtain ⟨hFs5, h⟩ := h
  have hKs5 : kd s5 = kd s2 := hFs5.1.trans hKs3
  have hLs5 : Lay s5 := hFs5.2
  refine x_iload (dxL_law_17 6 rfl) rfl ?_
  obtain ⟨he, h⟩ := h
  refine x_icmp_eq (tgt := 895) (dxL_law_17 7 rfl) (by decide) (fun hc => ?_) (fun hc => absurd he hc)
  refine x_iload (dxL_law_17 10 rfl) rfl ?_
  refine x_if_ne (tgt := 912) (dxL_law_17 11 rfl) (by decide) (fun hc => ?_) (fun hc => ?_)
  · replace h := h.1 hc
    refine x_goto (tgt := 1043) (dxL_law_17 21 rfl) (by decide) ?_
    refine x_mask [true, true, true, true, true, false, false] (L1 := [some (.ref 0), some (.ref 10), some (.ref 179), some (.ref 234), some (.int ((nI a))), none, none]) rfl ?_
    exact h
  · replace h := h.2 hc
    refine x_aload_n (i := 3) (dxL_law_17 12 rfl) rfl rfl ?_
    refine x_iconst (v := 0) (dxL_law_17 13 rfl) rfl ?_
    refine x_lald ((congrFun hKs5 _).trans hOs2) (vpl 1 0 rfl) (dxL_law_17 14 rfl) ?_
    refine x_iload (dxL_law_17 15 rfl) rfl ?_
    refine x_i2l (dxL_law_17 16 rfl) ?_
    refine x_lcmp (dxL_law_17 17 rfl) ?_
    obtain ⟨he, h⟩ := h
    refine x_if_eq (tgt := 912) (dxL_law_17 18 rfl) (by decide) (fun hc => ?_) (fun hc => absurd he hc)
    refine x_goto (tgt := 1043) (dxL_law_17 21 rfl) (by decide) ?_
    refine x_mask [true, true, true, true, true, false, false] (L1 := [some (.ref 0), some (.ref 10), some (.ref 179), some (.ref 234), some (.int ((nI a))), none, none]) rfl ?_
    exact h
theorem vL_19 {g : GV} {Z : ZC} {d mc ms k n a : Nat} {σ : PS} (hL : Lay σ) (hk : k ≤ mc) (hn : n ≤ ms) (ha : a + 7 ≤ gL g) (hg : gL g < 2147483648) (h : CX11_farthest g d [.ref 10, .int ((gx g (a + 1)))] σ (fun (v2 : Int32) (s1 : PS) => FrL σ s1 ∧ CX12_farthest g d [.ref 179, .int ((gx g (a + 1)))] s1 (fun (v4 : Int32) (s3 : PS) => FrL s1 s3 ∧ v2 = v4 ∧ VL g Z (d + 1) mc ms k n 1043 [some (.ref 0), some (.ref 10), some (.ref 179), some (.ref 234), some (.int ((nI a))), none, none] [] s3))) : VL g Z (d + 1) mc ms k n 915 [some (.ref 0), some (.ref 10), some (.ref 179), some (.ref 234), some (.int ((nI a))), none, none] [] σ := by
  refine x_aload_n (i := 1) (dxL_law_17 22 rfl) rfl rfl ?_
  refine x_aload_n (i := 0) (dxL_law_17 23 rfl) rfl rfl ?_
  refine x_iload (i := 4) (dxL_law_17 24 rfl) rfl ?_
  refine x_iconst (v := 1) (dxL_law_17 25 rfl) rfl ?_
  refine x_iadd (dxL_law_17 26 rfl) ?_
  refine x_sc (j := 1) rfl (by decide) ha hg (dxL_law_17 27 rfl) ?_
  refine cl_L_112 (kd_10 hL) (Nat.le_of_ble_eq_true rfl) (dxL_law_17 28 rfl) h (fun v2 s1 h => ?_) hk hn
  obtain ⟨hFs1, h⟩ := h
  have hKs1 : kd s1 = kd σ := hFs1.1.trans (rfl : kd σ = kd σ)
  have hLs1 : Lay s1 := hFs1.2
  refine x_aload_n (i := 2) (dxL_law_17 29 rfl) rfl rfl ?_
  refine x_aload_n (i := 0) (dxL_law_17 30 rfl) rfl rfl ?_
  refine x_iload (i := 4) (dxL_law_17 31 rfl) rfl ?_
  refine x_iconst (v := 1) (dxL_law_18 0 rfl) rfl ?_
  refine x_iadd (dxL_law_18 1 rfl) ?_
  refine x_sc (j := 1) rfl (by decide) ha hg (dxL_law_18 2 rfl) ?_
  refine cl_L_115 (kd_179 hLs1) (Nat.le_of_ble_eq_true rfl) (dxL_law_18 3 rfl) h (fun v4 s3 h => ?_) hk hn
  obtain ⟨hFs3, h⟩ := h
  have hKs3 : kd s3 = kd σ := hFs3.1.trans hKs1
  have hLs3 : Lay s3 := hFs3.2
  obtain ⟨he, h⟩ := h
  refine x_icmp_eq (tgt := 1043) (dxL_law_18 4 rfl) (by decide) (fun hc => ?_) (fun hc => absurd he hc)
  exact h
theorem vL_20 {g : GV} {Z : ZC} {d mc ms k n a : Nat} {σ : PS} (hL : Lay σ) (hk : k ≤ mc) (hn : n ≤ ms) (ha : a + 7 ≤ gL g) (hg : gL g < 2147483648) (h : CX11_nets g d [.ref 10, .int ((gx g (a + 1)))] σ (fun (v2 : Int32) (s1 : PS) => FrL σ s1 ∧ CX12_nets g d [.ref 179, .int ((gx g (a + 1)))] s1 (fun (v4 : Int32) (s3 : PS) => FrL s1 s3 ∧ v2 = v4 ∧ VL g Z (d + 1) mc ms k n 1043 [some (.ref 0), some (.ref 10), some (.ref 179), some (.ref 234), some (.int ((nI a))), none, none] [] s3))) : VL g Z (d + 1) mc ms k n 940 [some (.ref 0), some (.ref 10), some (.ref 179), some (.ref 234), some (.int ((nI a))), none, none] [] σ := by
  refine x_aload_n (i := 1) (dxL_law_18 7 rfl) rfl rfl ?_
  refine x_aload_n (i := 0) (dxL_law_18 8 rfl) rfl rfl ?_
  refine x_iload (i := 4) (dxL_law_18 9 rfl) rfl ?_
  refine x_iconst (v := 1) (dxL_law_18 10 rfl) rfl ?_
  refine x_iadd (dxL_law_18 11 rfl) ?_
  refine x_sc (j := 1) rfl (by decide) ha hg (dxL_law_18 12 rfl) ?_
  refine cl_L_116 (kd_10 hL) (Nat.le_of_ble_eq_true rfl) (dxL_law_18 13 rfl) h (fun v2 s1 h => ?_) hk hn
  obtain ⟨hFs1, h⟩ := h
  have hKs1 : kd s1 = kd σ := hFs1.1.trans (rfl : kd σ = kd σ)
  have hLs1 : Lay s1 := hFs1.2
  refine x_aload_n (i := 2) (dxL_law_18 14 rfl) rfl rfl ?_
  refine x_aload_n (i := 0) (dxL_law_18 15 rfl) rfl rfl ?_
  refine x_iload (i := 4) (dxL_law_18 16 rfl) rfl ?_
  refine x_iconst (v := 1) (dxL_law_18 17 rfl) rfl ?_
  refine x_iadd (dxL_law_18 18 rfl) ?_
  refine x_sc (j := 1) rfl (by decide) ha hg (dxL_law_18 19 rfl) ?_
  refine cl_L_119 (kd_179 hLs1) (Nat.le_of_ble_eq_true rfl) (dxL_law_18 20 rfl) h (fun v4 s3 h => ?_) hk hn
  obtain ⟨hFs3, h⟩ := h
  have hKs3 : kd s3 = kd σ := hFs3.1.trans hKs1
  have hLs3 : Lay s3 := hFs3.2
  obtain ⟨he, h⟩ := h
  refine x_icmp_eq (tgt := 1043) (dxL_law_18 21 rfl) (by decide) (fun hc => ?_) (fun hc => absurd he hc)
  exact h
theorem vL_21 {g : GV} {Z : ZC} {d mc ms k n a : Nat} {σ : PS} (hL : Lay σ) (hk : k ≤ mc) (hn : n ≤ ms) (ha : a + 7 ≤ gL g) (hg : gL g < 2147483648) (h : ((gx g (a + 2)) = 0 → CX11_mark g d [.ref 10, .int ((gx g (a + 1))), .int 0] σ (fun (v2 : Int32) (s1 : PS) => FrL σ s1 ∧ ((gx g (a + 2)) = 0 → CX12_mark g d [.ref 179, .int ((gx g (a + 1))), .int 0] s1 (fun (v4 : Int32) (s3 : PS) => FrL s1 s3 ∧ v2 = v4 ∧ VL g Z (d + 1) mc ms k n 1043 [some (.ref 0), some (.ref 10), some (.ref 179), some (.ref 234), some (.int ((nI a))), none, none] [] s3)) ∧ (¬ (gx g (a + 2)) = 0 → CX12_mark g d [.ref 179, .int ((gx g (a + 1))), .int 1] s1 (fun (v6 : Int32) (s5 : PS) => FrL s1 s5 ∧ v2 = v6 ∧ VL g Z (d + 1) mc ms k n 1043 [some (.ref 0), some (.ref 10), some (.ref 179), some (.ref 234), some (.int ((nI a))), none, none] [] s5)))) ∧ (¬ (gx g (a + 2)) = 0 → CX11_mark g d [.ref 10, .int ((gx g (a + 1))), .int 1] σ (fun (v8 : Int32) (s7 : PS) => FrL σ s7 ∧ ((gx g (a + 2)) = 0 → CX12_mark g d [.ref 179, .int ((gx g (a + 1))), .int 0] s7 (fun (v10 : Int32) (s9 : PS) => FrL s7 s9 ∧ v8 = v10 ∧ VL g Z (d + 1) mc ms k n 1043 [some (.ref 0), some (.ref 10), some (.ref 179), some (.ref 234), some (.int ((nI a))), none, none] [] s9)) ∧ (¬ (gx g (a + 2)) = 0 → CX12_mark g d [.ref 179, .int ((gx g (a + 1))), .int 1] s7 (fun (v12 : Int32) (s11 : PS) => FrL s7 s11 ∧ v8 = v12 ∧ VL g Z (d + 1) mc ms k n 1043 [some (.ref 0), some (.ref 10), some (.ref 179), some (.ref 234), some (.int ((nI a))), none, none] [] s11))))) : VL g Z (d + 1) mc ms k n 965 [some (.ref 0), some (.ref 10), some (.ref 179), some (.ref 234), some (.int ((nI a))), none, none] [] σ := by
  refine x_aload_n (i := 1) (dxL_law_18 24 rfl) rfl rfl ?_
  refine x_aload_n (i := 0) (dxL_law_18 25 rfl) rfl rfl ?_
  refine x_iload (i := 4) (dxL_law_18 26 rfl) rfl ?_
  refine x_iconst (v := 1) (dxL_law_18 27 rfl) rfl ?_
  refine x_iadd (dxL_law_18 28 rfl) ?_
  refine x_sc (j := 1) rfl (by decide) ha hg (dxL_law_18 29 rfl) ?_
  refine x_aload_n (i := 0) (dxL_law_18 30 rfl) rfl rfl ?_
  refine x_iload (i := 4) (dxL_law_18 31 rfl) rfl ?_
  refine x_iconst (v := 2) (dxL_law_19 0 rfl) rfl ?_
  refine x_iadd (dxL_law_19 1 rfl) ?_
  refine x_sc (j := 2) rfl (by decide) ha hg (dxL_law_19 2 rfl) ?_
  refine x_if_eq (tgt := 985) (dxL_law_19 3 rfl) (by decide) (fun hc => ?_) (fun hc => ?_)
  · replace h := h.1 hc
    refine x_iconst (v := 0) (dxL_law_19 6 rfl) rfl ?_
    refine cl_L_120 (kd_10 hL) (Nat.le_of_ble_eq_true rfl) (dxL_law_19 7 rfl) h (fun v2 s1 h => ?_) hk hn
    obtain ⟨hFs1, h⟩ := h
    have hKs1 : kd s1 = kd σ := hFs1.1.trans (rfl : kd σ = kd σ)
    have hLs1 : Lay s1 := hFs1.2
    refine x_aload_n (i := 2) (dxL_law_19 8 rfl) rfl rfl ?_
    refine x_aload_n (i := 0) (dxL_law_19 9 rfl) rfl rfl ?_
    refine x_iload (i := 4) (dxL_law_19 10 rfl) rfl ?_
    refine x_iconst (v := 1) (dxL_law_19 11 rfl) rfl ?_
    refine x_iadd (dxL_law_19 12 rfl) ?_
    refine x_sc (j := 1) rfl (by decide) ha hg (dxL_law_19 13 rfl) ?_
    refine x_aload_n (i := 0) (dxL_law_19 14 rfl) rfl rfl ?_
    refine x_iload (i := 4) (dxL_law_19 15 rfl) rfl ?_
    refine x_iconst (v := 2) (dxL_law_19 16 rfl) rfl ?_
    refine x_iadd (dxL_law_19 17 rfl) ?_
    refine x_sc (j := 2) rfl (by decide) ha hg (dxL_law_19 18 rfl) ?_
    refine x_if_eq (tgt := 1009) (dxL_law_19 19 rfl) (by decide) (fun hc => ?_) (fun hc => ?_)
    · replace h := h.1 hc
      refine x_iconst (v := 0) (dxL_law_19 22 rfl) rfl ?_
      refine cl_L_124 (kd_179 hLs1) (Nat.le_of_ble_eq_true rfl) (dxL_law_19 23 rfl) h (fun v4 s3 h => ?_) hk hn
      obtain ⟨hFs3, h⟩ := h
      have hKs3 : kd s3 = kd σ := hFs3.1.trans hKs1
      have hLs3 : Lay s3 := hFs3.2
      obtain ⟨he, h⟩ := h
      refine x_icmp_eq (tgt := 1043) (dxL_law_19 24 rfl) (by decide) (fun hc => ?_) (fun hc => absurd he hc)
      exact h
    · replace h := h.2 hc
      refine x_iconst (v := 1) (dxL_law_19 20 rfl) rfl ?_
      refine x_goto (tgt := 1010) (dxL_law_19 21 rfl) (by decide) ?_
      refine cl_L_124 (kd_179 hLs1) (Nat.le_of_ble_eq_true rfl) (dxL_law_19 23 rfl) h (fun v6 s5 h => ?_) hk hn
      obtain ⟨hFs5, h⟩ := h
      have hKs5 : kd s5 = kd σ := hFs5.1.trans hKs1
      have hLs5 : Lay s5 := hFs5.2
      obtain ⟨he, h⟩ := h
      refine x_icmp_eq (tgt := 1043) (dxL_law_19 24 rfl) (by decide) (fun hc => ?_) (fun hc => absurd he hc)
      exact h
  · replace h := h.2 hc
    refine x_iconst (v := 1) (dxL_law_19 4 rfl) rfl ?_
    refine x_goto (tgt := 986) (dxL_law_19 5 rfl) (by decide) ?_
    refine cl_L_120 (kd_10 hL) (Nat.le_of_ble_eq_true rfl) (dxL_law_19 7 rfl) h (fun v8 s7 h => ?_) hk hn
    obtain ⟨hFs7, h⟩ := h
    have hKs7 : kd s7 = kd σ := hFs7.1.trans (rfl : kd σ = kd σ)
    have hLs7 : Lay s7 := hFs7.2
    refine x_aload_n (i := 2) (dxL_law_19 8 rfl) rfl rfl ?_
    refine x_aload_n (i := 0) (dxL_law_19 9 rfl) rfl rfl ?_
    refine x_iload (i := 4) (dxL_law_19 10 rfl) rfl ?_
    refine x_iconst (v := 1) (dxL_law_19 11 rfl) rfl ?_
    refine x_iadd (dxL_law_19 12 rfl) ?_
    refine x_sc (j := 1) rfl (by decide) ha hg (dxL_law_19 13 rfl) ?_
    refine x_aload_n (i := 0) (dxL_law_19 14 rfl) rfl rfl ?_
    refine x_iload (i := 4) (dxL_law_19 15 rfl) rfl ?_
    refine x_iconst (v := 2) (dxL_law_19 16 rfl) rfl ?_
    refine x_iadd (dxL_law_19 17 rfl) ?_
    refine x_sc (j := 2) rfl (by decide) ha hg (dxL_law_19 18 rfl) ?_
    refine x_if_eq (tgt := 1009) (dxL_law_19 19 rfl) (by decide) (fun hc => ?_) (fun hc => ?_)
    · replace h := h.1 hc
      refine x_iconst (v := 0) (dxL_law_19 22 rfl) rfl ?_
      refine cl_L_124 (kd_179 hLs7) (Nat.le_of_ble_eq_true rfl) (dxL_law_19 23 rfl) h (fun v10 s9 h => ?_) hk hn
      obtain ⟨hFs9, h⟩ := h
      have hKs9 : kd s9 = kd σ := hFs9.1.trans hKs7
      have hLs9 : Lay s9 := hFs9.2
      obtain ⟨he, h⟩ := h
      refine x_icmp_eq (tgt := 1043) (dxL_law_19 24 rfl) (by decide) (fun hc => ?_) (fun hc => absurd he hc)
      exact h
    · replace h := h.2 hc
      refine x_iconst (v := 1) (dxL_law_19 20 rfl) rfl ?_
      refine x_goto (tgt := 1010) (dxL_law_19 21 rfl) (by decide) ?_
      refine cl_L_124 (kd_179 hLs7) (Nat.le_of_ble_eq_true rfl) (dxL_law_19 23 rfl) h (fun v12 s11 h => ?_) hk hn
      obtain ⟨hFs11, h⟩ := h
      have hKs11 : kd s11 = kd σ := hFs11.1.trans hKs7
      have hLs11 : Lay s11 := hFs11.2
      obtain ⟨he, h⟩ := h
      refine x_icmp_eq (tgt := 1043) (dxL_law_19 24 rfl) (by decide) (fun hc => ?_) (fun hc => absurd he hc)
      exact h
theorem vL_22 {g : GV} {Z : ZC} {d mc ms k n a : Nat} {σ : PS} (hL : Lay σ) (hk : k ≤ mc) (hn : n ≤ ms) (ha : a + 7 ≤ gL g) (hg : gL g < 2147483648) (h : CX11_count g d [.ref 10, .int ((gx g (a + 1)))] σ (fun (v2 : Int32) (s1 : PS) => FrL σ s1 ∧ CX12_count g d [.ref 179, .int ((gx g (a + 1)))] s1 (fun (v4 : Int32) (s3 : PS) => FrL s1 s3 ∧ v2 = v4 ∧ VL g Z (d + 1) mc ms k n 1043 [some (.ref 0), some (.ref 10), some (.ref 179), some (.ref 234), some (.int ((nI a))), none, none] [] s3))) : VL g Z (d + 1) mc ms k n 1018 [some (.ref 0), some (.ref 10), some (.ref 179), some (.ref 234), some (.int ((nI a))), none, none] [] σ := by
  refine x_aload_n (i := 1) (dxL_law_19 27 rfl) rfl rfl ?_
  refine x_aload_n (i := 0) (dxL_law_19 28 rfl) rfl rfl ?_
  refine x_iload (i := 4) (dxL_law_19 29 rfl) rfl ?_
  refine x_iconst (v := 1) (dxL_law_19 30 rfl) rfl ?_
  refine x_iadd (dxL_law_19 31 rfl) ?_
  refine x_sc (j := 1) rfl (by decide) ha hg (dxL_law_20 0 rfl) ?_
  refine cl_L_125 (kd_10 hL) (Nat.le_of_ble_eq_true rfl) (dxL_law_20 1 rfl) h (fun v2 s1 h => ?_) hk hn
  obtain ⟨hFs1, h⟩ := h
  have hKs1 : kd s1 = kd σ := hFs1.1.trans (rfl : kd σ = kd σ)
  have hLs1 : Lay s1 := hFs1.2
  refine x_aload_n (i := 2) (dxL_law_20 2 rfl) rfl rfl ?_
  refine x_aload_n (i := 0) (dxL_law_20 3 rfl) rfl rfl ?_
  refine x_iload (i := 4) (dxL_law_20 4 rfl) rfl ?_
  refine x_iconst (v := 1) (dxL_law_20 5 rfl) rfl ?_
  refine x_iadd (dxL_law_20 6 rfl) ?_
  refine x_sc (j := 1) rfl (by decide) ha hg (dxL_law_20 7 rfl) ?_
  refine cl_L_128 (kd_179 hLs1) (Nat.le_of_ble_eq_true rfl) (dxL_law_20 8 rfl) h (fun v4 s3 h => ?_) hk hn
  obtain ⟨hFs3, h⟩ := h
  have hKs3 : kd s3 = kd σ := hFs3.1.trans hKs1
  have hLs3 : Lay s3 := hFs3.2
  obtain ⟨he, h⟩ := h
  refine x_icmp_eq (tgt := 1043) (dxL_law_20 9 rfl) (by decide) (fun hc => ?_) (fun hc => absurd he hc)
  exact h
