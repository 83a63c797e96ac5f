theorem vcX12_worked_268 {g : GV} {d : Nat} {P : Int32 → PS → Prop} {σ : PS} (hL : Lay σ) (l1 : Int32) (l2 : Int32) (l3 : Int32) (l5 : Int32) (h : (l2 ≤ 0 → vp_in l2 7 ∧ (¬ (mi σ 197 (Int32.toNatClampNeg l2)) = 0 → vp_in l2 7 ∧ vp_in l2 7 ∧ ∀ s140 : PS, s140 = si σ 196 (Int32.toNatClampNeg l2) ((mi σ 196 (Int32.toNatClampNeg l2)) * l5) → ∀ x142 : Int32, x142 = l3 + 1 → VX12_worked g (d + 1) P 14 [some (.ref 179), some (.int l1), some (.int l2), some (.int x142), none, none] [] s140) ∧ ((mi σ 197 (Int32.toNatClampNeg l2)) = 0 → vp_in l2 7 ∧ ∀ s145 : PS, s145 = si σ 196 (Int32.toNatClampNeg l2) l5 → ∀ x147 : Int32, x147 = l3 + 1 → VX12_worked g (d + 1) P 14 [some (.ref 179), some (.int l1), some (.int l2), some (.int x147), none, none] [] s145)) ∧ (¬ l2 ≤ 0 → vp_in l2 7 ∧ (¬ (mi σ 198 (Int32.toNatClampNeg l2)) = 1 → vp_in l2 7 ∧ (¬ (mi σ 197 (Int32.toNatClampNeg l2)) = 0 → vp_in l2 7 ∧ vp_in l2 7 ∧ ∀ s153 : PS, s153 = si σ 196 (Int32.toNatClampNeg l2) ((mi σ 196 (Int32.toNatClampNeg l2)) * l5) → ∀ x155 : Int32, x155 = l3 + 1 → VX12_worked g (d + 1) P 14 [some (.ref 179), some (.int l1), some (.int l2), some (.int x155), none, none] [] s153) ∧ ((mi σ 197 (Int32.toNatClampNeg l2)) = 0 → vp_in l2 7 ∧ ∀ s158 : PS, s158 = si σ 196 (Int32.toNatClampNeg l2) l5 → ∀ x160 : Int32, x160 = l3 + 1 → VX12_worked g (d + 1) P 14 [some (.ref 179), some (.int l1), some (.int l2), some (.int x160), none, none] [] s158)) ∧ ((mi σ 198 (Int32.toNatClampNeg l2)) = 1 → (¬ l5 = 0 → ∀ x162 : Int32, x162 = l2 + (-1) → VX12_worked g (d + 1) P 268 [some (.ref 179), some (.int l1), some (.int x162), some (.int l3), none, some (.int 0)] [] σ) ∧ (l5 = 0 → ∀ x164 : Int32, x164 = l2 + (-1) → VX12_worked g (d + 1) P 268 [some (.ref 179), some (.int l1), some (.int x164), some (.int l3), none, some (.int 1)] [] σ)))) : VX12_worked g (d + 1) P 268 [some (.ref 179), some (.int l1), some (.int l2), some (.int l3), none, some (.int l5)] [] σ := by
  refine x_iload_n (i := 2) (dxX12_worked_4 15 rfl) rfl rfl ?_
  refine x_if_le (tgt := 300) (dxX12_worked_4 16 rfl) (by decide) (fun hc => ?_) (fun hc => ?_)
  · replace h := h.1 hc
    refine x_aload_n (i := 0) (dxX12_worked_4 31 rfl) rfl rfl ?_
    refine gf_12_59 (kd_179 hL) (rv_179_28 hL) (dxX12_worked_5 0 rfl) ?_
    refine x_iload_n (i := 2) (dxX12_worked_5 1 rfl) rfl rfl ?_
    refine x_aload_n (i := 0) (dxX12_worked_5 2 rfl) rfl rfl ?_
    refine gf_12_62 (kd_179 hL) (rv_179_29 hL) (dxX12_worked_5 3 rfl) ?_
    refine x_iload_n (i := 2) (dxX12_worked_5 4 rfl) rfl rfl ?_
    obtain ⟨hi137, h⟩ := h
    refine x_iald (kd_197 hL) hi137 (dxX12_worked_5 5 rfl) ?_
    refine x_if_ne (tgt := 319) (dxX12_worked_5 6 rfl) (by decide) (fun hc => ?_) (fun hc => ?_)
    · replace h := h.1 hc
      refine x_aload_n (i := 0) (dxX12_worked_5 9 rfl) rfl rfl ?_
      refine gf_12_59 (kd_179 hL) (rv_179_28 hL) (dxX12_worked_5 10 rfl) ?_
      refine x_iload_n (i := 2) (dxX12_worked_5 11 rfl) rfl rfl ?_
      obtain ⟨hi138, h⟩ := h
      refine x_iald (kd_196 hL) hi138 (dxX12_worked_5 12 rfl) ?_
      refine x_iload (dxX12_worked_5 13 rfl) rfl ?_
      refine x_imul (dxX12_worked_5 14 rfl) ?_
      obtain ⟨hi139, h⟩ := h
      refine x_iast (kd_196 hL) hi139 (dxX12_worked_5 15 rfl) ?_
      refine x_sto (fun s140 e141 => ?_)
      replace h := h s140 e141
      have hKs140 : kd s140 = kd σ := by rw [e141]; exact (rfl : kd σ = kd σ)
      have hLs140 : Lay s140 := by rw [e141]; exact hL.si
      obtain ⟨x142, e143⟩ : ∃ y : Int32, y = l3 + 1 := ⟨_, rfl⟩
      replace h := h x142 e143
      refine x_iinc (v := x142) (dxX12_worked_5 16 rfl) (i := 3) rfl (by rw [e143]; rfl) (Nat.le_of_ble_eq_true rfl) rfl rfl ?_
      refine x_goto (tgt := 14) (dxX12_worked_5 17 rfl) (by decide) ?_
      refine x_mask [true, true, true, true, false, false] (L1 := [some (.ref 179), some (.int l1), some (.int l2), some (.int x142), none, none]) rfl ?_
      exact h
    · replace h := h.2 hc
      refine x_iload (dxX12_worked_5 7 rfl) rfl ?_
      refine x_goto (tgt := 328) (dxX12_worked_5 8 rfl) (by decide) ?_
      obtain ⟨hi144, h⟩ := h
      refine x_iast (kd_196 hL) hi144 (dxX12_worked_5 15 rfl) ?_
      refine x_sto (fun s145 e146 => ?_)
      replace h := h s145 e146
      have hKs145 : kd s145 = kd σ := by rw [e146]; exact (rfl : kd σ = kd σ)
      have hLs145 : Lay s145 := by rw [e146]; exact hL.si
      obtain ⟨x147, e148⟩ : ∃ y : Int32, y = l3 + 1 := ⟨_, rfl⟩
      replace h := h x147 e148
      refine x_iinc (v := x147) (dxX12_worked_5 16 rfl) (i := 3) rfl (by rw [e148]; rfl) (Nat.le_of_ble_eq_true rfl) rfl rfl ?_
      refine x_goto (tgt := 14) (dxX12_worked_5 17 rfl) (by decide) ?_
      refine x_mask [true, true, true, true, false, false] (L1 := [some (.ref 179), some (.int l1), some (.int l2), some (.int x147), none, none]) rfl ?_
      exact h
  · replace h := h.2 hc
    refine x_aload_n (i := 0) (dxX12_worked_4 17 rfl) rfl rfl ?_
    refine gf_12_65 (kd_179 hL) (rv_179_30 hL) (dxX12_worked_4 18 rfl) ?_
    refine x_iload_n (i := 2) (dxX12_worked_4 19 rfl) rfl rfl ?_
    obtain ⟨hi149, h⟩ := h
    refine x_iald (kd_198 hL) hi149 (dxX12_worked_4 20 rfl) ?_
    refine x_iconst (v := 1) (dxX12_worked_4 21 rfl) rfl ?_
    refine x_icmp_ne (tgt := 300) (dxX12_worked_4 22 rfl) (by decide) (fun hc => ?_) (fun hc => ?_)
    · replace h := h.1 hc
      refine x_aload_n (i := 0) (dxX12_worked_4 31 rfl) rfl rfl ?_
      refine gf_12_59 (kd_179 hL) (rv_179_28 hL) (dxX12_worked_5 0 rfl) ?_
      refine x_iload_n (i := 2) (dxX12_worked_5 1 rfl) rfl rfl ?_
      refine x_aload_n (i := 0) (dxX12_worked_5 2 rfl) rfl rfl ?_
      refine gf_12_62 (kd_179 hL) (rv_179_29 hL) (dxX12_worked_5 3 rfl) ?_
      refine x_iload_n (i := 2) (dxX12_worked_5 4 rfl) rfl rfl ?_
      obtain ⟨hi150, h⟩ := h
      refine x_iald (kd_197 hL) hi150 (dxX12_worked_5 5 rfl) ?_
      refine x_if_ne (tgt := 319) (dxX12_worked_5 6 rfl) (by decide) (fun hc => ?_) (fun hc => ?_)
      · replace h := h.1 hc
        refine x_aload_n (i := 0) (dxX12_worked_5 9 rfl) rfl rfl ?_
        refine gf_12_59 (kd_179 hL) (rv_179_28 hL) (dxX12_worked_5 10 rfl) ?_
        refine x_iload_n (i := 2) (dxX12_worked_5 11 rfl) rfl rfl ?_
        obtain ⟨hi151, h⟩ := h
        refine x_iald (kd_196 hL) hi151 (dxX12_worked_5 12 rfl) ?_
        refine x_iload (dxX12_worked_5 13 rfl) rfl ?_
        refine x_imul (dxX12_worked_5 14 rfl) ?_
        obtain ⟨hi152, h⟩ := h
        refine x_iast (kd_196 hL) hi152 (dxX12_worked_5 15 rfl) ?_
        refine x_sto (fun s153 e154 => ?_)
        replace h := h s153 e154
        have hKs153 : kd s153 = kd σ := by rw [e154]; exact (rfl : kd σ = kd σ)
        have hLs153 : Lay s153 := by rw [e154]; exact hL.si
        obtain ⟨x155, e156⟩ : ∃ y : Int32, y = l3 + 1 := ⟨_, rfl⟩
        replace h := h x155 e156
        refine x_iinc (v := x155) (dxX12_worked_5 16 rfl) (i := 3) rfl (by rw [e156]; rfl) (Nat.le_of_ble_eq_true rfl) rfl rfl ?_
        refine x_goto (tgt := 14) (dxX12_worked_5 17 rfl) (by decide) ?_
        refine x_mask [true, true, true, true, false, false] (L1 := [some (.ref 179), some (.int l1), some (.int l2), some (.int x155), none, none]) rfl ?_
        exact h
      · replace h := h.2 hc
        refine x_iload (dxX12_worked_5 7 rfl) rfl ?_
        refine x_goto (tgt := 328) (dxX12_worked_5 8 rfl) (by decide) ?_
        obtain ⟨hi157, h⟩ := h
        refine x_iast (kd_196 hL) hi157 (dxX12_worked_5 15 rfl) ?_
        refine x_sto (fun s158 e159 => ?_)
        replace h := h s158 e159
        have hKs158 : kd s158 = kd σ := by rw [e159]; exact (rfl : kd σ = kd σ)
        have hLs158 : Lay s158 := by rw [e159]; exact hL.si
        obtain ⟨x160, e161⟩ : ∃ y : Int32, y = l3 + 1 := ⟨_, rfl⟩
        replace h := h x160 e161
        refine x_iinc (v := x160) (dxX12_worked_5 16 rfl) (i := 3) rfl (by rw [e161]; rfl) (Nat.le_of_ble_eq_true rfl) rfl rfl ?_
        refine x_goto (tgt := 14) (dxX12_worked_5 17 rfl) (by decide) ?_
        refine x_mask [true, true, true, true, false, false] (L1 := [some (.ref 179), some (.int l1), some (.int l2), some (.int x160), none, none]) rfl ?_
        exact h
    · replace h := h.2 hc
      refine x_iload (dxX12_worked_4 23 rfl) rfl ?_
      refine x_if_ne (tgt := 291) (dxX12_worked_4 24 rfl) (by decide) (fun hc => ?_) (fun hc => ?_)
      · replace h := h.1 hc
        refine x_iconst (v := 0) (dxX12_worked_4 27 rfl) rfl ?_
        refine x_istore (dxX12_worked_4 28 rfl) (Nat.le_of_ble_eq_true rfl) rfl rfl ?_
        obtain ⟨x162, e163⟩ : ∃ y : Int32, y = l2 + (-1) := ⟨_, rfl⟩
        replace h := h x162 e163
        refine x_iinc (v := x162) (dxX12_worked_4 29 rfl) (i := 2) rfl (by rw [e163]; rfl) (Nat.le_of_ble_eq_true rfl) rfl rfl ?_
        refine x_goto (tgt := 268) (dxX12_worked_4 30 rfl) (by decide) ?_
        exact h
      · replace h := h.2 hc
        refine x_iconst (v := 1) (dxX12_worked_4 25 rfl) rfl ?_
        refine x_goto (tgt := 292) (dxX12_worked_4 26 rfl) (by decide) ?_
        refine x_istore (dxX12_worked_4 28 rfl) (Nat.le_of_ble_eq_true rfl) rfl rfl ?_
        obtain ⟨x164, e165⟩ : ∃ y : Int32, y = l2 + (-1) := ⟨_, rfl⟩
        replace h := h x164 e165
        refine x_iinc (v := x164) (dxX12_worked_4 29 rfl) (i := 2) rfl (by rw [e165]; rfl) (Nat.le_of_ble_eq_true rfl) rfl rfl ?_
        refine x_goto (tgt := 268) (dxX12_worked_4 30 rfl) (by decide) ?_
        exact h
theorem vcX12_readsE {g : GV} {d : Nat} {P : Int32 → PS → Prop} {σ : PS} (hL : Lay σ) (p0 : Int32) (h : vp_in p0 1200 ∧ ∀ s2 : PS, s2 = si σ 186 (Int32.toNatClampNeg p0) (mi σ 179 21) → VX12_readsE g (d + 1) P 14 [some (.ref 179), some (.int p0), some (.int 0), some (.int 1), none, none] [] s2) : CX12_readsE g (d + 1) [.ref 179, .int p0] σ P := by
  refine x_entry (L := [some (.ref 179), some (.int p0), none, none, none, none]) pn_12 (Nat.le_of_ble_eq_true rfl) ⟨4, rfl⟩ ?_
  show VX12_readsE g (d + 1) P 0 [some (.ref 179), some (.int p0), none, none, none, none] [] σ
  refine x_iconst (v := 0) (dxX12_readsE_0 0 rfl) rfl ?_
  refine x_istore_n (i := 2) (dxX12_readsE_0 1 rfl) rfl (Nat.le_of_ble_eq_true rfl) rfl rfl ?_
  refine x_iconst (v := 1) (dxX12_readsE_0 2 rfl) rfl ?_
  refine x_istore_n (i := 3) (dxX12_readsE_0 3 rfl) rfl (Nat.le_of_ble_eq_true rfl) rfl rfl ?_
  refine x_aload_n (i := 0) (dxX12_readsE_0 4 rfl) rfl rfl ?_
  refine gf_12_28 (kd_179 hL) (rv_179_16 hL) (dxX12_readsE_0 5 rfl) ?_
  refine x_iload_n (i := 1) (dxX12_readsE_0 6 rfl) rfl rfl ?_
  refine x_aload_n (i := 0) (dxX12_readsE_0 7 rfl) rfl rfl ?_
  refine gf_12_222 (kd_179 hL) rfl (dxX12_readsE_0 8 rfl) ?_
  obtain ⟨hi1, h⟩ := h
  refine x_iast (kd_186 hL) hi1 (dxX12_readsE_0 9 rfl) ?_
  refine x_sto (fun s2 e3 => ?_)
  replace h := h s2 e3
  have hKs2 : kd s2 = kd σ := by rw [e3]; exact (rfl : kd σ = kd σ)
  have hLs2 : Lay s2 := by rw [e3]; exact hL.si
  exact h
theorem vcX12_readsE_14 {g : GV} {d : Nat} {P : Int32 → PS → Prop} {σ : PS} (hL : Lay σ) (l1 : Int32) (l2 : Int32) (l3 : Int32) (h : (l3 = 0 → CX12_isSign g d [.ref 179, .int 43] σ (fun (v5 : Int32) (s4 : PS) => Fr σ s4 ∧ (¬ v5 = 0 → CX12_isSign g d [.ref 179, .int 43] s4 (fun (v7 : Int32) (s6 : PS) => Fr s4 s6 ∧ (v7 = 0 → CX12_isSign g d [.ref 179, .int 45] s6 (fun (v9 : Int32) (s8 : PS) => Fr s6 s8 ∧ (v9 = 0 → CX12_puts g d [.ref 179, .int 22] s8 (fun (s10 : PS) => Fr s8 s10 ∧ CX12_nextToken g d [.ref 179] s10 (fun (s12 : PS) => Fr s10 s12 ∧ VX12_readsE g (d + 1) P 14 [some (.ref 179), some (.int l1), some (.int l2), some (.int 1), none, none] [] s12))) ∧ (¬ v9 = 0 → CX12_puts g d [.ref 179, .int 21] s8 (fun (s14 : PS) => Fr s8 s14 ∧ CX12_nextToken g d [.ref 179] s14 (fun (s16 : PS) => Fr s14 s16 ∧ VX12_readsE g (d + 1) P 14 [some (.ref 179), some (.int l1), some (.int l2), some (.int 1), none, none] [] s16))))) ∧ (¬ v7 = 0 → CX12_puts g d [.ref 179, .int 20] s6 (fun (s18 : PS) => Fr s6 s18 ∧ CX12_nextToken g d [.ref 179] s18 (fun (s20 : PS) => Fr s18 s20 ∧ VX12_readsE g (d + 1) P 14 [some (.ref 179), some (.int l1), some (.int l2), some (.int 1), none, none] [] s20))))) ∧ (v5 = 0 → CX12_isSign g d [.ref 179, .int 45] s4 (fun (v23 : Int32) (s22 : PS) => Fr s4 s22 ∧ (¬ v23 = 0 → CX12_isSign g d [.ref 179, .int 43] s22 (fun (v25 : Int32) (s24 : PS) => Fr s22 s24 ∧ (v25 = 0 → CX12_isSign g d [.ref 179, .int 45] s24 (fun (v27 : Int32) (s26 : PS) => Fr s24 s26 ∧ (v27 = 0 → CX12_puts g d [.ref 179, .int 22] s26 (fun (s28 : PS) => Fr s26 s28 ∧ CX12_nextToken g d [.ref 179] s28 (fun (s30 : PS) => Fr s28 s30 ∧ VX12_readsE g (d + 1) P 14 [some (.ref 179), some (.int l1), some (.int l2), some (.int 1), none, none] [] s30))) ∧ (¬ v27 = 0 → CX12_puts g d [.ref 179, .int 21] s26 (fun (s32 : PS) => Fr s26 s32 ∧ CX12_nextToken g d [.ref 179] s32 (fun (s34 : PS) => Fr s32 s34 ∧ VX12_readsE g (d + 1) P 14 [some (.ref 179), some (.int l1), some (.int l2), some (.int 1), none, none] [] s34))))) ∧ (¬ v25 = 0 → CX12_puts g d [.ref 179, .int 20] s24 (fun (s36 : PS) => Fr s24 s36 ∧ CX12_nextToken g d [.ref 179] s36 (fun (s38 : PS) => Fr s36 s38 ∧ VX12_readsE g (d + 1) P 14 [some (.ref 179), some (.int l1), some (.int l2), some (.int 1), none, none] [] s38))))) ∧ (v23 = 0 → CX12_isSign g d [.ref 179, .int 42] s22 (fun (v41 : Int32) (s40 : PS) => Fr s22 s40 ∧ (v41 = 0 → (l2 ≤ 0 → (l2 ≤ 0 → vp_in l1 1200 ∧ ∀ s43 : PS, s43 = si s40 187 (Int32.toNatClampNeg l1) (mi s40 179 21) → P 1 s43) ∧ (¬ l2 ≤ 0 → CX12_fails g d [.ref 179, .int 1] s40 (fun (v46 : Int32) (s45 : PS) => Fr s40 s45 ∧ (v46 = 0 ∨ v46 = 1) ∧ P v46 s45))) ∧ (¬ l2 ≤ 0 → CX12_isSign g d [.ref 179, .int 41] s40 (fun (v49 : Int32) (s48 : PS) => Fr s40 s48 ∧ (v49 = 0 → (l2 ≤ 0 → vp_in l1 1200 ∧ ∀ s51 : PS, s51 = si s48 187 (Int32.toNatClampNeg l1) (mi s48 179 21) → P 1 s51) ∧ (¬ l2 ≤ 0 → CX12_fails g d [.ref 179, .int 1] s48 (fun (v54 : Int32) (s53 : PS) => Fr s48 s53 ∧ (v54 = 0 ∨ v54 = 1) ∧ P v54 s53))) ∧ (¬ v49 = 0 → CX12_puts g d [.ref 179, .int 29] s48 (fun (s56 : PS) => Fr s48 s56 ∧ ∀ x58 : Int32, x58 = l2 + (-1) → CX12_nextToken g d [.ref 179] s56 (fun (s60 : PS) => Fr s56 s60 ∧ VX12_readsE g (d + 1) P 14 [some (.ref 179), some (.int l1), some (.int x58), some (.int l3), none, none] [] s60)))))) ∧ (¬ v41 = 0 → CX12_isSign g d [.ref 179, .int 43] s40 (fun (v63 : Int32) (s62 : PS) => Fr s40 s62 ∧ (v63 = 0 → CX12_isSign g d [.ref 179, .int 45] s62 (fun (v65 : Int32) (s64 : PS) => Fr s62 s64 ∧ (v65 = 0 → CX12_puts g d [.ref 179, .int 22] s64 (fun (s66 : PS) => Fr s64 s66 ∧ CX12_nextToken g d [.ref 179] s66 (fun (s68 : PS) => Fr s66 s68 ∧ VX12_readsE g (d + 1) P 14 [some (.ref 179), some (.int l1), some (.int l2), some (.int 1), none, none] [] s68))) ∧ (¬ v65 = 0 → CX12_puts g d [.ref 179, .int 21] s64 (fun (s70 : PS) => Fr s64 s70 ∧ CX12_nextToken g d [.ref 179] s70 (fun (s72 : PS) => Fr s70 s72 ∧ VX12_readsE g (d + 1) P 14 [some (.ref 179), some (.int l1), some (.int l2), some (.int 1), none, none] [] s72))))) ∧ (¬ v63 = 0 → CX12_puts g d [.ref 179, .int 20] s62 (fun (s74 : PS) => Fr s62 s74 ∧ CX12_nextToken g d [.ref 179] s74 (fun (s76 : PS) => Fr s74 s76 ∧ VX12_readsE g (d + 1) P 14 [some (.ref 179), some (.int l1), some (.int l2), some (.int 1), none, none] [] s76))))))))))) ∧ (¬ l3 = 0 → CX12_isSign g d [.ref 179, .int 40] σ (fun (v79 : Int32) (s78 : PS) => Fr σ s78 ∧ CX12_isKept g d [.ref 179] s78 (fun (v81 : Int32) (s80 : PS) => Fr s78 s80 ∧ (¬ v81 = 0 → (¬ v79 = 0 → VX12_readsE g (d + 1) P 82 [some (.ref 179), some (.int l1), some (.int l2), none, some (.int v79), some (.int 0)] [] s80) ∧ (v79 = 0 → ((mi s80 179 6) = 2 → VX12_readsE g (d + 1) P 82 [some (.ref 179), some (.int l1), some (.int l2), none, some (.int v79), some (.int 0)] [] s80) ∧ (¬ (mi s80 179 6) = 2 → CX12_fails g d [.ref 179, .int 1] s80 (fun (v83 : Int32) (s82 : PS) => Fr s80 s82 ∧ (v83 = 0 ∨ v83 = 1) ∧ P v83 s82)))) ∧ (v81 = 0 → (¬ v79 = 0 → CX12_nameOf g d [.ref 179] s80 (fun (v86 : Int32) (s85 : PS) => Fr s80 s85 ∧ (0 ≤ v86 → VX12_readsE g (d + 1) P 82 [some (.ref 179), some (.int l1), some (.int l2), none, some (.int v79), some (.int 1)] [] s85) ∧ (¬ 0 ≤ v86 → CX12_fails g d [.ref 179, .int 2] s85 (fun (v88 : Int32) (s87 : PS) => Fr s85 s87 ∧ (v88 = 0 ∨ v88 = 1) ∧ P v88 s87)))) ∧ (v79 = 0 → CX12_nameOf g d [.ref 179] s80 (fun (v91 : Int32) (s90 : PS) => Fr s80 s90 ∧ (0 ≤ v91 → VX12_readsE g (d + 1) P 82 [some (.ref 179), some (.int l1), some (.int l2), none, some (.int v79), some (.int 1)] [] s90) ∧ (¬ 0 ≤ v91 → CX12_fails g d [.ref 179, .int 2] s90 (fun (v93 : Int32) (s92 : PS) => Fr s90 s92 ∧ (v93 = 0 ∨ v93 = 1) ∧ P v93 s92))))))))) : VX12_readsE g (d + 1) P 14 [some (.ref 179), some (.int l1), some (.int l2), some (.int l3), none, none] [] σ := by
  refine x_iload_n (i := 3) (dxX12_readsE_0 10 rfl) rfl rfl ?_
  refine x_if_eq (tgt := 142) (dxX12_readsE_0 11 rfl) (by decide) (fun hc => ?_) (fun hc => ?_)
  · replace h := h.1 hc
    refine x_aload_n (i := 0) (dxX12_readsE_2 10 rfl) rfl rfl ?_
    refine x_bipush (v := 43) (dxX12_readsE_2 11 rfl) rfl ?_
    refine cl_12_248 (kd_179 hL) (Nat.le_of_ble_eq_true rfl) (dxX12_readsE_2 12 rfl) h (fun v5 s4 h => ?_) (Nat.le_refl _) (Nat.le_refl _)
    obtain ⟨hFs4, h⟩ := h
    have hKs4 : kd s4 = kd σ := hFs4.1.trans (rfl : kd σ = kd σ)
    have hLs4 : Lay s4 := hL.fr hFs4
    refine x_if_ne (tgt := 169) (dxX12_readsE_2 13 rfl) (by decide) (fun hc => ?_) (fun hc => ?_)
    · replace h := h.1 hc
      refine x_aload_n (i := 0) (dxX12_readsE_2 22 rfl) rfl rfl ?_
      refine x_aload_n (i := 0) (dxX12_readsE_2 23 rfl) rfl rfl ?_
      refine x_bipush (v := 43) (dxX12_readsE_2 24 rfl) rfl ?_
      refine cl_12_248 (kd_179 hLs4) (Nat.le_of_ble_eq_true rfl) (dxX12_readsE_2 25 rfl) h (fun v7 s6 h => ?_) (Nat.le_refl _) (Nat.le_refl _)
      obtain ⟨hFs6, h⟩ := h
      have hKs6 : kd s6 = kd σ := hFs6.1.trans hKs4
      have hLs6 : Lay s6 := hLs4.fr hFs6
      refine x_if_eq (tgt := 184) (dxX12_readsE_2 26 rfl) (by decide) (fun hc => ?_) (fun hc => ?_)
      · replace h := h.1 hc
        refine x_aload_n (i := 0) (dxX12_readsE_2 29 rfl) rfl rfl ?_
        refine x_bipush (v := 45) (dxX12_readsE_2 30 rfl) rfl ?_
        refine cl_12_248 (kd_179 hLs6) (Nat.le_of_ble_eq_true rfl) (dxX12_readsE_2 31 rfl) h (fun v9 s8 h => ?_) (Nat.le_refl _) (Nat.le_refl _)
        obtain ⟨hFs8, h⟩ := h
        have hKs8 : kd s8 = kd σ := hFs8.1.trans hKs6
        have hLs8 : Lay s8 := hLs6.fr hFs8
        refine x_if_eq (tgt := 198) (dxX12_readsE_3 0 rfl) (by decide) (fun hc => ?_) (fun hc => ?_)
        · replace h := h.1 hc
          refine x_bipush (v := 22) (dxX12_readsE_3 3 rfl) rfl ?_
          refine cl_12_263 (kd_179 hLs8) (Nat.le_of_ble_eq_true rfl) (dxX12_readsE_3 4 rfl) h (fun s10 h => ?_) (Nat.le_refl _) (Nat.le_refl _)
          obtain ⟨hFs10, h⟩ := h
          have hKs10 : kd s10 = kd σ := hFs10.1.trans hKs8
          have hLs10 : Lay s10 := hLs8.fr hFs10
          refine x_iconst (v := 1) (dxX12_readsE_3 5 rfl) rfl ?_
          refine x_istore_n (i := 3) (dxX12_readsE_3 6 rfl) rfl (Nat.le_of_ble_eq_true rfl) rfl rfl ?_
          refine x_goto (tgt := 255) (dxX12_readsE_3 7 rfl) (by decide) ?_
          refine x_aload_n (i := 0) (dxX12_readsE_4 1 rfl) rfl rfl ?_
          refine cl_12_266 (kd_179 hLs10) (Nat.le_of_ble_eq_true rfl) (dxX12_readsE_4 2 rfl) h (fun s12 h => ?_) (Nat.le_refl _) (Nat.le_refl _)
          obtain ⟨hFs12, h⟩ := h
          have hKs12 : kd s12 = kd σ := hFs12.1.trans hKs10
          have hLs12 : Lay s12 := hLs10.fr hFs12
          refine x_goto (tgt := 14) (dxX12_readsE_4 3 rfl) (by decide) ?_
          exact h
        · replace h := h.2 hc
          refine x_bipush (v := 21) (dxX12_readsE_3 1 rfl) rfl ?_
          refine x_goto (tgt := 200) (dxX12_readsE_3 2 rfl) (by decide) ?_
          refine cl_12_263 (kd_179 hLs8) (Nat.le_of_ble_eq_true rfl) (dxX12_readsE_3 4 rfl) h (fun s14 h => ?_) (Nat.le_refl _) (Nat.le_refl _)
          obtain ⟨hFs14, h⟩ := h
          have hKs14 : kd s14 = kd σ := hFs14.1.trans hKs8
          have hLs14 : Lay s14 := hLs8.fr hFs14
          refine x_iconst (v := 1) (dxX12_readsE_3 5 rfl) rfl ?_
          refine x_istore_n (i := 3) (dxX12_readsE_3 6 rfl) rfl (Nat.le_of_ble_eq_true rfl) rfl rfl ?_
          refine x_goto (tgt := 255) (dxX12_readsE_3 7 rfl) (by decide) ?_
          refine x_aload_n (i := 0) (dxX12_readsE_4 1 rfl) rfl rfl ?_
          refine cl_12_266 (kd_179 hLs14) (Nat.le_of_ble_eq_true rfl) (dxX12_readsE_4 2 rfl) h (fun s16 h => ?_) (Nat.le_refl _) (Nat.le_refl _)
          obtain ⟨hFs16, h⟩ := h
          have hKs16 : kd s16 = kd σ := hFs16.1.trans hKs14
          have hLs16 : Lay s16 := hLs14.fr hFs16
          refine x_goto (tgt := 14) (dxX12_readsE_4 3 rfl) (by decide) ?_
          exact h
      · replace h := h.2 hc
        refine x_bipush (v := 20) (dxX12_readsE_2 27 rfl) rfl ?_
        refine x_goto (tgt := 200) (dxX12_readsE_2 28 rfl) (by decide) ?_
        refine cl_12_263 (kd_179 hLs6) (Nat.le_of_ble_eq_true rfl) (dxX12_readsE_3 4 rfl) h (fun s18 h => ?_) (Nat.le_refl _) (Nat.le_refl _)
        obtain ⟨hFs18, h⟩ := h
        have hKs18 : kd s18 = kd σ := hFs18.1.trans hKs6
        have hLs18 : Lay s18 := hLs6.fr hFs18
        refine x_iconst (v := 1) (dxX12_readsE_3 5 rfl) rfl ?_
        refine x_istore_n (i := 3) (dxX12_readsE_3 6 rfl) rfl (Nat.le_of_ble_eq_true rfl) rfl rfl ?_
        refine x_goto (tgt := 255) (dxX12_readsE_3 7 rfl) (by decide) ?_
        refine x_aload_n (i := 0) (dxX12_readsE_4 1 rfl) rfl rfl ?_
        refine cl_12_266 (kd_179 hLs18) (Nat.le_of_ble_eq_true rfl) (dxX12_readsE_4 2 rfl) h (fun s20 h => ?_) (Nat.le_refl _) (Nat.le_refl _)
        obtain ⟨hFs20, h⟩ := h
        have hKs20 : kd s20 = kd σ := hFs20.1.trans hKs18
        have hLs20 : Lay s20 := hLs18.fr hFs20
        refine x_goto (tgt := 14) (dxX12_readsE_4 3 rfl) (by decide) ?_
        exact h
    · replace h := h.2 hc
      refine x_aload_n (i := 0) (dxX12_readsE_2 14 rfl) rfl rfl ?_
      refine x_bipush (v := 45) (dxX12_readsE_2 15 rfl) rfl ?_
      refine cl_12_248 (kd_179 hLs4) (Nat.le_of_ble_eq_true rfl) (dxX12_readsE_2 16 rfl) h (fun v23 s22 h => ?_) (Nat.le_refl _) (Nat.le_refl _)
      obtain ⟨hFs22, h⟩ := h
      have hKs22 : kd s22 = kd σ := hFs22.1.trans hKs4
      have hLs22 : Lay s22 := hLs4.fr hFs22
      refine x_if_ne (tgt := 169) (dxX12_readsE_2 17 rfl) (by decide) (fun hc => ?_) (fun hc => ?_)
      · replace h := h.1 hc
        refine x_aload_n (i := 0) (dxX12_readsE_2 22 rfl) rfl rfl ?_
        refine x_aload_n (i := 0) (dxX12_readsE_2 23 rfl) rfl rfl ?_
        refine x_bipush (v := 43) (dxX12_readsE_2 24 rfl) rfl ?_
        refine cl_12_248 (kd_179 hLs22) (Nat.le_of_ble_eq_true rfl) (dxX12_readsE_2 25 rfl) h (fun v25 s24 h => ?_) (Nat.le_refl _) (Nat.le_refl _)
        obtain ⟨hFs24, h⟩ := h
        have hKs24 : kd s24 = kd σ := hFs24.1.trans hKs22
        have hLs24 : Lay s24 := hLs22.fr hFs24
        refine x_if_eq (tgt := 184) (dxX12_readsE_2 26 rfl) (by decide) (fun hc => ?_) (fun hc => ?_)
        · replace h := h.1 hc
          refine x_aload_n (i := 0) (dxX12_readsE_2 29 rfl) rfl rfl ?_
          refine x_bipush (v := 45) (dxX12_readsE_2 30 rfl) rfl ?_
          refine cl_12_248 (kd_179 hLs24) (Nat.le_of_ble_eq_true rfl) (dxX12_readsE_2 31 rfl) h (fun v27 s26 h => ?_) (Nat.le_refl _) (Nat.le_refl _)
          obtain ⟨hFs26, h⟩ := h
          have hKs26 : kd s26 = kd σ := hFs26.1.trans hKs24
          have hLs26 : Lay s26 := hLs24.fr hFs26
          refine x_if_eq (tgt := 198) (dxX12_readsE_3 0 rfl) (by decide) (fun hc => ?_) (fun hc => ?_)
          · replace h := h.1 hc
            refine x_bipush (v := 22) (dxX12_readsE_3 3 rfl) rfl ?_
            refine cl_12_263 (kd_179 hLs26) (Nat.le_of_ble_eq_true rfl) (dxX12_readsE_3 4 rfl) h (fun s28 h => ?_) (Nat.le_refl _) (Nat.le_refl _)
            obtain ⟨hFs28, h⟩ := h
            have hKs28 : kd s28 = kd σ := hFs28.1.trans hKs26
            have hLs28 : Lay s28 := hLs26.fr hFs28
            refine x_iconst (v := 1) (dxX12_readsE_3 5 rfl) rfl ?_
            refine x_istore_n (i := 3) (dxX12_readsE_3 6 rfl) rfl (Nat.le_of_ble_eq_true rfl) rfl rfl ?_
            refine x_goto (tgt := 255) (dxX12_readsE_3 7 rfl) (by decide) ?_
            refine x_aload_n (i := 0) (dxX12_readsE_4 1 rfl) rfl rfl ?_
            refine cl_12_266 (kd_179 hLs28) (Nat.le_of_ble_eq_true rfl) (dxX12_readsE_4 2 rfl) h (fun s30 h => ?_) (Nat.le_refl _) (Nat.le_refl _)
            obtain ⟨hFs30, h⟩ := h
            have hKs30 : kd s30 = kd σ := hFs30.1.trans hKs28
            have hLs30 : Lay s30 := hLs28.fr hFs30
            refine x_goto (tgt := 14) (dxX12_readsE_4 3 rfl) (by decide) ?_
            exact h
          · replace h := h.2 hc
            refine x_bipush (v := 21) (dxX12_readsE_3 1 rfl) rfl ?_
            refine x_goto (tgt := 200) (dxX12_readsE_3 2 rfl) (by decide) ?_
            refine cl_12_263 (kd_179 hLs26) (Nat.le_of_ble_eq_true rfl) (dxX12_readsE_3 4 rfl) h (fun s32 h => ?_) (Nat.le_refl _) (Nat.le_refl _)
            obtain ⟨hFs32, h⟩ := h
            have hKs32 : kd s32 = kd σ := hFs32.1.trans hKs26
            have hLs32 : Lay s32 := hLs26.fr hFs32
            refine x_iconst (v := 1) (dxX12_readsE_3 5 rfl) rfl ?_
            refine x_istore_n (i := 3) (dxX12_readsE_3 6 rfl) rfl (Nat.le_of_ble_eq_true rfl) rfl rfl ?_
            refine x_goto (tgt := 255) (dxX12_readsE_3 7 rfl) (by decide) ?_
            refine x_aload_n (i := 0) (dxX12_readsE_4 1 rfl) rfl rfl ?_
            refine cl_12_266 (kd_179 hLs32) (Nat.le_of_ble_eq_true rfl) (dxX12_readsE_4 2 rfl) h (fun s34 h => ?_) (Nat.le_refl _) (Nat.le_refl _)
            obtain ⟨hFs34, h⟩ := h
            have hKs34 : kd s34 = kd σ := hFs34.1.trans hKs32
            have hLs34 : Lay s34 := hLs32.fr hFs34
            refine x_goto (tgt := 14) (dxX12_readsE_4 3 rfl) (by decide) ?_
            exact h
        · replace h := h.2 hc
          refine x_bipush (v := 20) (dxX12_readsE_2 27 rfl) rfl ?_
          refine x_goto (tgt := 200) (dxX12_readsE_2 28 rfl) (by decide) ?_
          refine cl_12_263 (kd_179 hLs24) (Nat.le_of_ble_eq_true rfl) (dxX12_readsE_3 4 rfl) h (fun s36 h => ?_) (Nat.le_refl _) (Nat.le_refl _)
          obtain ⟨hFs36, h⟩ := h
          have hKs36 : kd s36 = kd σ := hFs36.1.trans hKs24
          have hLs36 : Lay s36 := hLs24.fr hFs36
          refine x_iconst (v := 1) (dxX12_readsE_3 5 rfl) rfl ?_
          refine x_istore_n (i := 3) (dxX12_readsE_3 6 rfl) rfl (Nat.le_of_ble_eq_true rfl) rfl rfl ?_
          refine x_goto (tgt := 255) (dxX12_readsE_3 7 rfl) (by decide) ?_
          refine x_aload_n (i := 0) (dxX12_readsE_4 1 rfl) rfl rfl ?_
          refine cl_12_266 (kd_179 hLs36) (Nat.le_of_ble_eq_true rfl) (dxX12_readsE_4 2 rfl) h (fun s38 h => ?_) (Nat.le_refl _) (Nat.le_refl _)
          obtain ⟨hFs38, h⟩ := h
          have hKs38 : kd s38 = kd σ := hFs38.1.trans hKs36
          have hLs38 : Lay s38 := hLs36.fr hFs38
          refine x_goto (tgt := 14) (dxX12_readsE_4 3 rfl) (by decide) ?_
          exact h
      · replace h := h.2 hc
        refine x_aload_n (i := 0) (dxX12_readsE_2 18 rfl) rfl rfl ?_
        refine x_bipush (v := 42) (dxX12_readsE_2 19 rfl) rfl ?_
        refine cl_12_248 (kd_179 hLs22) (Nat.le_of_ble_eq_true rfl) (dxX12_readsE_2 20 rfl) h (fun v41 s40 h => ?_) (Nat.le_refl _) (Nat.le_refl _)
        obtain ⟨hFs40, h⟩ := h
        have hKs40 : kd s40 = kd σ := hFs40.1.trans hKs22
        have hLs40 : Lay s40 := hLs22.fr hFs40
        refine x_if_eq (tgt := 208) (dxX12_readsE_2 21 rfl) (by decide) (fun hc => ?_) (fun hc => ?_)
        · replace h := h.1 hc
          refine x_iload_n (i := 2) (dxX12_readsE_3 8 rfl) rfl rfl ?_
          refine x_if_le (tgt := 233) (dxX12_readsE_3 9 rfl) (by decide) (fun hc => ?_) (fun hc => ?_)
          · replace h := h.1 hc
            refine x_iload_n (i := 2) (dxX12_readsE_3 19 rfl) rfl rfl ?_
            refine x_if_le (tgt := 243) (dxX12_readsE_3 20 rfl) (by decide) (fun hc => ?_) (fun hc => ?_)
            · replace h := h.1 hc
              refine x_aload_n (i := 0) (dxX12_readsE_3 25 rfl) rfl rfl ?_
              refine gf_12_31 (kd_179 hLs40) (rv_179_17 hLs40) (dxX12_readsE_3 26 rfl) ?_
              refine x_iload_n (i := 1) (dxX12_readsE_3 27 rfl) rfl rfl ?_
              refine x_aload_n (i := 0) (dxX12_readsE_3 28 rfl) rfl rfl ?_
              refine gf_12_222 (kd_179 hLs40) rfl (dxX12_readsE_3 29 rfl) ?_
              obtain ⟨hi42, h⟩ := h
              refine x_iast (kd_187 hLs40) hi42 (dxX12_readsE_3 30 rfl) ?_
              refine x_sto (fun s43 e44 => ?_)
              replace h := h s43 e44
              have hKs43 : kd s43 = kd σ := by rw [e44]; exact hKs40
              have hLs43 : Lay s43 := by rw [e44]; exact hLs40.si
              refine x_iconst (v := 1) (dxX12_readsE_3 31 rfl) rfl ?_
              exact x_iret (ty := .boolean) rfl rfl (dxX12_readsE_4 0 rfl) ⟨_, rfl, h⟩
            · replace h := h.2 hc
              refine x_aload_n (i := 0) (dxX12_readsE_3 21 rfl) rfl rfl ?_
              refine x_iconst (v := 1) (dxX12_readsE_3 22 rfl) rfl ?_
              refine cl_12_256 (kd_179 hLs40) (Nat.le_of_ble_eq_true rfl) (dxX12_readsE_3 23 rfl) h (fun v46 s45 h => ?_) (Nat.le_refl _) (Nat.le_refl _)
              obtain ⟨hFs45, h⟩ := h
              have hKs45 : kd s45 = kd σ := hFs45.1.trans hKs40
              have hLs45 : Lay s45 := hLs40.fr hFs45
              obtain ⟨hb47, h⟩ := h
              exact x_iret (ty := .boolean) rfl (nb01 hb47) (dxX12_readsE_3 24 rfl) ⟨_, rfl, h⟩
          · replace h := h.2 hc
            refine x_aload_n (i := 0) (dxX12_readsE_3 10 rfl) rfl rfl ?_
            refine x_bipush (v := 41) (dxX12_readsE_3 11 rfl) rfl ?_
            refine cl_12_248 (kd_179 hLs40) (Nat.le_of_ble_eq_true rfl) (dxX12_readsE_3 12 rfl) h (fun v49 s48 h => ?_) (Nat.le_refl _) (Nat.le_refl _)
            obtain ⟨hFs48, h⟩ := h
            have hKs48 : kd s48 = kd σ := hFs48.1.trans hKs40
            have hLs48 : Lay s48 := hLs40.fr hFs48
            refine x_if_eq (tgt := 233) (dxX12_readsE_3 13 rfl) (by decide) (fun hc => ?_) (fun hc => ?_)
            · replace h := h.1 hc
              refine x_iload_n (i := 2) (dxX12_readsE_3 19 rfl) rfl rfl ?_
              refine x_if_le (tgt := 243) (dxX12_readsE_3 20 rfl) (by decide) (fun hc => ?_) (fun hc => ?_)
              · replace h := h.1 hc
                refine x_aload_n (i := 0) (dxX12_readsE_3 25 rfl) rfl rfl ?_
                refine gf_12_31 (kd_179 hLs48) (rv_179_17 hLs48) (dxX12_readsE_3 26 rfl) ?_
                refine x_iload_n (i := 1) (dxX12_readsE_3 27 rfl) rfl rfl ?_
                refine x_aload_n (i := 0) (dxX12_readsE_3 28 rfl) rfl rfl ?_
                refine gf_12_222 (kd_179 hLs48) rfl (dxX12_readsE_3 29 rfl) ?_
                obtain ⟨hi50, h⟩ := h
                refine x_iast (kd_187 hLs48) hi50 (dxX12_readsE_3 30 rfl) ?_
                refine x_sto (fun s51 e52 => ?_)
                replace h := h s51 e52
                have hKs51 : kd s51 = kd σ := by rw [e52]; exact hKs48
                have hLs51 : Lay s51 := by rw [e52]; exact hLs48.si
                refine x_iconst (v := 1) (dxX12_readsE_3 31 rfl) rfl ?_
                exact x_iret (ty := .boolean) rfl rfl (dxX12_readsE_4 0 rfl) ⟨_, rfl, h⟩
              · replace h := h.2 hc
                refine x_aload_n (i := 0) (dxX12_readsE_3 21 rfl) rfl rfl ?_
                refine x_iconst (v := 1) (dxX12_readsE_3 22 rfl) rfl ?_
                refine cl_12_256 (kd_179 hLs48) (Nat.le_of_ble_eq_true rfl) (dxX12_readsE_3 23 rfl) h (fun v54 s53 h => ?_) (Nat.le_refl _) (Nat.le_refl _)
                obtain ⟨hFs53, h⟩ := h
                have hKs53 : kd s53 = kd σ := hFs53.1.trans hKs48
                have hLs53 : Lay s53 := hLs48.fr hFs53
                obtain ⟨hb55, h⟩ := h
                exact x_iret (ty := .boolean) rfl (nb01 hb55) (dxX12_readsE_3 24 rfl) ⟨_, rfl, h⟩
            · replace h := h.2 hc
              refine x_aload_n (i := 0) (dxX12_readsE_3 14 rfl) rfl rfl ?_
              refine x_bipush (v := 29) (dxX12_readsE_3 15 rfl) rfl ?_
              refine cl_12_263 (kd_179 hLs48) (Nat.le_of_ble_eq_true rfl) (dxX12_readsE_3 16 rfl) h (fun s56 h => ?_) (Nat.le_refl _) (Nat.le_refl _)
              obtain ⟨hFs56, h⟩ := h
              have hKs56 : kd s56 = kd σ := hFs56.1.trans hKs48
              have hLs56 : Lay s56 := hLs48.fr hFs56
              obtain ⟨x58, e59⟩ : ∃ y : Int32, y = l2 + (-1) := ⟨_, rfl⟩
              replace h := h x58 e59
              refine x_iinc (v := x58) (dxX12_readsE_3 17 rfl) (i := 2) rfl (by rw [e59]; rfl) (Nat.le_of_ble_eq_true rfl) rfl rfl ?_
              refine x_goto (tgt := 255) (dxX12_readsE_3 18 rfl) (by decide) ?_
              refine x_aload_n (i := 0) (dxX12_readsE_4 1 rfl) rfl rfl ?_
              refine cl_12_266 (kd_179 hLs56) (Nat.le_of_ble_eq_true rfl) (dxX12_readsE_4 2 rfl) h (fun s60 h => ?_) (Nat.le_refl _) (Nat.le_refl _)
              obtain ⟨hFs60, h⟩ := h
              have hKs60 : kd s60 = kd σ := hFs60.1.trans hKs56
              have hLs60 : Lay s60 := hLs56.fr hFs60
              refine x_goto (tgt := 14) (dxX12_readsE_4 3 rfl) (by decide) ?_
              exact h
        · replace h := h.2 hc
          refine x_aload_n (i := 0) (dxX12_readsE_2 22 rfl) rfl rfl ?_
          refine x_aload_n (i := 0) (dxX12_readsE_2 23 rfl) rfl rfl ?_
          refine x_bipush (v := 43) (dxX12_readsE_2 24 rfl) rfl ?_
          refine cl_12_248 (kd_179 hLs40) (Nat.le_of_ble_eq_true rfl) (dxX12_readsE_2 25 rfl) h (fun v63 s62 h => ?_) (Nat.le_refl _) (Nat.le_refl _)
          obtain ⟨hFs62, h⟩ := h
          have hKs62 : kd s62 = kd σ := hFs62.1.trans hKs40
          have hLs62 : Lay s62 := hLs40.fr hFs62
          refine x_if_eq (tgt := 184) (dxX12_readsE_2 26 rfl) (by decide) (fun hc => ?_) (fun hc => ?_)
          · replace h := h.1 hc
            refine x_aload_n (i := 0) (dxX12_readsE_2 29 rfl) rfl rfl ?_
            refine x_bipush (v := 45) (dxX12_readsE_2 30 rfl) rfl ?_
            refine cl_12_248 (kd_179 hLs62) (Nat.le_of_ble_eq_true rfl) (dxX12_readsE_2 31 rfl) h (fun v65 s64 h => ?_) (Nat.le_refl _) (Nat.le_refl _)
            obtain ⟨hFs64, h⟩ := h
            have hKs64 : kd s64 = kd σ := hFs64.1.trans hKs62
            have hLs64 : Lay s64 := hLs62.fr hFs64
            refine x_if_eq (tgt := 198) (dxX12_readsE_3 0 rfl) (by decide) (fun hc => ?_) (fun hc => ?_)
            · replace h := h.1 hc
              refine x_bipush (v := 22) (dxX12_readsE_3 3 rfl) rfl ?_
              refine cl_12_263 (kd_179 hLs64) (Nat.le_of_ble_eq_true rfl) (dxX12_readsE_3 4 rfl) h (fun s66 h => ?_) (Nat.le_refl _) (Nat.le_refl _)
              obtain ⟨hFs66, h⟩ := h
              have hKs66 : kd s66 = kd σ := hFs66.1.trans hKs64
              have hLs66 : Lay s66 := hLs64.fr hFs66
              refine x_iconst (v := 1) (dxX12_readsE_3 5 rfl) rfl ?_
              refine x_istore_n (i := 3) (dxX12_readsE_3 6 rfl) rfl (Nat.le_of_ble_eq_true rfl) rfl rfl ?_
              refine x_goto (tgt := 255) (dxX12_readsE_3 7 rfl) (by decide) ?_
              refine x_aload_n (i := 0) (dxX12_readsE_4 1 rfl) rfl rfl ?_
              refine cl_12_266 (kd_179 hLs66) (Nat.le_of_ble_eq_true rfl) (dxX12_readsE_4 2 rfl) h (fun s68 h => ?_) (Nat.le_refl _) (Nat.le_refl _)
              obtain ⟨hFs68, h⟩ := h
              have hKs68 : kd s68 = kd σ := hFs68.1.trans hKs66
              have hLs68 : Lay s68 := hLs66.fr hFs68
              refine x_goto (tgt := 14) (dxX12_readsE_4 3 rfl) (by decide) ?_
              exact h
            · replace h := h.2 hc
              refine x_bipush (v := 21) (dxX12_readsE_3 1 rfl) rfl ?_
              refine x_goto (tgt := 200) (dxX12_readsE_3 2 rfl) (by decide) ?_
              refine cl_12_263 (kd_179 hLs64) (Nat.le_of_ble_eq_true rfl) (dxX12_readsE_3 4 rfl) h (fun s70 h => ?_) (Nat.le_refl _) (Nat.le_refl _)
              obtain ⟨hFs70, h⟩ := h
              have hKs70 : kd s70 = kd σ := hFs70.1.trans hKs64
              have hLs70 : Lay s70 := hLs64.fr hFs70
              refine x_iconst (v := 1) (dxX12_readsE_3 5 rfl) rfl ?_
              refine x_istore_n (i := 3) (dxX12_readsE_3 6 rfl) rfl (Nat.le_of_ble_eq_true rfl) rfl rfl ?_
              refine x_goto (tgt := 255) (dxX12_readsE_3 7 rfl) (by decide) ?_
              refine x_aload_n (i := 0) (dxX12_readsE_4 1 rfl) rfl rfl ?_
              refine cl_12_266 (kd_179 hLs70) (Nat.le_of_ble_eq_true rfl) (dxX12_readsE_4 2 rfl) h (fun s72 h => ?_) (Nat.le_refl _) (Nat.le_refl _)
              obtain ⟨hFs72, h⟩ := h
              have hKs72 : kd s72 = kd σ := hFs72.1.trans hKs70
              have hLs72 : Lay s72 := hLs70.fr hFs72
              refine x_goto (tgt := 14) (dxX12_readsE_4 3 rfl) (by decide) ?_
              exact h
          · replace h := h.2 hc
            refine x_bipush (v := 20) (dxX12_readsE_2 27 rfl) rfl ?_
            refine x_goto (tgt := 200) (dxX12_readsE_2 28 rfl) (by decide) ?_
            refine cl_12_263 (kd_179 hLs62) (Nat.le_of_ble_eq_true rfl) (dxX12_readsE_3 4 rfl) h (fun s74 h => ?_) (Nat.le_refl _) (Nat.le_refl _)
            obtain ⟨hFs74, h⟩ := h
            have hKs74 : kd s74 = kd σ := hFs74.1.trans hKs62
            have hLs74 : Lay s74 := hLs62.fr hFs74
            refine x_iconst (v := 1) (dxX12_readsE_3 5 rfl) rfl ?_
            refine x_istore_n (i := 3) (dxX12_readsE_3 6 rfl) rfl (Nat.le_of_ble_eq_true rfl) rfl rfl ?_
            refine x_goto (tgt := 255) (dxX12_readsE_3 7 rfl) (by decide) ?_
            refine x_aload_n (i := 0) (dxX12_readsE_4 1 rfl) rfl rfl ?_
            refine cl_12_266 (kd_179 hLs74) (Nat.le_of_ble_eq_true rfl) (dxX12_readsE_4 2 rfl) h (fun s76 h => ?_) (Nat.le_refl _) (Nat.le_refl _)
            obtain ⟨hFs76, h⟩ := h
            have hKs76 : kd s76 = kd σ := hFs76.1.trans hKs74
            have hLs76 : Lay s76 := hLs74.fr hFs76
            refine x_goto (tgt := 14) (dxX12_readsE_4 3 rfl) (by decide) ?_
            exact h
  · replace h := h.2 hc
    refine x_aload_n (i := 0) (dxX12_readsE_0 12 rfl) rfl rfl ?_
    refine x_bipush (v := 40) (dxX12_readsE_0 13 rfl) rfl ?_
    refine cl_12_248 (kd_179 hL) (Nat.le_of_ble_eq_true rfl) (dxX12_readsE_0 14 rfl) h (fun v79 s78 h => ?_) (Nat.le_refl _) (Nat.le_refl _)
    obtain ⟨hFs78, h⟩ := h
    have hKs78 : kd s78 = kd σ := hFs78.1.trans (rfl : kd σ = kd σ)
    have hLs78 : Lay s78 := hL.fr hFs78
    refine x_istore (dxX12_readsE_0 15 rfl) (Nat.le_of_ble_eq_true rfl) rfl rfl ?_
    refine x_aload_n (i := 0) (dxX12_readsE_0 16 rfl) rfl rfl ?_
    refine cl_12_252 (kd_179 hLs78) (Nat.le_of_ble_eq_true rfl) (dxX12_readsE_0 17 rfl) h (fun v81 s80 h => ?_) (Nat.le_refl _) (Nat.le_refl _)
    obtain ⟨hFs80, h⟩ := h
    have hKs80 : kd s80 = kd σ := hFs80.1.trans hKs78
    have hLs80 : Lay s80 := hLs78.fr hFs80
    refine x_if_ne (tgt := 37) (dxX12_readsE_0 18 rfl) (by decide) (fun hc => ?_) (fun hc => ?_)
    · replace h := h.1 hc
      refine x_iconst (v := 0) (dxX12_readsE_0 21 rfl) rfl ?_
      refine x_istore (dxX12_readsE_0 22 rfl) (Nat.le_of_ble_eq_true rfl) rfl rfl ?_
      refine x_iload (dxX12_readsE_0 23 rfl) rfl ?_
      refine x_if_ne (tgt := 64) (dxX12_readsE_0 24 rfl) (by decide) (fun hc => ?_) (fun hc => ?_)
      · replace h := h.1 hc
        refine x_iload (dxX12_readsE_1 3 rfl) rfl ?_
        refine x_if_eq (tgt := 82) (dxX12_readsE_1 4 rfl) (by decide) (fun hc => ?_) (fun hc => ?_)
        · clear hc
          refine x_mask [true, true, true, false, true, true] (L1 := [some (.ref 179), some (.int l1), some (.int l2), none, some (.int v79), some (.int 0)]) rfl ?_
          exact h
        · exact absurd hc (by decide)
      · replace h := h.2 hc
        refine x_iload (dxX12_readsE_0 25 rfl) rfl ?_
        refine x_if_ne (tgt := 64) (dxX12_readsE_0 26 rfl) (by decide) (fun hc => ?_) (fun hc => ?_)
        · exact absurd hc (by decide)
        · clear hc
          refine x_aload_n (i := 0) (dxX12_readsE_0 27 rfl) rfl rfl ?_
          refine gf_12_208 (kd_179 hLs80) rfl (dxX12_readsE_0 28 rfl) ?_
          refine x_iconst (v := 2) (dxX12_readsE_0 29 rfl) rfl ?_
          refine x_icmp_eq (tgt := 64) (dxX12_readsE_0 30 rfl) (by decide) (fun hc => ?_) (fun hc => ?_)
          · replace h := h.1 hc
            refine x_iload (dxX12_readsE_1 3 rfl) rfl ?_
            refine x_if_eq (tgt := 82) (dxX12_readsE_1 4 rfl) (by decide) (fun hc => ?_) (fun hc => ?_)
            · clear hc
              refine x_mask [true, true, true, false, true, true] (L1 := [some (.ref 179), some (.int l1), some (.int l2), none, some (.int v79), some (.int 0)]) rfl ?_
              exact h
            · exact absurd hc (by decide)
          · replace h := h.2 hc
            refine x_aload_n (i := 0) (dxX12_readsE_0 31 rfl) rfl rfl ?_
            refine x_iconst (v := 1) (dxX12_readsE_1 0 rfl) rfl ?_
            refine cl_12_256 (kd_179 hLs80) (Nat.le_of_ble_eq_true rfl) (dxX12_readsE_1 1 rfl) h (fun v83 s82 h => ?_) (Nat.le_refl _) (Nat.le_refl _)
            obtain ⟨hFs82, h⟩ := h
            have hKs82 : kd s82 = kd σ := hFs82.1.trans hKs80
            have hLs82 : Lay s82 := hLs80.fr hFs82
            obtain ⟨hb84, h⟩ := h
            exact x_iret (ty := .boolean) rfl (nb01 hb84) (dxX12_readsE_1 2 rfl) ⟨_, rfl, h⟩
    · replace h := h.2 hc
      refine x_iconst (v := 1) (dxX12_readsE_0 19 rfl) rfl ?_
      refine x_goto (tgt := 38) (dxX12_readsE_0 20 rfl) (by decide) ?_
      refine x_istore (dxX12_readsE_0 22 rfl) (Nat.le_of_ble_eq_true rfl) rfl rfl ?_
      refine x_iload (dxX12_readsE_0 23 rfl) rfl ?_
      refine x_if_ne (tgt := 64) (dxX12_readsE_0 24 rfl) (by decide) (fun hc => ?_) (fun hc => ?_)
      · replace h := h.1 hc
        refine x_iload (dxX12_readsE_1 3 rfl) rfl ?_
        refine x_if_eq (tgt := 82) (dxX12_readsE_1 4 rfl) (by decide) (fun hc => ?_) (fun hc => ?_)
        · exact absurd hc (by decide)
        · clear hc
          refine x_aload_n (i := 0) (dxX12_readsE_1 5 rfl) rfl rfl ?_
          refine cl_12_259 (kd_179 hLs80) (Nat.le_of_ble_eq_true rfl) (dxX12_readsE_1 6 rfl) h (fun v86 s85 h => ?_) (Nat.le_refl _) (Nat.le_refl _)
          obtain ⟨hFs85, h⟩ := h
          have hKs85 : kd s85 = kd σ := hFs85.1.trans hKs80
          have hLs85 : Lay s85 := hLs80.fr hFs85
          refine x_if_ge (tgt := 82) (dxX12_readsE_1 7 rfl) (by decide) (fun hc => ?_) (fun hc => ?_)
          · replace h := h.1 hc
            refine x_mask [true, true, true, false, true, true] (L1 := [some (.ref 179), some (.int l1), some (.int l2), none, some (.int v79), some (.int 1)]) rfl ?_
            exact h
          · replace h := h.2 hc
            refine x_aload_n (i := 0) (dxX12_readsE_1 8 rfl) rfl rfl ?_
            refine x_iconst (v := 2) (dxX12_readsE_1 9 rfl) rfl ?_
            refine cl_12_256 (kd_179 hLs85) (Nat.le_of_ble_eq_true rfl) (dxX12_readsE_1 10 rfl) h (fun v88 s87 h => ?_) (Nat.le_refl _) (Nat.le_refl _)
            obtain ⟨hFs87, h⟩ := h
            have hKs87 : kd s87 = kd σ := hFs87.1.trans hKs85
            have hLs87 : Lay s87 := hLs85.fr hFs87
            obtain ⟨hb89, h⟩ := h
            exact x_iret (ty := .boolean) rfl (nb01 hb89) (dxX12_readsE_1 11 rfl) ⟨_, rfl, h⟩
      · replace h := h.2 hc
        refine x_iload (dxX12_readsE_0 25 rfl) rfl ?_
        refine x_if_ne (tgt := 64) (dxX12_readsE_0 26 rfl) (by decide) (fun hc => ?_) (fun hc => ?_)
        · clear hc
          refine x_iload (dxX12_readsE_1 3 rfl) rfl ?_
          refine x_if_eq (tgt := 82) (dxX12_readsE_1 4 rfl) (by decide) (fun hc => ?_) (fun hc => ?_)
          · exact absurd hc (by decide)
          · clear hc
            refine x_aload_n (i := 0) (dxX12_readsE_1 5 rfl) rfl rfl ?_
            refine cl_12_259 (kd_179 hLs80) (Nat.le_of_ble_eq_true rfl) (dxX12_readsE_1 6 rfl) h (fun v91 s90 h => ?_) (Nat.le_refl _) (Nat.le_refl _)
            obtain ⟨hFs90, h⟩ := h
            have hKs90 : kd s90 = kd σ := hFs90.1.trans hKs80
            have hLs90 : Lay s90 := hLs80.fr hFs90
            refine x_if_ge (tgt := 82) (dxX12_readsE_1 7 rfl) (by decide) (fun hc => ?_) (fun hc => ?_)
            · replace h := h.1 hc
              refine x_mask [true, true, true, false, true, true] (L1 := [some (.ref 179), some (.int l1), some (.int l2), none, some (.int v79), some (.int 1)]) rfl ?_
              exact h
            · replace h := h.2 hc
              refine x_aload_n (i := 0) (dxX12_readsE_1 8 rfl) rfl rfl ?_
              refine x_iconst (v := 2) (dxX12_readsE_1 9 rfl) rfl ?_
              refine cl_12_256 (kd_179 hLs90) (Nat.le_of_ble_eq_true rfl) (dxX12_readsE_1 10 rfl) h (fun v93 s92 h => ?_) (Nat.le_refl _) (Nat.le_refl _)
              obtain ⟨hFs92, h⟩ := h
              have hKs92 : kd s92 = kd σ := hFs92.1.trans hKs90
              have hLs92 : Lay s92 := hLs90.fr hFs92
              obtain ⟨hb94, h⟩ := h
              exact x_iret (ty := .boolean) rfl (nb01 hb94) (dxX12_readsE_1 11 rfl) ⟨_, rfl, h⟩
        · exact absurd hc (by decide)
theorem vcX12_readsE_82 {g : GV} {d : Nat} {P : Int32 → PS → Prop} {σ : PS} (hL : Lay σ) (l1 : Int32) (l2 : Int32) (l4 : Int32) (l5 : Int32) (h : (¬ l2 = 5 → (l4 = 0 → (l5 = 0 → CX12_puts g d [.ref 179, .int (100 + (mi σ 179 8))] σ (fun (s95 : PS) => Fr σ s95 ∧ (l4 = 0 → CX12_nextToken g d [.ref 179] s95 (fun (s97 : PS) => Fr s95 s97 ∧ VX12_readsE g (d + 1) P 14 [some (.ref 179), some (.int l1), some (.int l2), some (.int l4), none, none] [] s97)) ∧ (¬ l4 = 0 → ∀ x99 : Int32, x99 = l2 + 1 → CX12_nextToken g d [.ref 179] s95 (fun (s101 : PS) => Fr s95 s101 ∧ VX12_readsE g (d + 1) P 14 [some (.ref 179), some (.int l1), some (.int x99), some (.int l4), none, none] [] s101)))) ∧ (¬ l5 = 0 → CX12_nameOf g d [.ref 179] σ (fun (v104 : Int32) (s103 : PS) => Fr σ s103 ∧ CX12_puts g d [.ref 179, .int (1 + v104)] s103 (fun (s105 : PS) => Fr s103 s105 ∧ (l4 = 0 → CX12_nextToken g d [.ref 179] s105 (fun (s107 : PS) => Fr s105 s107 ∧ VX12_readsE g (d + 1) P 14 [some (.ref 179), some (.int l1), some (.int l2), some (.int l4), none, none] [] s107)) ∧ (¬ l4 = 0 → ∀ x109 : Int32, x109 = l2 + 1 → CX12_nextToken g d [.ref 179] s105 (fun (s111 : PS) => Fr s105 s111 ∧ VX12_readsE g (d + 1) P 14 [some (.ref 179), some (.int l1), some (.int x109), some (.int l4), none, none] [] s111)))))) ∧ (¬ l4 = 0 → CX12_puts g d [.ref 179, .int 28] σ (fun (s113 : PS) => Fr σ s113 ∧ (l4 = 0 → CX12_nextToken g d [.ref 179] s113 (fun (s115 : PS) => Fr s113 s115 ∧ VX12_readsE g (d + 1) P 14 [some (.ref 179), some (.int l1), some (.int l2), some (.int l4), none, none] [] s115)) ∧ (¬ l4 = 0 → ∀ x117 : Int32, x117 = l2 + 1 → CX12_nextToken g d [.ref 179] s113 (fun (s119 : PS) => Fr s113 s119 ∧ VX12_readsE g (d + 1) P 14 [some (.ref 179), some (.int l1), some (.int x117), some (.int l4), none, none] [] s119))))) ∧ (l2 = 5 → CX12_fails g d [.ref 179, .int 5] σ (fun (v122 : Int32) (s121 : PS) => Fr σ s121 ∧ (v122 = 0 ∨ v122 = 1) ∧ P v122 s121))) : VX12_readsE g (d + 1) P 82 [some (.ref 179), some (.int l1), some (.int l2), none, some (.int l4), some (.int l5)] [] σ := by
  refine x_iload_n (i := 2) (dxX12_readsE_1 12 rfl) rfl rfl ?_
  refine x_iconst (v := 5) (dxX12_readsE_1 13 rfl) rfl ?_
  refine x_icmp_ne (tgt := 93) (dxX12_readsE_1 14 rfl) (by decide) (fun hc => ?_) (fun hc => ?_)
  · replace h := h.1 hc
    refine x_aload_n (i := 0) (dxX12_readsE_1 19 rfl) rfl rfl ?_
    refine x_iload (dxX12_readsE_1 20 rfl) rfl ?_
    refine x_if_eq (tgt := 104) (dxX12_readsE_1 21 rfl) (by decide) (fun hc => ?_) (fun hc => ?_)
    · replace h := h.1 hc
      refine x_iload (dxX12_readsE_1 24 rfl) rfl ?_
      refine x_if_eq (tgt := 118) (dxX12_readsE_1 25 rfl) (by decide) (fun hc => ?_) (fun hc => ?_)
      · replace h := h.1 hc
        refine x_bipush (v := 100) (dxX12_readsE_1 31 rfl) rfl ?_
        refine x_aload_n (i := 0) (dxX12_readsE_2 0 rfl) rfl rfl ?_
        refine gf_12_205 (kd_179 hL) rfl (dxX12_readsE_2 1 rfl) ?_
        refine x_iadd (dxX12_readsE_2 2 rfl) ?_
        refine cl_12_263 (kd_179 hL) (Nat.le_of_ble_eq_true rfl) (dxX12_readsE_2 3 rfl) h (fun s95 h => ?_) (Nat.le_refl _) (Nat.le_refl _)
        obtain ⟨hFs95, h⟩ := h
        have hKs95 : kd s95 = kd σ := hFs95.1.trans (rfl : kd σ = kd σ)
        have hLs95 : Lay s95 := hL.fr hFs95
        refine x_iload (dxX12_readsE_2 4 rfl) rfl ?_
        refine x_if_eq (tgt := 136) (dxX12_readsE_2 5 rfl) (by decide) (fun hc => ?_) (fun hc => ?_)
        · replace h := h.1 hc
          refine x_iload (dxX12_readsE_2 7 rfl) rfl ?_
          refine x_istore_n (i := 3) (dxX12_readsE_2 8 rfl) rfl (Nat.le_of_ble_eq_true rfl) rfl rfl ?_
          refine x_goto (tgt := 255) (dxX12_readsE_2 9 rfl) (by decide) ?_
          refine x_aload_n (i := 0) (dxX12_readsE_4 1 rfl) rfl rfl ?_
          refine cl_12_266 (kd_179 hLs95) (Nat.le_of_ble_eq_true rfl) (dxX12_readsE_4 2 rfl) h (fun s97 h => ?_) (Nat.le_refl _) (Nat.le_refl _)
          obtain ⟨hFs97, h⟩ := h
          have hKs97 : kd s97 = kd σ := hFs97.1.trans hKs95
          have hLs97 : Lay s97 := hLs95.fr hFs97
          refine x_goto (tgt := 14) (dxX12_readsE_4 3 rfl) (by decide) ?_
          refine x_mask [true, true, true, true, false, false] (L1 := [some (.ref 179), some (.int l1), some (.int l2), some (.int l4), none, none]) rfl ?_
          exact h
        · replace h := h.2 hc
          obtain ⟨x99, e100⟩ : ∃ y : Int32, y = l2 + 1 := ⟨_, rfl⟩
          replace h := h x99 e100
          refine x_iinc (v := x99) (dxX12_readsE_2 6 rfl) (i := 2) rfl (by rw [e100]; rfl) (Nat.le_of_ble_eq_true rfl) rfl rfl ?_
          refine x_iload (dxX12_readsE_2 7 rfl) rfl ?_
          refine x_istore_n (i := 3) (dxX12_readsE_2 8 rfl) rfl (Nat.le_of_ble_eq_true rfl) rfl rfl ?_
          refine x_goto (tgt := 255) (dxX12_readsE_2 9 rfl) (by decide) ?_
          refine x_aload_n (i := 0) (dxX12_readsE_4 1 rfl) rfl rfl ?_
          refine cl_12_266 (kd_179 hLs95) (Nat.le_of_ble_eq_true rfl) (dxX12_readsE_4 2 rfl) h (fun s101 h => ?_) (Nat.le_refl _) (Nat.le_refl _)
          obtain ⟨hFs101, h⟩ := h
          have hKs101 : kd s101 = kd σ := hFs101.1.trans hKs95
          have hLs101 : Lay s101 := hLs95.fr hFs101
          refine x_goto (tgt := 14) (dxX12_readsE_4 3 rfl) (by decide) ?_
          refine x_mask [true, true, true, true, false, false] (L1 := [some (.ref 179), some (.int l1), some (.int x99), some (.int l4), none, none]) rfl ?_
          exact h
      · replace h := h.2 hc
        refine x_iconst (v := 1) (dxX12_readsE_1 26 rfl) rfl ?_
        refine x_aload_n (i := 0) (dxX12_readsE_1 27 rfl) rfl rfl ?_
        refine cl_12_259 (kd_179 hL) (Nat.le_of_ble_eq_true rfl) (dxX12_readsE_1 28 rfl) h (fun v104 s103 h => ?_) (Nat.le_refl _) (Nat.le_refl _)
        obtain ⟨hFs103, h⟩ := h
        have hKs103 : kd s103 = kd σ := hFs103.1.trans (rfl : kd σ = kd σ)
        have hLs103 : Lay s103 := hL.fr hFs103
        refine x_iadd (dxX12_readsE_1 29 rfl) ?_
        refine x_goto (tgt := 125) (dxX12_readsE_1 30 rfl) (by decide) ?_
        refine cl_12_263 (kd_179 hLs103) (Nat.le_of_ble_eq_true rfl) (dxX12_readsE_2 3 rfl) h (fun s105 h => ?_) (Nat.le_refl _) (Nat.le_refl _)
        obtain ⟨hFs105, h⟩ := h
        have hKs105 : kd s105 = kd σ := hFs105.1.trans hKs103
        have hLs105 : Lay s105 := hLs103.fr hFs105
        refine x_iload (dxX12_readsE_2 4 rfl) rfl ?_
        refine x_if_eq (tgt := 136) (dxX12_readsE_2 5 rfl) (by decide) (fun hc => ?_) (fun hc => ?_)
        · replace h := h.1 hc
          refine x_iload (dxX12_readsE_2 7 rfl) rfl ?_
          refine x_istore_n (i := 3) (dxX12_readsE_2 8 rfl) rfl (Nat.le_of_ble_eq_true rfl) rfl rfl ?_
          refine x_goto (tgt := 255) (dxX12_readsE_2 9 rfl) (by decide) ?_
          refine x_aload_n (i := 0) (dxX12_readsE_4 1 rfl) rfl rfl ?_
          refine cl_12_266 (kd_179 hLs105) (Nat.le_of_ble_eq_true rfl) (dxX12_readsE_4 2 rfl) h (fun s107 h => ?_) (Nat.le_refl _) (Nat.le_refl _)
          obtain ⟨hFs107, h⟩ := h
          have hKs107 : kd s107 = kd σ := hFs107.1.trans hKs105
          have hLs107 : Lay s107 := hLs105.fr hFs107
          refine x_goto (tgt := 14) (dxX12_readsE_4 3 rfl) (by decide) ?_
          refine x_mask [true, true, true, true, false, false] (L1 := [some (.ref 179), some (.int l1), some (.int l2), some (.int l4), none, none]) rfl ?_
          exact h
        · replace h := h.2 hc
          obtain ⟨x109, e110⟩ : ∃ y : Int32, y = l2 + 1 := ⟨_, rfl⟩
          replace h := h x109 e110
          refine x_iinc (v := x109) (dxX12_readsE_2 6 rfl) (i := 2) rfl (by rw [e110]; rfl) (Nat.le_of_ble_eq_true rfl) rfl rfl ?_
          refine x_iload (dxX12_readsE_2 7 rfl) rfl ?_
          refine x_istore_n (i := 3) (dxX12_readsE_2 8 rfl) rfl (Nat.le_of_ble_eq_true rfl) rfl rfl ?_
          refine x_goto (tgt := 255) (dxX12_readsE_2 9 rfl) (by decide) ?_
          refine x_aload_n (i := 0) (dxX12_readsE_4 1 rfl) rfl rfl ?_
          refine cl_12_266 (kd_179 hLs105) (Nat.le_of_ble_eq_true rfl) (dxX12_readsE_4 2 rfl) h (fun s111 h => ?_) (Nat.le_refl _) (Nat.le_refl _)
          obtain ⟨hFs111, h⟩ := h
          have hKs111 : kd s111 = kd σ := hFs111.1.trans hKs105
          have hLs111 : Lay s111 := hLs105.fr hFs111
          refine x_goto (tgt := 14) (dxX12_readsE_4 3 rfl) (by decide) ?_
          refine x_mask [true, true, true, true, false, false] (L1 := [some (.ref 179), some (.int l1), some (.int x109), some (.int l4), none, none]) rfl ?_
          exact h
    · replace h := h.2 hc
      refine x_bipush (v := 28) (dxX12_readsE_1 22 rfl) rfl ?_
      refine x_goto (tgt := 125) (dxX12_readsE_1 23 rfl) (by decide) ?_
      refine cl_12_263 (kd_179 hL) (Nat.le_of_ble_eq_true rfl) (dxX12_readsE_2 3 rfl) h (fun s113 h => ?_) (Nat.le_refl _) (Nat.le_refl _)
      obtain ⟨hFs113, h⟩ := h
      have hKs113 : kd s113 = kd σ := hFs113.1.trans (rfl : kd σ = kd σ)
      have hLs113 : Lay s113 := hL.fr hFs113
      refine x_iload (dxX12_readsE_2 4 rfl) rfl ?_
      refine x_if_eq (tgt := 136) (dxX12_readsE_2 5 rfl) (by decide) (fun hc => ?_) (fun hc => ?_)
      · replace h := h.1 hc
        refine x_iload (dxX12_readsE_2 7 rfl) rfl ?_
        refine x_istore_n (i := 3) (dxX12_readsE_2 8 rfl) rfl (Nat.le_of_ble_eq_true rfl) rfl rfl ?_
        refine x_goto (tgt := 255) (dxX12_readsE_2 9 rfl) (by decide) ?_
        refine x_aload_n (i := 0) (dxX12_readsE_4 1 rfl) rfl rfl ?_
        refine cl_12_266 (kd_179 hLs113) (Nat.le_of_ble_eq_true rfl) (dxX12_readsE_4 2 rfl) h (fun s115 h => ?_) (Nat.le_refl _) (Nat.le_refl _)
        obtain ⟨hFs115, h⟩ := h
        have hKs115 : kd s115 = kd σ := hFs115.1.trans hKs113
        have hLs115 : Lay s115 := hLs113.fr hFs115
        refine x_goto (tgt := 14) (dxX12_readsE_4 3 rfl) (by decide) ?_
        refine x_mask [true, true, true, true, false, false] (L1 := [some (.ref 179), some (.int l1), some (.int l2), some (.int l4), none, none]) rfl ?_
        exact h
      · replace h := h.2 hc
        obtain ⟨x117, e118⟩ : ∃ y : Int32, y = l2 + 1 := ⟨_, rfl⟩
        replace h := h x117 e118
        refine x_iinc (v := x117) (dxX12_readsE_2 6 rfl) (i := 2) rfl (by rw [e118]; rfl) (Nat.le_of_ble_eq_true rfl) rfl rfl ?_
        refine x_iload (dxX12_readsE_2 7 rfl) rfl ?_
        refine x_istore_n (i := 3) (dxX12_readsE_2 8 rfl) rfl (Nat.le_of_ble_eq_true rfl) rfl rfl ?_
        refine x_goto (tgt := 255) (dxX12_readsE_2 9 rfl) (by decide) ?_
        refine x_aload_n (i := 0) (dxX12_readsE_4 1 rfl) rfl rfl ?_
        refine cl_12_266 (kd_179 hLs113) (Nat.le_of_ble_eq_true rfl) (dxX12_readsE_4 2 rfl) h (fun s119 h => ?_) (Nat.le_refl _) (Nat.le_refl _)
        obtain ⟨hFs119, h⟩ := h
        have hKs119 : kd s119 = kd σ := hFs119.1.trans hKs113
        have hLs119 : Lay s119 := hLs113.fr hFs119
        refine x_goto (tgt := 14) (dxX12_readsE_4 3 rfl) (by decide) ?_
        refine x_mask [true, true, true, true, false, false] (L1 := [some (.ref 179), some (.int l1), some (.int x117), some (.int l4), none, none]) rfl ?_
        exact h
  · replace h := h.2 hc
    refine x_aload_n (i := 0) (dxX12_readsE_1 15 rfl) rfl rfl ?_
    refine x_iconst (v := 5) (dxX12_readsE_1 16 rfl) rfl ?_
    refine cl_12_256 (kd_179 hL) (Nat.le_of_ble_eq_true rfl) (dxX12_readsE_1 17 rfl) h (fun v122 s121 h => ?_) (Nat.le_refl _) (Nat.le_refl _)
    obtain ⟨hFs121, h⟩ := h
    have hKs121 : kd s121 = kd σ := hFs121.1.trans (rfl : kd σ = kd σ)
    have hLs121 : Lay s121 := hL.fr hFs121
    obtain ⟨hb123, h⟩ := h
    exact x_iret (ty := .boolean) rfl (nb01 hb123) (dxX12_readsE_1 18 rfl) ⟨_, rfl, h⟩
theorem vcX12_needsName {g : GV} {d : Nat} {P : Int32 → PS → Prop} {σ : PS} (hL : Lay σ)  (h : CX12_isKept g d [.ref 179] σ (fun (v2 : Int32) (s1 : PS) => Fr σ s1 ∧ (v2 = 0 → CX12_nameOf g d [.ref 179] s1 (fun (v4 : Int32) (s3 : PS) => Fr s1 s3 ∧ (0 ≤ v4 → ∀ s5 : PS, s5 = sj s3 179 32 (ml s3 179 7) → CX12_nextToken g d [.ref 179] s5 (fun (s7 : PS) => Fr s5 s7 ∧ (0 ≤ v4 → P v4 s7) ∧ (¬ 0 ≤ v4 → P (mi s7 179 20) s7))) ∧ (¬ 0 ≤ v4 → (¬ (mi s3 179 20) = 8 → ∀ s9 : PS, s9 = sj s3 179 32 (ml s3 179 7) → CX12_nextToken g d [.ref 179] s9 (fun (s11 : PS) => Fr s9 s11 ∧ (0 ≤ v4 → P v4 s11) ∧ (¬ 0 ≤ v4 → P (mi s11 179 20) s11))) ∧ ((mi s3 179 20) = 8 → CX12_fails g d [.ref 179, .int 5] s3 (fun (v14 : Int32) (s13 : PS) => Fr s3 s13 ∧ (v14 = 0 → P (-1) s13) ∧ (¬ v14 = 0 → P 0 s13)))))) ∧ (¬ v2 = 0 → CX12_fails g d [.ref 179, .int 1] s1 (fun (v16 : Int32) (s15 : PS) => Fr s1 s15 ∧ (v16 = 0 → P (-1) s15) ∧ (¬ v16 = 0 → P 0 s15))))) : CX12_needsName g (d + 1) [.ref 179] σ P := by
  refine x_entry (L := [some (.ref 179), none]) pn_12 (Nat.le_of_ble_eq_true rfl) ⟨1, rfl⟩ ?_
  show VX12_needsName g (d + 1) P 0 [some (.ref 179), none] [] σ
  refine x_aload_n (i := 0) (dxX12_needsName_0 0 rfl) rfl rfl ?_
  refine cl_12_252 (kd_179 hL) (Nat.le_of_ble_eq_true rfl) (dxX12_needsName_0 1 rfl) h (fun v2 s1 h => ?_) (Nat.le_refl _) (Nat.le_refl _)
  obtain ⟨hFs1, h⟩ := h
  have hKs1 : kd s1 = kd σ := hFs1.1.trans (rfl : kd σ = kd σ)
  have hLs1 : Lay s1 := hL.fr hFs1
  refine x_if_eq (tgt := 21) (dxX12_needsName_0 2 rfl) (by decide) (fun hc => ?_) (fun hc => ?_)
  · replace h := h.1 hc
    refine x_aload_n (i := 0) (dxX12_needsName_0 11 rfl) rfl rfl ?_
    refine cl_12_259 (kd_179 hLs1) (Nat.le_of_ble_eq_true rfl) (dxX12_needsName_0 12 rfl) h (fun v4 s3 h => ?_) (Nat.le_refl _) (Nat.le_refl _)
    obtain ⟨hFs3, h⟩ := h
    have hKs3 : kd s3 = kd σ := hFs3.1.trans hKs1
    have hLs3 : Lay s3 := hLs1.fr hFs3
    refine x_istore_n (i := 1) (dxX12_needsName_0 13 rfl) rfl (Nat.le_of_ble_eq_true rfl) rfl rfl ?_
    refine x_iload_n (i := 1) (dxX12_needsName_0 14 rfl) rfl rfl ?_
    refine x_if_ge (tgt := 53) (dxX12_needsName_0 15 rfl) (by decide) (fun hc => ?_) (fun hc => ?_)
    · replace h := h.1 hc
      refine x_aload_n (i := 0) (dxX12_needsName_0 28 rfl) rfl rfl ?_
      refine x_aload_n (i := 0) (dxX12_needsName_0 29 rfl) rfl rfl ?_
      refine gf_12_201 (kd_179 hLs3) rfl (dxX12_needsName_0 30 rfl) ?_
      refine pf_12_269 (kd_179 hLs3) (dxX12_needsName_0 31 rfl) ?_
      refine x_sto (fun s5 e6 => ?_)
      replace h := h s5 e6
      have hKs5 : kd s5 = kd σ := by rw [e6]; exact hKs3
      have hLs5 : Lay s5 := by rw [e6]; exact hLs3.sj
      refine x_aload_n (i := 0) (dxX12_needsName_1 0 rfl) rfl rfl ?_
      refine cl_12_266 (kd_179 hLs5) (Nat.le_of_ble_eq_true rfl) (dxX12_needsName_1 1 rfl) h (fun s7 h => ?_) (Nat.le_refl _) (Nat.le_refl _)
      obtain ⟨hFs7, h⟩ := h
      have hKs7 : kd s7 = kd σ := hFs7.1.trans hKs5
      have hLs7 : Lay s7 := hLs5.fr hFs7
      refine x_iload_n (i := 1) (dxX12_needsName_1 2 rfl) rfl rfl ?_
      refine x_if_ge (tgt := 76) (dxX12_needsName_1 3 rfl) (by decide) (fun hc => ?_) (fun hc => ?_)
      · replace h := h.1 hc
        refine x_iload_n (i := 1) (dxX12_needsName_1 7 rfl) rfl rfl ?_
        exact x_iret (ty := .int) rfl rfl (dxX12_needsName_1 8 rfl) ⟨_, rfl, h⟩
      · replace h := h.2 hc
        refine x_aload_n (i := 0) (dxX12_needsName_1 4 rfl) rfl rfl ?_
        refine gf_12_235 (kd_179 hLs7) rfl (dxX12_needsName_1 5 rfl) ?_
        refine x_goto (tgt := 77) (dxX12_needsName_1 6 rfl) (by decide) ?_
        exact x_iret (ty := .int) rfl rfl (dxX12_needsName_1 8 rfl) ⟨_, rfl, h⟩
    · replace h := h.2 hc
      refine x_aload_n (i := 0) (dxX12_needsName_0 16 rfl) rfl rfl ?_
      refine gf_12_235 (kd_179 hLs3) rfl (dxX12_needsName_0 17 rfl) ?_
      refine x_bipush (v := 8) (dxX12_needsName_0 18 rfl) rfl ?_
      refine x_icmp_ne (tgt := 53) (dxX12_needsName_0 19 rfl) (by decide) (fun hc => ?_) (fun hc => ?_)
      · replace h := h.1 hc
        refine x_aload_n (i := 0) (dxX12_needsName_0 28 rfl) rfl rfl ?_
        refine x_aload_n (i := 0) (dxX12_needsName_0 29 rfl) rfl rfl ?_
        refine gf_12_201 (kd_179 hLs3) rfl (dxX12_needsName_0 30 rfl) ?_
        refine pf_12_269 (kd_179 hLs3) (dxX12_needsName_0 31 rfl) ?_
        refine x_sto (fun s9 e10 => ?_)
        replace h := h s9 e10
        have hKs9 : kd s9 = kd σ := by rw [e10]; exact hKs3
        have hLs9 : Lay s9 := by rw [e10]; exact hLs3.sj
        refine x_aload_n (i := 0) (dxX12_needsName_1 0 rfl) rfl rfl ?_
        refine cl_12_266 (kd_179 hLs9) (Nat.le_of_ble_eq_true rfl) (dxX12_needsName_1 1 rfl) h (fun s11 h => ?_) (Nat.le_refl _) (Nat.le_refl _)
        obtain ⟨hFs11, h⟩ := h
        have hKs11 : kd s11 = kd σ := hFs11.1.trans hKs9
        have hLs11 : Lay s11 := hLs9.fr hFs11
        refine x_iload_n (i := 1) (dxX12_needsName_1 2 rfl) rfl rfl ?_
        refine x_if_ge (tgt := 76) (dxX12_needsName_1 3 rfl) (by decide) (fun hc => ?_) (fun hc => ?_)
        · replace h := h.1 hc
          refine x_iload_n (i := 1) (dxX12_needsName_1 7 rfl) rfl rfl ?_
          exact x_iret (ty := .int) rfl rfl (dxX12_needsName_1 8 rfl) ⟨_, rfl, h⟩
        · replace h := h.2 hc
          refine x_aload_n (i := 0) (dxX12_needsName_1 4 rfl) rfl rfl ?_
          refine gf_12_235 (kd_179 hLs11) rfl (dxX12_needsName_1 5 rfl) ?_
          refine x_goto (tgt := 77) (dxX12_needsName_1 6 rfl) (by decide) ?_
          exact x_iret (ty := .int) rfl rfl (dxX12_needsName_1 8 rfl) ⟨_, rfl, h⟩
      · replace h := h.2 hc
        refine x_aload_n (i := 0) (dxX12_needsName_0 20 rfl) rfl rfl ?_
        refine x_iconst (v := 5) (dxX12_needsName_0 21 rfl) rfl ?_
        refine cl_12_256 (kd_179 hLs3) (Nat.le_of_ble_eq_true rfl) (dxX12_needsName_0 22 rfl) h (fun v14 s13 h => ?_) (Nat.le_refl _) (Nat.le_refl _)
        obtain ⟨hFs13, h⟩ := h
        have hKs13 : kd s13 = kd σ := hFs13.1.trans hKs3
        have hLs13 : Lay s13 := hLs3.fr hFs13
        refine x_if_eq (tgt := 51) (dxX12_needsName_0 23 rfl) (by decide) (fun hc => ?_) (fun hc => ?_)
        · replace h := h.1 hc
          refine x_iconst (v := (-1)) (dxX12_needsName_0 26 rfl) rfl ?_
          exact x_iret (ty := .int) rfl rfl (dxX12_needsName_0 27 rfl) ⟨_, rfl, h⟩
        · replace h := h.2 hc
          refine x_iconst (v := 0) (dxX12_needsName_0 24 rfl) rfl ?_
          refine x_goto (tgt := 52) (dxX12_needsName_0 25 rfl) (by decide) ?_
          exact x_iret (ty := .int) rfl rfl (dxX12_needsName_0 27 rfl) ⟨_, rfl, h⟩
  · replace h := h.2 hc
    refine x_aload_n (i := 0) (dxX12_needsName_0 3 rfl) rfl rfl ?_
    refine x_iconst (v := 1) (dxX12_needsName_0 4 rfl) rfl ?_
    refine cl_12_256 (kd_179 hLs1) (Nat.le_of_ble_eq_true rfl) (dxX12_needsName_0 5 rfl) h (fun v16 s15 h => ?_) (Nat.le_refl _) (Nat.le_refl _)
    obtain ⟨hFs15, h⟩ := h
    have hKs15 : kd s15 = kd σ := hFs15.1.trans hKs1
    have hLs15 : Lay s15 := hLs1.fr hFs15
    refine x_if_eq (tgt := 19) (dxX12_needsName_0 6 rfl) (by decide) (fun hc => ?_) (fun hc => ?_)
    · replace h := h.1 hc
      refine x_iconst (v := (-1)) (dxX12_needsName_0 9 rfl) rfl ?_
      exact x_iret (ty := .int) rfl rfl (dxX12_needsName_0 10 rfl) ⟨_, rfl, h⟩
    · replace h := h.2 hc
      refine x_iconst (v := 0) (dxX12_needsName_0 7 rfl) rfl ?_
      refine x_goto (tgt := 20) (dxX12_needsName_0 8 rfl) (by decide) ?_
      exact x_iret (ty := .int) rfl rfl (dxX12_needsName_0 10 rfl) ⟨_, rfl, h⟩
theorem vcX12_tells {g : GV} {d : Nat} {P : PS → Prop} {σ : PS} (hL : Lay σ) (p0 : Int32) (p1 : Int64) (h : vp_in p0 8 ∧ ∀ s2 : PS, s2 = sj σ 189 (Int32.toNatClampNeg p0) p1 → ∀ s4 : PS, s4 = si s2 179 20 (jmax (mi s2 179 20) (p0 + 1)) → P s4) : CX12_tells g d [.ref 179, .int p0, .long p1] σ P := by
  refine x_entry (L := [some (.ref 179), some (.int p0), some (.long p1), none]) pn_12 (Nat.le_of_ble_eq_true rfl) ⟨0, rfl⟩ ?_
  show VX12_tells g d P 0 [some (.ref 179), some (.int p0), some (.long p1), none] [] σ
  refine x_aload_n (i := 0) (dxX12_tells_0 0 rfl) rfl rfl ?_
  refine gf_12_37 (kd_179 hL) (rv_179_19 hL) (dxX12_tells_0 1 rfl) ?_
  refine x_iload_n (i := 1) (dxX12_tells_0 2 rfl) rfl rfl ?_
  refine x_lload_n (i := 2) (dxX12_tells_0 3 rfl) rfl rfl ?_
  obtain ⟨hi1, h⟩ := h
  refine x_last (kd_189 hL) hi1 (dxX12_tells_0 4 rfl) ?_
  refine x_sto (fun s2 e3 => ?_)
  replace h := h s2 e3
  have hKs2 : kd s2 = kd σ := by rw [e3]; exact (rfl : kd σ = kd σ)
  have hLs2 : Lay s2 := by rw [e3]; exact hL.sj
  refine x_aload_n (i := 0) (dxX12_tells_0 5 rfl) rfl rfl ?_
  refine x_aload_n (i := 0) (dxX12_tells_0 6 rfl) rfl rfl ?_
  refine gf_12_235 (kd_179 hLs2) rfl (dxX12_tells_0 7 rfl) ?_
  refine x_iload_n (i := 1) (dxX12_tells_0 8 rfl) rfl rfl ?_
  refine x_iconst (v := 1) (dxX12_tells_0 9 rfl) rfl ?_
  refine x_iadd (dxX12_tells_0 10 rfl) ?_
  refine cl_12_272 (Nat.le_of_ble_eq_true rfl) (dxX12_tells_0 11 rfl) ?_
  refine pf_12_235 (kd_179 hLs2) (dxX12_tells_0 12 rfl) ?_
  refine x_sto (fun s4 e5 => ?_)
  replace h := h s4 e5
  have hKs4 : kd s4 = kd σ := by rw [e5]; exact hKs2
  have hLs4 : Lay s4 := by rw [e5]; exact hLs2.si
  exact x_vret rfl (dxX12_tells_0 13 rfl) ⟨rfl, h⟩
theorem vcX12_kindAt {g : GV} {d : Nat} {P : Int32 → PS → Prop} {σ : PS} (hL : Lay σ)  (h : CX12_isWord g d [.ref 179, .long 63030] σ (fun (v2 : Int32) (s1 : PS) => Fr σ s1 ∧ (v2 = 0 → CX12_isWord g d [.ref 179, .long 358040] s1 (fun (v4 : Int32) (s3 : PS) => Fr s1 s3 ∧ (v4 = 0 → CX12_isWord g d [.ref 179, .long 240373] s3 (fun (v6 : Int32) (s5 : PS) => Fr s3 s5 ∧ (v6 = 0 → CX12_isWord g d [.ref 179, .long 8903] s5 (fun (v8 : Int32) (s7 : PS) => Fr s5 s7 ∧ (v8 = 0 → CX12_isWord g d [.ref 179, .long 99233] s7 (fun (v10 : Int32) (s9 : PS) => Fr s7 s9 ∧ (v10 = 0 → P (-1) s9) ∧ (¬ v10 = 0 → P 4 s9))) ∧ (¬ v8 = 0 → P 3 s7))) ∧ (¬ v6 = 0 → P 2 s5))) ∧ (¬ v4 = 0 → P 1 s3))) ∧ (¬ v2 = 0 → P 0 s1))) : CX12_kindAt g (d + 1) [.ref 179] σ P := by
  refine x_entry (L := [some (.ref 179)]) pn_12 (Nat.le_of_ble_eq_true rfl) ⟨0, rfl⟩ ?_
  show VX12_kindAt g (d + 1) P 0 [some (.ref 179)] [] σ
  refine x_aload_n (i := 0) (dxX12_kindAt_0 0 rfl) rfl rfl ?_
  refine x_ldc2 (dxX12_kindAt_0 1 rfl) gw_1518 ?_
  refine cl_12_278 (kd_179 hL) (Nat.le_of_ble_eq_true rfl) (dxX12_kindAt_0 2 rfl) h (fun v2 s1 h => ?_) (Nat.le_refl _) (Nat.le_refl _)
  obtain ⟨hFs1, h⟩ := h
  have hKs1 : kd s1 = kd σ := hFs1.1.trans (rfl : kd σ = kd σ)
  have hLs1 : Lay s1 := hL.fr hFs1
  refine x_if_eq (tgt := 14) (dxX12_kindAt_0 3 rfl) (by decide) (fun hc => ?_) (fun hc => ?_)
  · replace h := h.1 hc
    refine x_aload_n (i := 0) (dxX12_kindAt_0 6 rfl) rfl rfl ?_
    refine x_ldc2 (dxX12_kindAt_0 7 rfl) gw_1523 ?_
    refine cl_12_278 (kd_179 hLs1) (Nat.le_of_ble_eq_true rfl) (dxX12_kindAt_0 8 rfl) h (fun v4 s3 h => ?_) (Nat.le_refl _) (Nat.le_refl _)
    obtain ⟨hFs3, h⟩ := h
    have hKs3 : kd s3 = kd σ := hFs3.1.trans hKs1
    have hLs3 : Lay s3 := hLs1.fr hFs3
    refine x_if_eq (tgt := 28) (dxX12_kindAt_0 9 rfl) (by decide) (fun hc => ?_) (fun hc => ?_)
    · replace h := h.1 hc
      refine x_aload_n (i := 0) (dxX12_kindAt_0 12 rfl) rfl rfl ?_
      refine x_ldc2 (dxX12_kindAt_0 13 rfl) gw_1524 ?_
      refine cl_12_278 (kd_179 hLs3) (Nat.le_of_ble_eq_true rfl) (dxX12_kindAt_0 14 rfl) h (fun v6 s5 h => ?_) (Nat.le_refl _) (Nat.le_refl _)
      obtain ⟨hFs5, h⟩ := h
      have hKs5 : kd s5 = kd σ := hFs5.1.trans hKs3
      have hLs5 : Lay s5 := hLs3.fr hFs5
      refine x_if_eq (tgt := 42) (dxX12_kindAt_0 15 rfl) (by decide) (fun hc => ?_) (fun hc => ?_)
      · replace h := h.1 hc
        refine x_aload_n (i := 0) (dxX12_kindAt_0 18 rfl) rfl rfl ?_
        refine x_ldc2 (dxX12_kindAt_0 19 rfl) gw_1525 ?_
        refine cl_12_278 (kd_179 hLs5) (Nat.le_of_ble_eq_true rfl) (dxX12_kindAt_0 20 rfl) h (fun v8 s7 h => ?_) (Nat.le_refl _) (Nat.le_refl _)
        obtain ⟨hFs7, h⟩ := h
        have hKs7 : kd s7 = kd σ := hFs7.1.trans hKs5
        have hLs7 : Lay s7 := hLs5.fr hFs7
        refine x_if_eq (tgt := 56) (dxX12_kindAt_0 21 rfl) (by decide) (fun hc => ?_) (fun hc => ?_)
        · replace h := h.1 hc
          refine x_aload_n (i := 0) (dxX12_kindAt_0 24 rfl) rfl rfl ?_
          refine x_ldc2 (dxX12_kindAt_0 25 rfl) gw_1526 ?_
          refine cl_12_278 (kd_179 hLs7) (Nat.le_of_ble_eq_true rfl) (dxX12_kindAt_0 26 rfl) h (fun v10 s9 h => ?_) (Nat.le_refl _) (Nat.le_refl _)
          obtain ⟨hFs9, h⟩ := h
          have hKs9 : kd s9 = kd σ := hFs9.1.trans hKs7
          have hLs9 : Lay s9 := hLs7.fr hFs9
          refine x_if_eq (tgt := 70) (dxX12_kindAt_0 27 rfl) (by decide) (fun hc => ?_) (fun hc => ?_)
          · replace h := h.1 hc
            refine x_iconst (v := (-1)) (dxX12_kindAt_0 30 rfl) rfl ?_
            exact x_iret (ty := .int) rfl rfl (dxX12_kindAt_0 31 rfl) ⟨_, rfl, h⟩
          · replace h := h.2 hc
            refine x_iconst (v := 4) (dxX12_kindAt_0 28 rfl) rfl ?_
            refine x_goto (tgt := 71) (dxX12_kindAt_0 29 rfl) (by decide) ?_
            exact x_iret (ty := .int) rfl rfl (dxX12_kindAt_0 31 rfl) ⟨_, rfl, h⟩
        · replace h := h.2 hc
          refine x_iconst (v := 3) (dxX12_kindAt_0 22 rfl) rfl ?_
          refine x_goto (tgt := 71) (dxX12_kindAt_0 23 rfl) (by decide) ?_
          exact x_iret (ty := .int) rfl rfl (dxX12_kindAt_0 31 rfl) ⟨_, rfl, h⟩
      · replace h := h.2 hc
        refine x_iconst (v := 2) (dxX12_kindAt_0 16 rfl) rfl ?_
        refine x_goto (tgt := 71) (dxX12_kindAt_0 17 rfl) (by decide) ?_
        exact x_iret (ty := .int) rfl rfl (dxX12_kindAt_0 31 rfl) ⟨_, rfl, h⟩
    · replace h := h.2 hc
      refine x_iconst (v := 1) (dxX12_kindAt_0 10 rfl) rfl ?_
      refine x_goto (tgt := 71) (dxX12_kindAt_0 11 rfl) (by decide) ?_
      exact x_iret (ty := .int) rfl rfl (dxX12_kindAt_0 31 rfl) ⟨_, rfl, h⟩
  · replace h := h.2 hc
    refine x_iconst (v := 0) (dxX12_kindAt_0 4 rfl) rfl ?_
    refine x_goto (tgt := 71) (dxX12_kindAt_0 5 rfl) (by decide) ?_
    exact x_iret (ty := .int) rfl rfl (dxX12_kindAt_0 31 rfl) ⟨_, rfl, h⟩
theorem vcX12_readsPlain {g : GV} {d : Nat} {P : Int32 → PS → Prop} {σ : PS} (hL : Lay σ) (p0 : Int32) (h : vp_in (mi σ 179 10) 200 ∧ ∀ s2 : PS, s2 = si σ 181 (Int32.toNatClampNeg (mi σ 179 10)) p0 → vp_in (mi s2 179 10) 200 ∧ ∀ s5 : PS, s5 = si s2 183 (Int32.toNatClampNeg (mi s2 179 10)) (mi s2 179 5) → CX12_nextToken g d [.ref 179] s5 (fun (s7 : PS) => Fr s5 s7 ∧ VX12_readsPlain g (d + 1) P 29 [some (.ref 179), some (.int p0), some (.int 0)] [] s7)) : CX12_readsPlain g (d + 1) [.ref 179, .int p0] σ P := by
  refine x_entry (L := [some (.ref 179), some (.int p0), none]) pn_12 (Nat.le_of_ble_eq_true rfl) ⟨1, rfl⟩ ?_
  show VX12_readsPlain g (d + 1) P 0 [some (.ref 179), some (.int p0), none] [] σ
  refine x_aload_n (i := 0) (dxX12_readsPlain_0 0 rfl) rfl rfl ?_
  refine gf_12_13 (kd_179 hL) (rv_179_11 hL) (dxX12_readsPlain_0 1 rfl) ?_
  refine x_aload_n (i := 0) (dxX12_readsPlain_0 2 rfl) rfl rfl ?_
  refine gf_12_282 (kd_179 hL) rfl (dxX12_readsPlain_0 3 rfl) ?_
  refine x_iload_n (i := 1) (dxX12_readsPlain_0 4 rfl) rfl rfl ?_
  obtain ⟨hi1, h⟩ := h
  refine x_iast (kd_181 hL) hi1 (dxX12_readsPlain_0 5 rfl) ?_
  refine x_sto (fun s2 e3 => ?_)
  replace h := h s2 e3
  have hKs2 : kd s2 = kd σ := by rw [e3]; exact (rfl : kd σ = kd σ)
  have hLs2 : Lay s2 := by rw [e3]; exact hL.si
  refine x_aload_n (i := 0) (dxX12_readsPlain_0 6 rfl) rfl rfl ?_
  refine gf_12_19 (kd_179 hLs2) (rv_179_13 hLs2) (dxX12_readsPlain_0 7 rfl) ?_
  refine x_aload_n (i := 0) (dxX12_readsPlain_0 8 rfl) rfl rfl ?_
  refine gf_12_282 (kd_179 hLs2) rfl (dxX12_readsPlain_0 9 rfl) ?_
  refine x_aload_n (i := 0) (dxX12_readsPlain_0 10 rfl) rfl rfl ?_
  refine gf_12_198 (kd_179 hLs2) rfl (dxX12_readsPlain_0 11 rfl) ?_
  obtain ⟨hi4, h⟩ := h
  refine x_iast (kd_183 hLs2) hi4 (dxX12_readsPlain_0 12 rfl) ?_
  refine x_sto (fun s5 e6 => ?_)
  replace h := h s5 e6
  have hKs5 : kd s5 = kd σ := by rw [e6]; exact hKs2
  have hLs5 : Lay s5 := by rw [e6]; exact hLs2.si
  refine x_aload_n (i := 0) (dxX12_readsPlain_0 13 rfl) rfl rfl ?_
  refine cl_12_266 (kd_179 hLs5) (Nat.le_of_ble_eq_true rfl) (dxX12_readsPlain_0 14 rfl) h (fun s7 h => ?_) (Nat.le_refl _) (Nat.le_refl _)
  obtain ⟨hFs7, h⟩ := h
  have hKs7 : kd s7 = kd σ := hFs7.1.trans hKs5
  have hLs7 : Lay s7 := hLs5.fr hFs7
  refine x_iconst (v := 0) (dxX12_readsPlain_0 15 rfl) rfl ?_
  refine x_istore_n (i := 2) (dxX12_readsPlain_0 16 rfl) rfl (Nat.le_of_ble_eq_true rfl) rfl rfl ?_
  exact h
theorem vcX12_readsPlain_29 {g : GV} {d : Nat} {P : Int32 → PS → Prop} {σ : PS} (hL : Lay σ) (l1 : Int32) (l2 : Int32) (h : (¬ l1 = 1 → (2 ≤ l2 → P 1 σ) ∧ (¬ 2 ≤ l2 → CX12_readsE g d [.ref 179, .int ((6 * (mi σ 179 10)) + l2)] σ (fun (v10 : Int32) (s9 : PS) => Fr σ s9 ∧ (¬ v10 = 0 → ∀ x11 : Int32, x11 = l2 + 1 → VX12_readsPlain g (d + 1) P 29 [some (.ref 179), some (.int l1), some (.int x11)] [] s9) ∧ (v10 = 0 → P 0 s9)))) ∧ (l1 = 1 → (4 ≤ l2 → P 1 σ) ∧ (¬ 4 ≤ l2 → CX12_readsE g d [.ref 179, .int ((6 * (mi σ 179 10)) + l2)] σ (fun (v14 : Int32) (s13 : PS) => Fr σ s13 ∧ (¬ v14 = 0 → ∀ x15 : Int32, x15 = l2 + 1 → VX12_readsPlain g (d + 1) P 29 [some (.ref 179), some (.int l1), some (.int x15)] [] s13) ∧ (v14 = 0 → P 0 s13))))) : VX12_readsPlain g (d + 1) P 29 [some (.ref 179), some (.int l1), some (.int l2)] [] σ := by
  refine x_iload_n (i := 2) (dxX12_readsPlain_0 17 rfl) rfl rfl ?_
  refine x_iload_n (i := 1) (dxX12_readsPlain_0 18 rfl) rfl rfl ?_
  refine x_iconst (v := 1) (dxX12_readsPlain_0 19 rfl) rfl ?_
  refine x_icmp_ne (tgt := 39) (dxX12_readsPlain_0 20 rfl) (by decide) (fun hc => ?_) (fun hc => ?_)
  · replace h := h.1 hc
    refine x_iconst (v := 2) (dxX12_readsPlain_0 23 rfl) rfl ?_
    refine x_icmp_ge (tgt := 67) (dxX12_readsPlain_0 24 rfl) (by decide) (fun hc => ?_) (fun hc => ?_)
    · replace h := h.1 hc
      refine x_iconst (v := 1) (dxX12_readsPlain_1 6 rfl) rfl ?_
      exact x_iret (ty := .boolean) rfl rfl (dxX12_readsPlain_1 7 rfl) ⟨_, rfl, h⟩
    · replace h := h.2 hc
      refine x_aload_n (i := 0) (dxX12_readsPlain_0 25 rfl) rfl rfl ?_
      refine x_bipush (v := 6) (dxX12_readsPlain_0 26 rfl) rfl ?_
      refine x_aload_n (i := 0) (dxX12_readsPlain_0 27 rfl) rfl rfl ?_
      refine gf_12_282 (kd_179 hL) rfl (dxX12_readsPlain_0 28 rfl) ?_
      refine x_imul (dxX12_readsPlain_0 29 rfl) ?_
      refine x_iload_n (i := 2) (dxX12_readsPlain_0 30 rfl) rfl rfl ?_
      refine x_iadd (dxX12_readsPlain_0 31 rfl) ?_
      refine cl_12_285 (kd_179 hL) (Nat.le_of_ble_eq_true rfl) (dxX12_readsPlain_1 0 rfl) h (fun v10 s9 h => ?_) (Nat.le_refl _) (Nat.le_refl _)
      obtain ⟨hFs9, h⟩ := h
      have hKs9 : kd s9 = kd σ := hFs9.1.trans (rfl : kd σ = kd σ)
      have hLs9 : Lay s9 := hL.fr hFs9
      refine x_if_ne (tgt := 61) (dxX12_readsPlain_1 1 rfl) (by decide) (fun hc => ?_) (fun hc => ?_)
      · replace h := h.1 hc
        obtain ⟨x11, e12⟩ : ∃ y : Int32, y = l2 + 1 := ⟨_, rfl⟩
        replace h := h x11 e12
        refine x_iinc (v := x11) (dxX12_readsPlain_1 4 rfl) (i := 2) rfl (by rw [e12]; rfl) (Nat.le_of_ble_eq_true rfl) rfl rfl ?_
        refine x_goto (tgt := 29) (dxX12_readsPlain_1 5 rfl) (by decide) ?_
        exact h
      · replace h := h.2 hc
        refine x_iconst (v := 0) (dxX12_readsPlain_1 2 rfl) rfl ?_
        exact x_iret (ty := .boolean) rfl rfl (dxX12_readsPlain_1 3 rfl) ⟨_, rfl, h⟩
  · replace h := h.2 hc
    refine x_iconst (v := 4) (dxX12_readsPlain_0 21 rfl) rfl ?_
    refine x_goto (tgt := 40) (dxX12_readsPlain_0 22 rfl) (by decide) ?_
    refine x_icmp_ge (tgt := 67) (dxX12_readsPlain_0 24 rfl) (by decide) (fun hc => ?_) (fun hc => ?_)
    · replace h := h.1 hc
      refine x_iconst (v := 1) (dxX12_readsPlain_1 6 rfl) rfl ?_
      exact x_iret (ty := .boolean) rfl rfl (dxX12_readsPlain_1 7 rfl) ⟨_, rfl, h⟩
    · replace h := h.2 hc
      refine x_aload_n (i := 0) (dxX12_readsPlain_0 25 rfl) rfl rfl ?_
      refine x_bipush (v := 6) (dxX12_readsPlain_0 26 rfl) rfl ?_
      refine x_aload_n (i := 0) (dxX12_readsPlain_0 27 rfl) rfl rfl ?_
      refine gf_12_282 (kd_179 hL) rfl (dxX12_readsPlain_0 28 rfl) ?_
      refine x_imul (dxX12_readsPlain_0 29 rfl) ?_
      refine x_iload_n (i := 2) (dxX12_readsPlain_0 30 rfl) rfl rfl ?_
      refine x_iadd (dxX12_readsPlain_0 31 rfl) ?_
      refine cl_12_285 (kd_179 hL) (Nat.le_of_ble_eq_true rfl) (dxX12_readsPlain_1 0 rfl) h (fun v14 s13 h => ?_) (Nat.le_refl _) (Nat.le_refl _)
      obtain ⟨hFs13, h⟩ := h
      have hKs13 : kd s13 = kd σ := hFs13.1.trans (rfl : kd σ = kd σ)
      have hLs13 : Lay s13 := hL.fr hFs13
      refine x_if_ne (tgt := 61) (dxX12_readsPlain_1 1 rfl) (by decide) (fun hc => ?_) (fun hc => ?_)
      · replace h := h.1 hc
        obtain ⟨x15, e16⟩ : ∃ y : Int32, y = l2 + 1 := ⟨_, rfl⟩
        replace h := h x15 e16
        refine x_iinc (v := x15) (dxX12_readsPlain_1 4 rfl) (i := 2) rfl (by rw [e16]; rfl) (Nat.le_of_ble_eq_true rfl) rfl rfl ?_
        refine x_goto (tgt := 29) (dxX12_readsPlain_1 5 rfl) (by decide) ?_
        exact h
      · replace h := h.2 hc
        refine x_iconst (v := 0) (dxX12_readsPlain_1 2 rfl) rfl ?_
        exact x_iret (ty := .boolean) rfl rfl (dxX12_readsPlain_1 3 rfl) ⟨_, rfl, h⟩
theorem vcX12_readsStep {g : GV} {d : Nat} {P : Int32 → PS → Prop} {σ : PS} (hL : Lay σ)  (h : CX12_kindAt g d [.ref 179] σ (fun (v2 : Int32) (s1 : PS) => Fr σ s1 ∧ (0 ≤ v2 → vp_in (mi s1 179 10) 200 ∧ ∀ s4 : PS, s4 = si s1 184 (Int32.toNatClampNeg (mi s1 179 10)) (-1) → vp_in (mi s4 179 10) 200 ∧ ∀ s7 : PS, s7 = si s4 182 (Int32.toNatClampNeg (mi s4 179 10)) (-1) → (3 ≤ v2 → ∀ x9 : Int32, x9 = mi s7 179 5 → CX12_nextToken g d [.ref 179] s7 (fun (s11 : PS) => Fr s7 s11 ∧ CX12_needsName g d [.ref 179] s11 (fun (v14 : Int32) (s13 : PS) => Fr s11 s13 ∧ (0 ≤ v14 → ∀ x15 : Int64, x15 = ml s13 179 32 → (¬ v2 = 3 → CX12_readsE g d [.ref 179, .int ((6 * (mi s13 179 10)) + 4)] s13 (fun (v18 : Int32) (s17 : PS) => Fr s13 s17 ∧ (¬ v18 = 0 → (¬ v2 = 4 → VX12_readsStep g (d + 1) P 126 [some (.ref 179), some (.int v2), some (.int x9), some (.int v14), some (.long x15), none, none] [] s17) ∧ (v2 = 4 → CX12_readsE g d [.ref 179, .int ((6 * (mi s17 179 10)) + 5)] s17 (fun (v20 : Int32) (s19 : PS) => Fr s17 s19 ∧ (¬ v20 = 0 → VX12_readsStep g (d + 1) P 126 [some (.ref 179), some (.int v2), some (.int x9), some (.int v14), some (.long x15), none, none] [] s19) ∧ (v20 = 0 → P 0 s19)))) ∧ (v18 = 0 → P 0 s17))) ∧ (v2 = 3 → CX12_readsE g d [.ref 179, .int ((6 * (mi s13 179 10)) + 0)] s13 (fun (v22 : Int32) (s21 : PS) => Fr s13 s21 ∧ (¬ v22 = 0 → (¬ v2 = 4 → VX12_readsStep g (d + 1) P 126 [some (.ref 179), some (.int v2), some (.int x9), some (.int v14), some (.long x15), none, none] [] s21) ∧ (v2 = 4 → CX12_readsE g d [.ref 179, .int ((6 * (mi s21 179 10)) + 5)] s21 (fun (v24 : Int32) (s23 : PS) => Fr s21 s23 ∧ (¬ v24 = 0 → VX12_readsStep g (d + 1) P 126 [some (.ref 179), some (.int v2), some (.int x9), some (.int v14), some (.long x15), none, none] [] s23) ∧ (v24 = 0 → P 0 s23)))) ∧ (v22 = 0 → P 0 s21)))) ∧ (¬ 0 ≤ v14 → P 0 s13)))) ∧ (¬ 3 ≤ v2 → CX12_readsPlain g d [.ref 179, .int v2] s7 (fun (v26 : Int32) (s25 : PS) => Fr s7 s25 ∧ (¬ v26 = 0 → CX12_isSign g d [.ref 179, .int 59] s25 (fun (v28 : Int32) (s27 : PS) => Fr s25 s27 ∧ (¬ v28 = 0 → ∀ s29 : PS, s29 = si s27 179 10 ((mi s27 179 10) + 1) → CX12_nextToken g d [.ref 179] s29 (fun (s31 : PS) => Fr s29 s31 ∧ P 1 s31)) ∧ (v28 = 0 → CX12_fails g d [.ref 179, .int 1] s27 (fun (v34 : Int32) (s33 : PS) => Fr s27 s33 ∧ (v34 = 0 ∨ v34 = 1) ∧ P v34 s33)))) ∧ (v26 = 0 → P 0 s25)))) ∧ (¬ 0 ≤ v2 → CX12_fails g d [.ref 179, .int 1] s1 (fun (v37 : Int32) (s36 : PS) => Fr s1 s36 ∧ (v37 = 0 ∨ v37 = 1) ∧ P v37 s36)))) : CX12_readsStep g (d + 1) [.ref 179] σ P := by
  refine x_entry (L := [some (.ref 179), none, none, none, none, none, none]) pn_12 (Nat.le_of_ble_eq_true rfl) ⟨6, rfl⟩ ?_
  show VX12_readsStep g (d + 1) P 0 [some (.ref 179), none, none, none, none, none, none] [] σ
  refine x_aload_n (i := 0) (dxX12_readsStep_0 0 rfl) rfl rfl ?_
  refine cl_12_288 (kd_179 hL) (Nat.le_of_ble_eq_true rfl) (dxX12_readsStep_0 1 rfl) h (fun v2 s1 h => ?_) (Nat.le_refl _) (Nat.le_refl _)
  obtain ⟨hFs1, h⟩ := h
  have hKs1 : kd s1 = kd σ := hFs1.1.trans (rfl : kd σ = kd σ)
  have hLs1 : Lay s1 := hL.fr hFs1
  refine x_istore_n (i := 1) (dxX12_readsStep_0 2 rfl) rfl (Nat.le_of_ble_eq_true rfl) rfl rfl ?_
  refine x_iload_n (i := 1) (dxX12_readsStep_0 3 rfl) rfl rfl ?_
  refine x_if_ge (tgt := 15) (dxX12_readsStep_0 4 rfl) (by decide) (fun hc => ?_) (fun hc => ?_)
  · replace h := h.1 hc
    refine x_aload_n (i := 0) (dxX12_readsStep_0 9 rfl) rfl rfl ?_
    refine gf_12_22 (kd_179 hLs1) (rv_179_14 hLs1) (dxX12_readsStep_0 10 rfl) ?_
    refine x_aload_n (i := 0) (dxX12_readsStep_0 11 rfl) rfl rfl ?_
    refine gf_12_282 (kd_179 hLs1) rfl (dxX12_readsStep_0 12 rfl) ?_
    refine x_iconst (v := (-1)) (dxX12_readsStep_0 13 rfl) rfl ?_
    obtain ⟨hi3, h⟩ := h
    refine x_iast (kd_184 hLs1) hi3 (dxX12_readsStep_0 14 rfl) ?_
    refine x_sto (fun s4 e5 => ?_)
    replace h := h s4 e5
    have hKs4 : kd s4 = kd σ := by rw [e5]; exact hKs1
    have hLs4 : Lay s4 := by rw [e5]; exact hLs1.si
    refine x_aload_n (i := 0) (dxX12_readsStep_0 15 rfl) rfl rfl ?_
    refine gf_12_16 (kd_179 hLs4) (rv_179_12 hLs4) (dxX12_readsStep_0 16 rfl) ?_
    refine x_aload_n (i := 0) (dxX12_readsStep_0 17 rfl) rfl rfl ?_
    refine gf_12_282 (kd_179 hLs4) rfl (dxX12_readsStep_0 18 rfl) ?_
    refine x_iconst (v := (-1)) (dxX12_readsStep_0 19 rfl) rfl ?_
    obtain ⟨hi6, h⟩ := h
    refine x_iast (kd_182 hLs4) hi6 (dxX12_readsStep_0 20 rfl) ?_
    refine x_sto (fun s7 e8 => ?_)
    replace h := h s7 e8
    have hKs7 : kd s7 = kd σ := by rw [e8]; exact hKs4
    have hLs7 : Lay s7 := by rw [e8]; exact hLs4.si
    refine x_iload_n (i := 1) (dxX12_readsStep_0 21 rfl) rfl rfl ?_
    refine x_iconst (v := 3) (dxX12_readsStep_0 22 rfl) rfl ?_
    refine x_icmp_ge (tgt := 50) (dxX12_readsStep_0 23 rfl) (by decide) (fun hc => ?_) (fun hc => ?_)
    · replace h := h.1 hc
      refine x_aload_n (i := 0) (dxX12_readsStep_0 30 rfl) rfl rfl ?_
      refine gf_12_198 (kd_179 hLs7) rfl (dxX12_readsStep_0 31 rfl) ?_
      refine x_topi (fun x9 e10 => ?_)
      replace h := h x9 e10
      refine x_istore_n (i := 2) (dxX12_readsStep_1 0 rfl) rfl (Nat.le_of_ble_eq_true rfl) rfl rfl ?_
      refine x_aload_n (i := 0) (dxX12_readsStep_1 1 rfl) rfl rfl ?_
      refine cl_12_266 (kd_179 hLs7) (Nat.le_of_ble_eq_true rfl) (dxX12_readsStep_1 2 rfl) h (fun s11 h => ?_) (Nat.le_refl _) (Nat.le_refl _)
      obtain ⟨hFs11, h⟩ := h
      have hKs11 : kd s11 = kd σ := hFs11.1.trans hKs7
      have hLs11 : Lay s11 := hLs7.fr hFs11
      refine x_aload_n (i := 0) (dxX12_readsStep_1 3 rfl) rfl rfl ?_
      refine cl_12_294 (kd_179 hLs11) (Nat.le_of_ble_eq_true rfl) (dxX12_readsStep_1 4 rfl) h (fun v14 s13 h => ?_) (Nat.le_refl _) (Nat.le_refl _)
      obtain ⟨hFs13, h⟩ := h
      have hKs13 : kd s13 = kd σ := hFs13.1.trans hKs11
      have hLs13 : Lay s13 := hLs11.fr hFs13
      refine x_istore_n (i := 3) (dxX12_readsStep_1 5 rfl) rfl (Nat.le_of_ble_eq_true rfl) rfl rfl ?_
      refine x_iload_n (i := 3) (dxX12_readsStep_1 6 rfl) rfl rfl ?_
      refine x_if_ge (tgt := 70) (dxX12_readsStep_1 7 rfl) (by decide) (fun hc => ?_) (fun hc => ?_)
      · replace h := h.1 hc
        refine x_aload_n (i := 0) (dxX12_readsStep_1 10 rfl) rfl rfl ?_
        refine gf_12_269 (kd_179 hLs13) rfl (dxX12_readsStep_1 11 rfl) ?_
        refine x_topl (fun x15 e16 => ?_)
        replace h := h x15 e16
        refine x_lstore (dxX12_readsStep_1 12 rfl) (Nat.le_of_ble_eq_true rfl) rfl rfl ?_
        refine x_aload_n (i := 0) (dxX12_readsStep_1 13 rfl) rfl rfl ?_
        refine x_bipush (v := 6) (dxX12_readsStep_1 14 rfl) rfl ?_
        refine x_aload_n (i := 0) (dxX12_readsStep_1 15 rfl) rfl rfl ?_
        refine gf_12_282 (kd_179 hLs13) rfl (dxX12_readsStep_1 16 rfl) ?_
        refine x_imul (dxX12_readsStep_1 17 rfl) ?_
        refine x_iload_n (i := 1) (dxX12_readsStep_1 18 rfl) rfl rfl ?_
        refine x_iconst (v := 3) (dxX12_readsStep_1 19 rfl) rfl ?_
        refine x_icmp_ne (tgt := 93) (dxX12_readsStep_1 20 rfl) (by decide) (fun hc => ?_) (fun hc => ?_)
        · replace h := h.1 hc
          refine x_iconst (v := 4) (dxX12_readsStep_1 23 rfl) rfl ?_
          refine x_iadd (dxX12_readsStep_1 24 rfl) ?_
          refine cl_12_285 (kd_179 hLs13) (Nat.le_of_ble_eq_true rfl) (dxX12_readsStep_1 25 rfl) h (fun v18 s17 h => ?_) (Nat.le_refl _) (Nat.le_refl _)
          obtain ⟨hFs17, h⟩ := h
          have hKs17 : kd s17 = kd σ := hFs17.1.trans hKs13
          have hLs17 : Lay s17 := hLs13.fr hFs17
          refine x_if_ne (tgt := 103) (dxX12_readsStep_1 26 rfl) (by decide) (fun hc => ?_) (fun hc => ?_)
          · replace h := h.1 hc
            refine x_iload_n (i := 1) (dxX12_readsStep_1 29 rfl) rfl rfl ?_
            refine x_iconst (v := 4) (dxX12_readsStep_1 30 rfl) rfl ?_
            refine x_icmp_ne (tgt := 126) (dxX12_readsStep_1 31 rfl) (by decide) (fun hc => ?_) (fun hc => ?_)
            · replace h := h.1 hc
              exact h
            · replace h := h.2 hc
              refine x_aload_n (i := 0) (dxX12_readsStep_2 0 rfl) rfl rfl ?_
              refine x_bipush (v := 6) (dxX12_readsStep_2 1 rfl) rfl ?_
              refine x_aload_n (i := 0) (dxX12_readsStep_2 2 rfl) rfl rfl ?_
              refine gf_12_282 (kd_179 hLs17) rfl (dxX12_readsStep_2 3 rfl) ?_
              refine x_imul (dxX12_readsStep_2 4 rfl) ?_
              refine x_iconst (v := 5) (dxX12_readsStep_2 5 rfl) rfl ?_
              refine x_iadd (dxX12_readsStep_2 6 rfl) ?_
              refine cl_12_285 (kd_179 hLs17) (Nat.le_of_ble_eq_true rfl) (dxX12_readsStep_2 7 rfl) h (fun v20 s19 h => ?_) (Nat.le_refl _) (Nat.le_refl _)
              obtain ⟨hFs19, h⟩ := h
              have hKs19 : kd s19 = kd σ := hFs19.1.trans hKs17
              have hLs19 : Lay s19 := hLs17.fr hFs19
              refine x_if_ne (tgt := 126) (dxX12_readsStep_2 8 rfl) (by decide) (fun hc => ?_) (fun hc => ?_)
              · replace h := h.1 hc
                exact h
              · replace h := h.2 hc
                refine x_iconst (v := 0) (dxX12_readsStep_2 9 rfl) rfl ?_
                exact x_iret (ty := .boolean) rfl rfl (dxX12_readsStep_2 10 rfl) ⟨_, rfl, h⟩
          · replace h := h.2 hc
            refine x_iconst (v := 0) (dxX12_readsStep_1 27 rfl) rfl ?_
            exact x_iret (ty := .boolean) rfl rfl (dxX12_readsStep_1 28 rfl) ⟨_, rfl, h⟩
        · replace h := h.2 hc
          refine x_iconst (v := 0) (dxX12_readsStep_1 21 rfl) rfl ?_
          refine x_goto (tgt := 94) (dxX12_readsStep_1 22 rfl) (by decide) ?_
          refine x_iadd (dxX12_readsStep_1 24 rfl) ?_
          refine cl_12_285 (kd_179 hLs13) (Nat.le_of_ble_eq_true rfl) (dxX12_readsStep_1 25 rfl) h (fun v22 s21 h => ?_) (Nat.le_refl _) (Nat.le_refl _)
          obtain ⟨hFs21, h⟩ := h
          have hKs21 : kd s21 = kd σ := hFs21.1.trans hKs13
          have hLs21 : Lay s21 := hLs13.fr hFs21
          refine x_if_ne (tgt := 103) (dxX12_readsStep_1 26 rfl) (by decide) (fun hc => ?_) (fun hc => ?_)
          · replace h := h.1 hc
            refine x_iload_n (i := 1) (dxX12_readsStep_1 29 rfl) rfl rfl ?_
            refine x_iconst (v := 4) (dxX12_readsStep_1 30 rfl) rfl ?_
            refine x_icmp_ne (tgt := 126) (dxX12_readsStep_1 31 rfl) (by decide) (fun hc => ?_) (fun hc => ?_)
            · replace h := h.1 hc
              exact h
            · replace h := h.2 hc
              refine x_aload_n (i := 0) (dxX12_readsStep_2 0 rfl) rfl rfl ?_
              refine x_bipush (v := 6) (dxX12_readsStep_2 1 rfl) rfl ?_
              refine x_aload_n (i := 0) (dxX12_readsStep_2 2 rfl) rfl rfl ?_
              refine gf_12_282 (kd_179 hLs21) rfl (dxX12_readsStep_2 3 rfl) ?_
              refine x_imul (dxX12_readsStep_2 4 rfl) ?_
              refine x_iconst (v := 5) (dxX12_readsStep_2 5 rfl) rfl ?_
              refine x_iadd (dxX12_readsStep_2 6 rfl) ?_
              refine cl_12_285 (kd_179 hLs21) (Nat.le_of_ble_eq_true rfl) (dxX12_readsStep_2 7 rfl) h (fun v24 s23 h => ?_) (Nat.le_refl _) (Nat.le_refl _)
              obtain ⟨hFs23, h⟩ := h
              have hKs23 : kd s23 = kd σ := hFs23.1.trans hKs21
              have hLs23 : Lay s23 := hLs21.fr hFs23
              refine x_if_ne (tgt := 126) (dxX12_readsStep_2 8 rfl) (by decide) (fun hc => ?_) (fun hc => ?_)
              · replace h := h.1 hc
                exact h
              · replace h := h.2 hc
                refine x_iconst (v := 0) (dxX12_readsStep_2 9 rfl) rfl ?_
                exact x_iret (ty := .boolean) rfl rfl (dxX12_readsStep_2 10 rfl) ⟨_, rfl, h⟩
          · replace h := h.2 hc
            refine x_iconst (v := 0) (dxX12_readsStep_1 27 rfl) rfl ?_
            exact x_iret (ty := .boolean) rfl rfl (dxX12_readsStep_1 28 rfl) ⟨_, rfl, h⟩
      · replace h := h.2 hc
        refine x_iconst (v := 0) (dxX12_readsStep_1 8 rfl) rfl ?_
        exact x_iret (ty := .boolean) rfl rfl (dxX12_readsStep_1 9 rfl) ⟨_, rfl, h⟩
    · replace h := h.2 hc
      refine x_aload_n (i := 0) (dxX12_readsStep_0 24 rfl) rfl rfl ?_
      refine x_iload_n (i := 1) (dxX12_readsStep_0 25 rfl) rfl rfl ?_
      refine cl_12_291 (kd_179 hLs7) (Nat.le_of_ble_eq_true rfl) (dxX12_readsStep_0 26 rfl) h (fun v26 s25 h => ?_) (Nat.le_refl _) (Nat.le_refl _)
      obtain ⟨hFs25, h⟩ := h
      have hKs25 : kd s25 = kd σ := hFs25.1.trans hKs7
      have hLs25 : Lay s25 := hLs7.fr hFs25
      refine x_if_ne (tgt := 215) (dxX12_readsStep_0 27 rfl) (by decide) (fun hc => ?_) (fun hc => ?_)
      · replace h := h.1 hc
        refine x_aload_n (i := 0) (dxX12_readsStep_3 29 rfl) rfl rfl ?_
        refine x_bipush (v := 59) (dxX12_readsStep_3 30 rfl) rfl ?_
        refine cl_12_248 (kd_179 hLs25) (Nat.le_of_ble_eq_true rfl) (dxX12_readsStep_3 31 rfl) h (fun v28 s27 h => ?_) (Nat.le_refl _) (Nat.le_refl _)
        obtain ⟨hFs27, h⟩ := h
        have hKs27 : kd s27 = kd σ := hFs27.1.trans hKs25
        have hLs27 : Lay s27 := hLs25.fr hFs27
        refine x_if_ne (tgt := 230) (dxX12_readsStep_4 0 rfl) (by decide) (fun hc => ?_) (fun hc => ?_)
        · replace h := h.1 hc
          refine x_aload_n (i := 0) (dxX12_readsStep_4 5 rfl) rfl rfl ?_
          refine x_dup (dxX12_readsStep_4 6 rfl) rfl ?_
          refine gf_12_282 (kd_179 hLs27) rfl (dxX12_readsStep_4 7 rfl) ?_
          refine x_iconst (v := 1) (dxX12_readsStep_4 8 rfl) rfl ?_
          refine x_iadd (dxX12_readsStep_4 9 rfl) ?_
          refine pf_12_282 (kd_179 hLs27) (dxX12_readsStep_4 10 rfl) ?_
          refine x_sto (fun s29 e30 => ?_)
          replace h := h s29 e30
          have hKs29 : kd s29 = kd σ := by rw [e30]; exact hKs27
          have hLs29 : Lay s29 := by rw [e30]; exact hLs27.si
          refine x_aload_n (i := 0) (dxX12_readsStep_4 11 rfl) rfl rfl ?_
          refine cl_12_266 (kd_179 hLs29) (Nat.le_of_ble_eq_true rfl) (dxX12_readsStep_4 12 rfl) h (fun s31 h => ?_) (Nat.le_refl _) (Nat.le_refl _)
          obtain ⟨hFs31, h⟩ := h
          have hKs31 : kd s31 = kd σ := hFs31.1.trans hKs29
          have hLs31 : Lay s31 := hLs29.fr hFs31
          refine x_iconst (v := 1) (dxX12_readsStep_4 13 rfl) rfl ?_
          exact x_iret (ty := .boolean) rfl rfl (dxX12_readsStep_4 14 rfl) ⟨_, rfl, h⟩
        · replace h := h.2 hc
          refine x_aload_n (i := 0) (dxX12_readsStep_4 1 rfl) rfl rfl ?_
          refine x_iconst (v := 1) (dxX12_readsStep_4 2 rfl) rfl ?_
          refine cl_12_256 (kd_179 hLs27) (Nat.le_of_ble_eq_true rfl) (dxX12_readsStep_4 3 rfl) h (fun v34 s33 h => ?_) (Nat.le_refl _) (Nat.le_refl _)
          obtain ⟨hFs33, h⟩ := h
          have hKs33 : kd s33 = kd σ := hFs33.1.trans hKs27
          have hLs33 : Lay s33 := hLs27.fr hFs33
          obtain ⟨hb35, h⟩ := h
          exact x_iret (ty := .boolean) rfl (nb01 hb35) (dxX12_readsStep_4 4 rfl) ⟨_, rfl, h⟩
      · replace h := h.2 hc
        refine x_iconst (v := 0) (dxX12_readsStep_0 28 rfl) rfl ?_
        exact x_iret (ty := .boolean) rfl rfl (dxX12_readsStep_0 29 rfl) ⟨_, rfl, h⟩
  · replace h := h.2 hc
    refine x_aload_n (i := 0) (dxX12_readsStep_0 5 rfl) rfl rfl ?_
    refine x_iconst (v := 1) (dxX12_readsStep_0 6 rfl) rfl ?_
    refine cl_12_256 (kd_179 hLs1) (Nat.le_of_ble_eq_true rfl) (dxX12_readsStep_0 7 rfl) h (fun v37 s36 h => ?_) (Nat.le_refl _) (Nat.le_refl _)
    obtain ⟨hFs36, h⟩ := h
    have hKs36 : kd s36 = kd σ := hFs36.1.trans hKs1
    have hLs36 : Lay s36 := hLs1.fr hFs36
    obtain ⟨hb38, h⟩ := h
    exact x_iret (ty := .boolean) rfl (nb01 hb38) (dxX12_readsStep_0 8 rfl) ⟨_, rfl, h⟩
theorem vcX12_readsStep_126 {g : GV} {d : Nat} {P : Int32 → PS → Prop} {σ : PS} (hL : Lay σ) (l1 : Int32) (l2 : Int32) (l3 : Int32) (l4 : Int64) (h : CX12_tells g d [.ref 179, .int l3, .long l4] σ (fun (s39 : PS) => Fr σ s39 ∧ (¬ l1 = 3 → vp_in (mi s39 179 10) 200 ∧ ∀ s42 : PS, s42 = si s39 184 (Int32.toNatClampNeg (mi s39 179 10)) l3 → vp_in (mi s42 179 10) 200 ∧ ∀ s45 : PS, s45 = si s42 185 (Int32.toNatClampNeg (mi s42 179 10)) l2 → CX12_kindAt g d [.ref 179] s45 (fun (v48 : Int32) (s47 : PS) => Fr s45 s47 ∧ (v48 < 0 → CX12_fails g d [.ref 179, .int 1] s47 (fun (v50 : Int32) (s49 : PS) => Fr s47 s49 ∧ (v50 = 0 ∨ v50 = 1) ∧ P v50 s49)) ∧ (¬ v48 < 0 → (v48 ≤ 2 → CX12_readsPlain g d [.ref 179, .int v48] s47 (fun (v53 : Int32) (s52 : PS) => Fr s47 s52 ∧ (¬ v53 = 0 → CX12_isSign g d [.ref 179, .int 59] s52 (fun (v55 : Int32) (s54 : PS) => Fr s52 s54 ∧ (¬ v55 = 0 → ∀ s56 : PS, s56 = si s54 179 10 ((mi s54 179 10) + 1) → CX12_nextToken g d [.ref 179] s56 (fun (s58 : PS) => Fr s56 s58 ∧ P 1 s58)) ∧ (v55 = 0 → CX12_fails g d [.ref 179, .int 1] s54 (fun (v61 : Int32) (s60 : PS) => Fr s54 s60 ∧ (v61 = 0 ∨ v61 = 1) ∧ P v61 s60)))) ∧ (v53 = 0 → P 0 s52))) ∧ (¬ v48 ≤ 2 → CX12_fails g d [.ref 179, .int 1] s47 (fun (v64 : Int32) (s63 : PS) => Fr s47 s63 ∧ (v64 = 0 ∨ v64 = 1) ∧ P v64 s63))))) ∧ (l1 = 3 → vp_in (mi s39 179 10) 200 ∧ ∀ s67 : PS, s67 = si s39 181 (Int32.toNatClampNeg (mi s39 179 10)) 3 → vp_in (mi s67 179 10) 200 ∧ ∀ s70 : PS, s70 = si s67 182 (Int32.toNatClampNeg (mi s67 179 10)) l3 → CX12_isSign g d [.ref 179, .int 59] s70 (fun (v73 : Int32) (s72 : PS) => Fr s70 s72 ∧ (¬ v73 = 0 → ∀ s74 : PS, s74 = si s72 179 10 ((mi s72 179 10) + 1) → CX12_nextToken g d [.ref 179] s74 (fun (s76 : PS) => Fr s74 s76 ∧ P 1 s76)) ∧ (v73 = 0 → CX12_fails g d [.ref 179, .int 1] s72 (fun (v79 : Int32) (s78 : PS) => Fr s72 s78 ∧ (v79 = 0 ∨ v79 = 1) ∧ P v79 s78)))))) : VX12_readsStep g (d + 1) P 126 [some (.ref 179), some (.int l1), some (.int l2), some (.int l3), some (.long l4), none, none] [] σ := by
  refine x_aload_n (i := 0) (dxX12_readsStep_2 11 rfl) rfl rfl ?_
  refine x_iload_n (i := 3) (dxX12_readsStep_2 12 rfl) rfl rfl ?_
  refine x_lload (dxX12_readsStep_2 13 rfl) rfl ?_
  refine cl_12_297 (kd_179 hL) (Nat.le_of_ble_eq_true rfl) (dxX12_readsStep_2 14 rfl) h (fun s39 h => ?_) (Nat.le_refl _) (Nat.le_refl _)
  obtain ⟨hFs39, h⟩ := h
  have hKs39 : kd s39 = kd σ := hFs39.1.trans (rfl : kd σ = kd σ)
  have hLs39 : Lay s39 := hL.fr hFs39
  refine x_iload_n (i := 1) (dxX12_readsStep_2 15 rfl) rfl rfl ?_
  refine x_iconst (v := 3) (dxX12_readsStep_2 16 rfl) rfl ?_
  refine x_icmp_ne (tgt := 161) (dxX12_readsStep_2 17 rfl) (by decide) (fun hc => ?_) (fun hc => ?_)
  · replace h := h.1 hc
    refine x_aload_n (i := 0) (dxX12_readsStep_2 31 rfl) rfl rfl ?_
    refine gf_12_22 (kd_179 hLs39) (rv_179_14 hLs39) (dxX12_readsStep_3 0 rfl) ?_
    refine x_aload_n (i := 0) (dxX12_readsStep_3 1 rfl) rfl rfl ?_
    refine gf_12_282 (kd_179 hLs39) rfl (dxX12_readsStep_3 2 rfl) ?_
    refine x_iload_n (i := 3) (dxX12_readsStep_3 3 rfl) rfl rfl ?_
    obtain ⟨hi41, h⟩ := h
    refine x_iast (kd_184 hLs39) hi41 (dxX12_readsStep_3 4 rfl) ?_
    refine x_sto (fun s42 e43 => ?_)
    replace h := h s42 e43
    have hKs42 : kd s42 = kd σ := by rw [e43]; exact hKs39
    have hLs42 : Lay s42 := by rw [e43]; exact hLs39.si
    refine x_aload_n (i := 0) (dxX12_readsStep_3 5 rfl) rfl rfl ?_
    refine gf_12_25 (kd_179 hLs42) (rv_179_15 hLs42) (dxX12_readsStep_3 6 rfl) ?_
    refine x_aload_n (i := 0) (dxX12_readsStep_3 7 rfl) rfl rfl ?_
    refine gf_12_282 (kd_179 hLs42) rfl (dxX12_readsStep_3 8 rfl) ?_
    refine x_iload_n (i := 2) (dxX12_readsStep_3 9 rfl) rfl rfl ?_
    obtain ⟨hi44, h⟩ := h
    refine x_iast (kd_185 hLs42) hi44 (dxX12_readsStep_3 10 rfl) ?_
    refine x_sto (fun s45 e46 => ?_)
    replace h := h s45 e46
    have hKs45 : kd s45 = kd σ := by rw [e46]; exact hKs42
    have hLs45 : Lay s45 := by rw [e46]; exact hLs42.si
    refine x_aload_n (i := 0) (dxX12_readsStep_3 11 rfl) rfl rfl ?_
    refine cl_12_288 (kd_179 hLs45) (Nat.le_of_ble_eq_true rfl) (dxX12_readsStep_3 12 rfl) h (fun v48 s47 h => ?_) (Nat.le_refl _) (Nat.le_refl _)
    obtain ⟨hFs47, h⟩ := h
    have hKs47 : kd s47 = kd σ := hFs47.1.trans hKs45
    have hLs47 : Lay s47 := hLs45.fr hFs47
    refine x_istore (dxX12_readsStep_3 13 rfl) (Nat.le_of_ble_eq_true rfl) rfl rfl ?_
    refine x_iload (dxX12_readsStep_3 14 rfl) rfl ?_
    refine x_if_lt (tgt := 198) (dxX12_readsStep_3 15 rfl) (by decide) (fun hc => ?_) (fun hc => ?_)
    · replace h := h.1 hc
      refine x_aload_n (i := 0) (dxX12_readsStep_3 19 rfl) rfl rfl ?_
      refine x_iconst (v := 1) (dxX12_readsStep_3 20 rfl) rfl ?_
      refine cl_12_256 (kd_179 hLs47) (Nat.le_of_ble_eq_true rfl) (dxX12_readsStep_3 21 rfl) h (fun v50 s49 h => ?_) (Nat.le_refl _) (Nat.le_refl _)
      obtain ⟨hFs49, h⟩ := h
      have hKs49 : kd s49 = kd σ := hFs49.1.trans hKs47
      have hLs49 : Lay s49 := hLs47.fr hFs49
      obtain ⟨hb51, h⟩ := h
      exact x_iret (ty := .boolean) rfl (nb01 hb51) (dxX12_readsStep_3 22 rfl) ⟨_, rfl, h⟩
    · replace h := h.2 hc
      refine x_iload (dxX12_readsStep_3 16 rfl) rfl ?_
      refine x_iconst (v := 2) (dxX12_readsStep_3 17 rfl) rfl ?_
      refine x_icmp_le (tgt := 204) (dxX12_readsStep_3 18 rfl) (by decide) (fun hc => ?_) (fun hc => ?_)
      · replace h := h.1 hc
        refine x_aload_n (i := 0) (dxX12_readsStep_3 23 rfl) rfl rfl ?_
        refine x_iload (dxX12_readsStep_3 24 rfl) rfl ?_
        refine cl_12_291 (kd_179 hLs47) (Nat.le_of_ble_eq_true rfl) (dxX12_readsStep_3 25 rfl) h (fun v53 s52 h => ?_) (Nat.le_refl _) (Nat.le_refl _)
        obtain ⟨hFs52, h⟩ := h
        have hKs52 : kd s52 = kd σ := hFs52.1.trans hKs47
        have hLs52 : Lay s52 := hLs47.fr hFs52
        refine x_if_ne (tgt := 215) (dxX12_readsStep_3 26 rfl) (by decide) (fun hc => ?_) (fun hc => ?_)
        · replace h := h.1 hc
          refine x_aload_n (i := 0) (dxX12_readsStep_3 29 rfl) rfl rfl ?_
          refine x_bipush (v := 59) (dxX12_readsStep_3 30 rfl) rfl ?_
          refine cl_12_248 (kd_179 hLs52) (Nat.le_of_ble_eq_true rfl) (dxX12_readsStep_3 31 rfl) h (fun v55 s54 h => ?_) (Nat.le_refl _) (Nat.le_refl _)
          obtain ⟨hFs54, h⟩ := h
          have hKs54 : kd s54 = kd σ := hFs54.1.trans hKs52
          have hLs54 : Lay s54 := hLs52.fr hFs54
          refine x_if_ne (tgt := 230) (dxX12_readsStep_4 0 rfl) (by decide) (fun hc => ?_) (fun hc => ?_)
          · replace h := h.1 hc
            refine x_aload_n (i := 0) (dxX12_readsStep_4 5 rfl) rfl rfl ?_
            refine x_dup (dxX12_readsStep_4 6 rfl) rfl ?_
            refine gf_12_282 (kd_179 hLs54) rfl (dxX12_readsStep_4 7 rfl) ?_
            refine x_iconst (v := 1) (dxX12_readsStep_4 8 rfl) rfl ?_
            refine x_iadd (dxX12_readsStep_4 9 rfl) ?_
            refine pf_12_282 (kd_179 hLs54) (dxX12_readsStep_4 10 rfl) ?_
            refine x_sto (fun s56 e57 => ?_)
            replace h := h s56 e57
            have hKs56 : kd s56 = kd σ := by rw [e57]; exact hKs54
            have hLs56 : Lay s56 := by rw [e57]; exact hLs54.si
            refine x_aload_n (i := 0) (dxX12_readsStep_4 11 rfl) rfl rfl ?_
            refine cl_12_266 (kd_179 hLs56) (Nat.le_of_ble_eq_true rfl) (dxX12_readsStep_4 12 rfl) h (fun s58 h => ?_) (Nat.le_refl _) (Nat.le_refl _)
            obtain ⟨hFs58, h⟩ := h
            have hKs58 : kd s58 = kd σ := hFs58.1.trans hKs56
            have hLs58 : Lay s58 := hLs56.fr hFs58
            refine x_iconst (v := 1) (dxX12_readsStep_4 13 rfl) rfl ?_
            exact x_iret (ty := .boolean) rfl rfl (dxX12_readsStep_4 14 rfl) ⟨_, rfl, h⟩
          · replace h := h.2 hc
            refine x_aload_n (i := 0) (dxX12_readsStep_4 1 rfl) rfl rfl ?_
            refine x_iconst (v := 1) (dxX12_readsStep_4 2 rfl) rfl ?_
            refine cl_12_256 (kd_179 hLs54) (Nat.le_of_ble_eq_true rfl) (dxX12_readsStep_4 3 rfl) h (fun v61 s60 h => ?_) (Nat.le_refl _) (Nat.le_refl _)
            obtain ⟨hFs60, h⟩ := h
            have hKs60 : kd s60 = kd σ := hFs60.1.trans hKs54
            have hLs60 : Lay s60 := hLs54.fr hFs60
            obtain ⟨hb62, h⟩ := h
            exact x_iret (ty := .boolean) rfl (nb01 hb62) (dxX12_readsStep_4 4 rfl) ⟨_, rfl, h⟩
        · replace h := h.2 hc
          refine x_iconst (v := 0) (dxX12_readsStep_3 27 rfl) rfl ?_
          exact x_iret (ty := .boolean) rfl rfl (dxX12_readsStep_3 28 rfl) ⟨_, rfl, h⟩
      · replace h := h.2 hc
        refine x_aload_n (i := 0) (dxX12_readsStep_3 19 rfl) rfl rfl ?_
        refine x_iconst (v := 1) (dxX12_readsStep_3 20 rfl) rfl ?_
        refine cl_12_256 (kd_179 hLs47) (Nat.le_of_ble_eq_true rfl) (dxX12_readsStep_3 21 rfl) h (fun v64 s63 h => ?_) (Nat.le_refl _) (Nat.le_refl _)
        obtain ⟨hFs63, h⟩ := h
        have hKs63 : kd s63 = kd σ := hFs63.1.trans hKs47
        have hLs63 : Lay s63 := hLs47.fr hFs63
        obtain ⟨hb65, h⟩ := h
        exact x_iret (ty := .boolean) rfl (nb01 hb65) (dxX12_readsStep_3 22 rfl) ⟨_, rfl, h⟩
  · replace h := h.2 hc
    refine x_aload_n (i := 0) (dxX12_readsStep_2 18 rfl) rfl rfl ?_
    refine gf_12_13 (kd_179 hLs39) (rv_179_11 hLs39) (dxX12_readsStep_2 19 rfl) ?_
    refine x_aload_n (i := 0) (dxX12_readsStep_2 20 rfl) rfl rfl ?_
    refine gf_12_282 (kd_179 hLs39) rfl (dxX12_readsStep_2 21 rfl) ?_
    refine x_iconst (v := 3) (dxX12_readsStep_2 22 rfl) rfl ?_
    obtain ⟨hi66, h⟩ := h
    refine x_iast (kd_181 hLs39) hi66 (dxX12_readsStep_2 23 rfl) ?_
    refine x_sto (fun s67 e68 => ?_)
    replace h := h s67 e68
    have hKs67 : kd s67 = kd σ := by rw [e68]; exact hKs39
    have hLs67 : Lay s67 := by rw [e68]; exact hLs39.si
    refine x_aload_n (i := 0) (dxX12_readsStep_2 24 rfl) rfl rfl ?_
    refine gf_12_16 (kd_179 hLs67) (rv_179_12 hLs67) (dxX12_readsStep_2 25 rfl) ?_
    refine x_aload_n (i := 0) (dxX12_readsStep_2 26 rfl) rfl rfl ?_
    refine gf_12_282 (kd_179 hLs67) rfl (dxX12_readsStep_2 27 rfl) ?_
    refine x_iload_n (i := 3) (dxX12_readsStep_2 28 rfl) rfl rfl ?_
    obtain ⟨hi69, h⟩ := h
    refine x_iast (kd_182 hLs67) hi69 (dxX12_readsStep_2 29 rfl) ?_
    refine x_sto (fun s70 e71 => ?_)
    replace h := h s70 e71
    have hKs70 : kd s70 = kd σ := by rw [e71]; exact hKs67
    have hLs70 : Lay s70 := by rw [e71]; exact hLs67.si
    refine x_goto (tgt := 215) (dxX12_readsStep_2 30 rfl) (by decide) ?_
    refine x_aload_n (i := 0) (dxX12_readsStep_3 29 rfl) rfl rfl ?_
    refine x_bipush (v := 59) (dxX12_readsStep_3 30 rfl) rfl ?_
    refine cl_12_248 (kd_179 hLs70) (Nat.le_of_ble_eq_true rfl) (dxX12_readsStep_3 31 rfl) h (fun v73 s72 h => ?_) (Nat.le_refl _) (Nat.le_refl _)
    obtain ⟨hFs72, h⟩ := h
    have hKs72 : kd s72 = kd σ := hFs72.1.trans hKs70
    have hLs72 : Lay s72 := hLs70.fr hFs72
    refine x_if_ne (tgt := 230) (dxX12_readsStep_4 0 rfl) (by decide) (fun hc => ?_) (fun hc => ?_)
    · replace h := h.1 hc
      refine x_aload_n (i := 0) (dxX12_readsStep_4 5 rfl) rfl rfl ?_
      refine x_dup (dxX12_readsStep_4 6 rfl) rfl ?_
      refine gf_12_282 (kd_179 hLs72) rfl (dxX12_readsStep_4 7 rfl) ?_
      refine x_iconst (v := 1) (dxX12_readsStep_4 8 rfl) rfl ?_
      refine x_iadd (dxX12_readsStep_4 9 rfl) ?_
      refine pf_12_282 (kd_179 hLs72) (dxX12_readsStep_4 10 rfl) ?_
      refine x_sto (fun s74 e75 => ?_)
      replace h := h s74 e75
      have hKs74 : kd s74 = kd σ := by rw [e75]; exact hKs72
      have hLs74 : Lay s74 := by rw [e75]; exact hLs72.si
      refine x_aload_n (i := 0) (dxX12_readsStep_4 11 rfl) rfl rfl ?_
      refine cl_12_266 (kd_179 hLs74) (Nat.le_of_ble_eq_true rfl) (dxX12_readsStep_4 12 rfl) h (fun s76 h => ?_) (Nat.le_refl _) (Nat.le_refl _)
      obtain ⟨hFs76, h⟩ := h
      have hKs76 : kd s76 = kd σ := hFs76.1.trans hKs74
      have hLs76 : Lay s76 := hLs74.fr hFs76
      refine x_iconst (v := 1) (dxX12_readsStep_4 13 rfl) rfl ?_
      exact x_iret (ty := .boolean) rfl rfl (dxX12_readsStep_4 14 rfl) ⟨_, rfl, h⟩
    · replace h := h.2 hc
      refine x_aload_n (i := 0) (dxX12_readsStep_4 1 rfl) rfl rfl ?_
      refine x_iconst (v := 1) (dxX12_readsStep_4 2 rfl) rfl ?_
      refine cl_12_256 (kd_179 hLs72) (Nat.le_of_ble_eq_true rfl) (dxX12_readsStep_4 3 rfl) h (fun v79 s78 h => ?_) (Nat.le_refl _) (Nat.le_refl _)
      obtain ⟨hFs78, h⟩ := h
      have hKs78 : kd s78 = kd σ := hFs78.1.trans hKs72
      have hLs78 : Lay s78 := hLs72.fr hFs78
      obtain ⟨hb80, h⟩ := h
      exact x_iret (ty := .boolean) rfl (nb01 hb80) (dxX12_readsStep_4 4 rfl) ⟨_, rfl, h⟩
theorem vcX12_readsAll {g : GV} {d : Nat} {P : Int32 → PS → Prop} {σ : PS} (hL : Lay σ)  (h : ∀ s1 : PS, s1 = si σ 179 10 0 → ∀ s3 : PS, s3 = si s1 179 20 0 → ∀ s5 : PS, s5 = si s3 179 21 0 → ∀ s7 : PS, s7 = si s5 179 3 (mi s5 179 1) → ∀ s9 : PS, s9 = si s7 179 1 0 → ∀ s11 : PS, s11 = si s9 179 4 0 → CX12_nextToken g d [.ref 179] s11 (fun (s13 : PS) => Fr s11 s13 ∧ VX12_readsAll g (d + 1) P 37 [some (.ref 179)] [] s13)) : CX12_readsAll g (d + 1) [.ref 179] σ P := by
  refine x_entry (L := [some (.ref 179)]) pn_12 (Nat.le_of_ble_eq_true rfl) ⟨0, rfl⟩ ?_
  show VX12_readsAll g (d + 1) P 0 [some (.ref 179)] [] σ
  refine x_aload_n (i := 0) (dxX12_readsAll_0 0 rfl) rfl rfl ?_
  refine x_iconst (v := 0) (dxX12_readsAll_0 1 rfl) rfl ?_
  refine pf_12_282 (kd_179 hL) (dxX12_readsAll_0 2 rfl) ?_
  refine x_sto (fun s1 e2 => ?_)
  replace h := h s1 e2
  have hKs1 : kd s1 = kd σ := by rw [e2]; exact (rfl : kd σ = kd σ)
  have hLs1 : Lay s1 := by rw [e2]; exact hL.si
  refine x_aload_n (i := 0) (dxX12_readsAll_0 3 rfl) rfl rfl ?_
  refine x_iconst (v := 0) (dxX12_readsAll_0 4 rfl) rfl ?_
  refine pf_12_235 (kd_179 hLs1) (dxX12_readsAll_0 5 rfl) ?_
  refine x_sto (fun s3 e4 => ?_)
  replace h := h s3 e4
  have hKs3 : kd s3 = kd σ := by rw [e4]; exact hKs1
  have hLs3 : Lay s3 := by rw [e4]; exact hLs1.si
  refine x_aload_n (i := 0) (dxX12_readsAll_0 6 rfl) rfl rfl ?_
  refine x_iconst (v := 0) (dxX12_readsAll_0 7 rfl) rfl ?_
  refine pf_12_222 (kd_179 hLs3) (dxX12_readsAll_0 8 rfl) ?_
  refine x_sto (fun s5 e6 => ?_)
  replace h := h s5 e6
  have hKs5 : kd s5 = kd σ := by rw [e6]; exact hKs3
  have hLs5 : Lay s5 := by rw [e6]; exact hLs3.si
  refine x_aload_n (i := 0) (dxX12_readsAll_0 9 rfl) rfl rfl ?_
  refine x_aload_n (i := 0) (dxX12_readsAll_0 10 rfl) rfl rfl ?_
  refine gf_12_189 (kd_179 hLs5) rfl (dxX12_readsAll_0 11 rfl) ?_
  refine pf_12_192 (kd_179 hLs5) (dxX12_readsAll_0 12 rfl) ?_
  refine x_sto (fun s7 e8 => ?_)
  replace h := h s7 e8
  have hKs7 : kd s7 = kd σ := by rw [e8]; exact hKs5
  have hLs7 : Lay s7 := by rw [e8]; exact hLs5.si
  refine x_aload_n (i := 0) (dxX12_readsAll_0 13 rfl) rfl rfl ?_
  refine x_iconst (v := 0) (dxX12_readsAll_0 14 rfl) rfl ?_
  refine pf_12_189 (kd_179 hLs7) (dxX12_readsAll_0 15 rfl) ?_
  refine x_sto (fun s9 e10 => ?_)
  replace h := h s9 e10
  have hKs9 : kd s9 = kd σ := by rw [e10]; exact hKs7
  have hLs9 : Lay s9 := by rw [e10]; exact hLs7.si
  refine x_aload_n (i := 0) (dxX12_readsAll_0 16 rfl) rfl rfl ?_
  refine x_iconst (v := 0) (dxX12_readsAll_0 17 rfl) rfl ?_
  refine pf_12_195 (kd_179 hLs9) (dxX12_readsAll_0 18 rfl) ?_
  refine x_sto (fun s11 e12 => ?_)
  replace h := h s11 e12
  have hKs11 : kd s11 = kd σ := by rw [e12]; exact hKs9
  have hLs11 : Lay s11 := by rw [e12]; exact hLs9.si
  refine x_aload_n (i := 0) (dxX12_readsAll_0 19 rfl) rfl rfl ?_
  refine cl_12_266 (kd_179 hLs11) (Nat.le_of_ble_eq_true rfl) (dxX12_readsAll_0 20 rfl) h (fun s13 h => ?_) (Nat.le_refl _) (Nat.le_refl _)
  obtain ⟨hFs13, h⟩ := h
  have hKs13 : kd s13 = kd σ := hFs13.1.trans hKs11
  have hLs13 : Lay s13 := hLs11.fr hFs13
  exact h
theorem vcX12_readsAll_37 {g : GV} {d : Nat} {P : Int32 → PS → Prop} {σ : PS} (hL : Lay σ)  (h : ((mi σ 179 6) = 0 → P 1 σ) ∧ (¬ (mi σ 179 6) = 0 → CX12_readsStep g d [.ref 179] σ (fun (v16 : Int32) (s15 : PS) => Fr σ s15 ∧ (¬ v16 = 0 → VX12_readsAll g (d + 1) P 37 [some (.ref 179)] [] s15) ∧ (v16 = 0 → P 0 s15)))) : VX12_readsAll g (d + 1) P 37 [some (.ref 179)] [] σ := by
  refine x_aload_n (i := 0) (dxX12_readsAll_0 21 rfl) rfl rfl ?_
  refine gf_12_208 (kd_179 hL) rfl (dxX12_readsAll_0 22 rfl) ?_
  refine x_if_eq (tgt := 53) (dxX12_readsAll_0 23 rfl) (by decide) (fun hc => ?_) (fun hc => ?_)
  · replace h := h.1 hc
    refine x_iconst (v := 1) (dxX12_readsAll_0 29 rfl) rfl ?_
    exact x_iret (ty := .boolean) rfl rfl (dxX12_readsAll_0 30 rfl) ⟨_, rfl, h⟩
  · replace h := h.2 hc
    refine x_aload_n (i := 0) (dxX12_readsAll_0 24 rfl) rfl rfl ?_
    refine cl_12_301 (kd_179 hL) (Nat.le_of_ble_eq_true rfl) (dxX12_readsAll_0 25 rfl) h (fun v16 s15 h => ?_) (Nat.le_refl _) (Nat.le_refl _)
    obtain ⟨hFs15, h⟩ := h
    have hKs15 : kd s15 = kd σ := hFs15.1.trans (rfl : kd σ = kd σ)
    have hLs15 : Lay s15 := hL.fr hFs15
    refine x_if_ne (tgt := 37) (dxX12_readsAll_0 26 rfl) (by decide) (fun hc => ?_) (fun hc => ?_)
    · replace h := h.1 hc
      exact h
    · replace h := h.2 hc
      refine x_iconst (v := 0) (dxX12_readsAll_0 27 rfl) rfl ?_
      exact x_iret (ty := .boolean) rfl rfl (dxX12_readsAll_0 28 rfl) ⟨_, rfl, h⟩
theorem vcX12_wrongAt {g : GV} {d : Nat} {P : Int32 → PS → Prop} {σ : PS} (hL : Lay σ) (p0 : Int32) (p1 : Int32) (h : ∀ s1 : PS, s1 = si σ 179 9 (p0 + (16 * p1)) → P 0 s1) : CX12_wrongAt g d [.ref 179, .int p0, .int p1] σ P := by
  refine x_entry (L := [some (.ref 179), some (.int p0), some (.int p1)]) pn_12 (Nat.le_of_ble_eq_true rfl) ⟨0, rfl⟩ ?_
  show VX12_wrongAt g d P 0 [some (.ref 179), some (.int p0), some (.int p1)] [] σ
  refine x_aload_n (i := 0) (dxX12_wrongAt_0 0 rfl) rfl rfl ?_
  refine x_iload_n (i := 1) (dxX12_wrongAt_0 1 rfl) rfl rfl ?_
  refine x_bipush (v := 16) (dxX12_wrongAt_0 2 rfl) rfl ?_
  refine x_iload_n (i := 2) (dxX12_wrongAt_0 3 rfl) rfl rfl ?_
  refine x_imul (dxX12_wrongAt_0 4 rfl) ?_
  refine x_iadd (dxX12_wrongAt_0 5 rfl) ?_
  refine pf_12_219 (kd_179 hL) (dxX12_wrongAt_0 6 rfl) ?_
  refine x_sto (fun s1 e2 => ?_)
  replace h := h s1 e2
  have hKs1 : kd s1 = kd σ := by rw [e2]; exact (rfl : kd σ = kd σ)
  have hLs1 : Lay s1 := by rw [e2]; exact hL.si
  refine x_iconst (v := 0) (dxX12_wrongAt_0 7 rfl) rfl ?_
  exact x_iret (ty := .boolean) rfl rfl (dxX12_wrongAt_0 8 rfl) ⟨_, rfl, h⟩
theorem vcX12_does {g : GV} {d : Nat} {P : Int32 → PS → Prop} {σ : PS} (hL : Lay σ) (p0 : Int32) (h : CX12_worked g d [.ref 179, .int (6 * p0)] σ (fun (v2 : Int32) (s1 : PS) => Fr σ s1 ∧ vp_in p0 200 ∧ (¬ (mi s1 181 (Int32.toNatClampNeg p0)) = 3 → CX12_worked g d [.ref 179, .int ((6 * p0) + 1)] s1 (fun (v5 : Int32) (s4 : PS) => Fr s1 s4 ∧ vp_in p0 200 ∧ (¬ (mi s4 181 (Int32.toNatClampNeg p0)) = 1 → vp_in p0 200 ∧ (¬ (mi s4 181 (Int32.toNatClampNeg p0)) = 1 → VX12_does g (d + 1) P 96 [some (.ref 179), some (.int p0), some (.int v2), some (.int v5), some (.int 1), none, none, none] [.int 1] s4) ∧ ((mi s4 181 (Int32.toNatClampNeg p0)) = 1 → CX12_worked g d [.ref 179, .int ((6 * p0) + 3)] s4 (fun (v9 : Int32) (s8 : PS) => Fr s4 s8 ∧ VX12_does g (d + 1) P 96 [some (.ref 179), some (.int p0), some (.int v2), some (.int v5), some (.int 1), none, none, none] [.int v9] s8))) ∧ ((mi s4 181 (Int32.toNatClampNeg p0)) = 1 → CX12_worked g d [.ref 179, .int ((6 * p0) + 2)] s4 (fun (v11 : Int32) (s10 : PS) => Fr s4 s10 ∧ vp_in p0 200 ∧ (¬ (mi s10 181 (Int32.toNatClampNeg p0)) = 1 → VX12_does g (d + 1) P 96 [some (.ref 179), some (.int p0), some (.int v2), some (.int v5), some (.int v11), none, none, none] [.int 1] s10) ∧ ((mi s10 181 (Int32.toNatClampNeg p0)) = 1 → CX12_worked g d [.ref 179, .int ((6 * p0) + 3)] s10 (fun (v14 : Int32) (s13 : PS) => Fr s10 s13 ∧ VX12_does g (d + 1) P 96 [some (.ref 179), some (.int p0), some (.int v2), some (.int v5), some (.int v11), none, none, none] [.int v14] s13)))))) ∧ ((mi s1 181 (Int32.toNatClampNeg p0)) = 3 → vp_in p0 200 ∧ vp_in (1 + (mi s1 182 (Int32.toNatClampNeg p0))) 20 ∧ ∀ s17 : PS, s17 = si s1 199 (Int32.toNatClampNeg (1 + (mi s1 182 (Int32.toNatClampNeg p0)))) v2 → P 1 s17))) : CX12_does g (d + 1) [.ref 179, .int p0] σ P := by
  refine x_entry (L := [some (.ref 179), some (.int p0), none, none, none, none, none, none]) pn_12 (Nat.le_of_ble_eq_true rfl) ⟨6, rfl⟩ ?_
  show VX12_does g (d + 1) P 0 [some (.ref 179), some (.int p0), none, none, none, none, none, none] [] σ
  refine x_aload_n (i := 0) (dxX12_does_0 0 rfl) rfl rfl ?_
  refine x_bipush (v := 6) (dxX12_does_0 1 rfl) rfl ?_
  refine x_iload_n (i := 1) (dxX12_does_0 2 rfl) rfl rfl ?_
  refine x_imul (dxX12_does_0 3 rfl) ?_
  refine cl_12_304 (kd_179 hL) (Nat.le_of_ble_eq_true rfl) (dxX12_does_0 4 rfl) h (fun v2 s1 h => ?_) (Nat.le_refl _) (Nat.le_refl _)
  obtain ⟨hFs1, h⟩ := h
  have hKs1 : kd s1 = kd σ := hFs1.1.trans (rfl : kd σ = kd σ)
  have hLs1 : Lay s1 := hL.fr hFs1
  refine x_istore_n (i := 2) (dxX12_does_0 5 rfl) rfl (Nat.le_of_ble_eq_true rfl) rfl rfl ?_
  refine x_aload_n (i := 0) (dxX12_does_0 6 rfl) rfl rfl ?_
  refine gf_12_13 (kd_179 hLs1) (rv_179_11 hLs1) (dxX12_does_0 7 rfl) ?_
  refine x_iload_n (i := 1) (dxX12_does_0 8 rfl) rfl rfl ?_
  obtain ⟨hi3, h⟩ := h
  refine x_iald (kd_181 hLs1) hi3 (dxX12_does_0 9 rfl) ?_
  refine x_iconst (v := 3) (dxX12_does_0 10 rfl) rfl ?_
  refine x_icmp_ne (tgt := 35) (dxX12_does_0 11 rfl) (by decide) (fun hc => ?_) (fun hc => ?_)
  · replace h := h.1 hc
    refine x_aload_n (i := 0) (dxX12_does_0 24 rfl) rfl rfl ?_
    refine x_bipush (v := 6) (dxX12_does_0 25 rfl) rfl ?_
    refine x_iload_n (i := 1) (dxX12_does_0 26 rfl) rfl rfl ?_
    refine x_imul (dxX12_does_0 27 rfl) ?_
    refine x_iconst (v := 1) (dxX12_does_0 28 rfl) rfl ?_
    refine x_iadd (dxX12_does_0 29 rfl) ?_
    refine cl_12_304 (kd_179 hLs1) (Nat.le_of_ble_eq_true rfl) (dxX12_does_0 30 rfl) h (fun v5 s4 h => ?_) (Nat.le_refl _) (Nat.le_refl _)
    obtain ⟨hFs4, h⟩ := h
    have hKs4 : kd s4 = kd σ := hFs4.1.trans hKs1
    have hLs4 : Lay s4 := hLs1.fr hFs4
    refine x_istore_n (i := 3) (dxX12_does_0 31 rfl) rfl (Nat.le_of_ble_eq_true rfl) rfl rfl ?_
    refine x_aload_n (i := 0) (dxX12_does_1 0 rfl) rfl rfl ?_
    refine gf_12_13 (kd_179 hLs4) (rv_179_11 hLs4) (dxX12_does_1 1 rfl) ?_
    refine x_iload_n (i := 1) (dxX12_does_1 2 rfl) rfl rfl ?_
    obtain ⟨hi6, h⟩ := h
    refine x_iald (kd_181 hLs4) hi6 (dxX12_does_1 3 rfl) ?_
    refine x_iconst (v := 1) (dxX12_does_1 4 rfl) rfl ?_
    refine x_icmp_ne (tgt := 69) (dxX12_does_1 5 rfl) (by decide) (fun hc => ?_) (fun hc => ?_)
    · replace h := h.1 hc
      refine x_iconst (v := 1) (dxX12_does_1 14 rfl) rfl ?_
      refine x_istore (dxX12_does_1 15 rfl) (Nat.le_of_ble_eq_true rfl) rfl rfl ?_
      refine x_aload_n (i := 0) (dxX12_does_1 16 rfl) rfl rfl ?_
      refine gf_12_13 (kd_179 hLs4) (rv_179_11 hLs4) (dxX12_does_1 17 rfl) ?_
      refine x_iload_n (i := 1) (dxX12_does_1 18 rfl) rfl rfl ?_
      obtain ⟨hi7, h⟩ := h
      refine x_iald (kd_181 hLs4) hi7 (dxX12_does_1 19 rfl) ?_
      refine x_iconst (v := 1) (dxX12_does_1 20 rfl) rfl ?_
      refine x_icmp_ne (tgt := 95) (dxX12_does_1 21 rfl) (by decide) (fun hc => ?_) (fun hc => ?_)
      · replace h := h.1 hc
        refine x_iconst (v := 1) (dxX12_does_1 30 rfl) rfl ?_
        exact h
      · replace h := h.2 hc
        refine x_aload_n (i := 0) (dxX12_does_1 22 rfl) rfl rfl ?_
        refine x_bipush (v := 6) (dxX12_does_1 23 rfl) rfl ?_
        refine x_iload_n (i := 1) (dxX12_does_1 24 rfl) rfl rfl ?_
        refine x_imul (dxX12_does_1 25 rfl) ?_
        refine x_iconst (v := 3) (dxX12_does_1 26 rfl) rfl ?_
        refine x_iadd (dxX12_does_1 27 rfl) ?_
        refine cl_12_304 (kd_179 hLs4) (Nat.le_of_ble_eq_true rfl) (dxX12_does_1 28 rfl) h (fun v9 s8 h => ?_) (Nat.le_refl _) (Nat.le_refl _)
        obtain ⟨hFs8, h⟩ := h
        have hKs8 : kd s8 = kd σ := hFs8.1.trans hKs4
        have hLs8 : Lay s8 := hLs4.fr hFs8
        refine x_goto (tgt := 96) (dxX12_does_1 29 rfl) (by decide) ?_
        exact h
    · replace h := h.2 hc
      refine x_aload_n (i := 0) (dxX12_does_1 6 rfl) rfl rfl ?_
      refine x_bipush (v := 6) (dxX12_does_1 7 rfl) rfl ?_
      refine x_iload_n (i := 1) (dxX12_does_1 8 rfl) rfl rfl ?_
      refine x_imul (dxX12_does_1 9 rfl) ?_
      refine x_iconst (v := 2) (dxX12_does_1 10 rfl) rfl ?_
      refine x_iadd (dxX12_does_1 11 rfl) ?_
      refine cl_12_304 (kd_179 hLs4) (Nat.le_of_ble_eq_true rfl) (dxX12_does_1 12 rfl) h (fun v11 s10 h => ?_) (Nat.le_refl _) (Nat.le_refl _)
      obtain ⟨hFs10, h⟩ := h
      have hKs10 : kd s10 = kd σ := hFs10.1.trans hKs4
      have hLs10 : Lay s10 := hLs4.fr hFs10
      refine x_goto (tgt := 70) (dxX12_does_1 13 rfl) (by decide) ?_
      refine x_istore (dxX12_does_1 15 rfl) (Nat.le_of_ble_eq_true rfl) rfl rfl ?_
      refine x_aload_n (i := 0) (dxX12_does_1 16 rfl) rfl rfl ?_
      refine gf_12_13 (kd_179 hLs10) (rv_179_11 hLs10) (dxX12_does_1 17 rfl) ?_
      refine x_iload_n (i := 1) (dxX12_does_1 18 rfl) rfl rfl ?_
      obtain ⟨hi12, h⟩ := h
      refine x_iald (kd_181 hLs10) hi12 (dxX12_does_1 19 rfl) ?_
      refine x_iconst (v := 1) (dxX12_does_1 20 rfl) rfl ?_
      refine x_icmp_ne (tgt := 95) (dxX12_does_1 21 rfl) (by decide) (fun hc => ?_) (fun hc => ?_)
      · replace h := h.1 hc
        refine x_iconst (v := 1) (dxX12_does_1 30 rfl) rfl ?_
        exact h
      · replace h := h.2 hc
        refine x_aload_n (i := 0) (dxX12_does_1 22 rfl) rfl rfl ?_
        refine x_bipush (v := 6) (dxX12_does_1 23 rfl) rfl ?_
        refine x_iload_n (i := 1) (dxX12_does_1 24 rfl) rfl rfl ?_
        refine x_imul (dxX12_does_1 25 rfl) ?_
        refine x_iconst (v := 3) (dxX12_does_1 26 rfl) rfl ?_
        refine x_iadd (dxX12_does_1 27 rfl) ?_
        refine cl_12_304 (kd_179 hLs10) (Nat.le_of_ble_eq_true rfl) (dxX12_does_1 28 rfl) h (fun v14 s13 h => ?_) (Nat.le_refl _) (Nat.le_refl _)
        obtain ⟨hFs13, h⟩ := h
        have hKs13 : kd s13 = kd σ := hFs13.1.trans hKs10
        have hLs13 : Lay s13 := hLs10.fr hFs13
        refine x_goto (tgt := 96) (dxX12_does_1 29 rfl) (by decide) ?_
        exact h
  · replace h := h.2 hc
    refine x_aload_n (i := 0) (dxX12_does_0 12 rfl) rfl rfl ?_
    refine gf_12_68 (kd_179 hLs1) (rv_179_31 hLs1) (dxX12_does_0 13 rfl) ?_
    refine x_iconst (v := 1) (dxX12_does_0 14 rfl) rfl ?_
    refine x_aload_n (i := 0) (dxX12_does_0 15 rfl) rfl rfl ?_
    refine gf_12_16 (kd_179 hLs1) (rv_179_12 hLs1) (dxX12_does_0 16 rfl) ?_
    refine x_iload_n (i := 1) (dxX12_does_0 17 rfl) rfl rfl ?_
    obtain ⟨hi15, h⟩ := h
    refine x_iald (kd_182 hLs1) hi15 (dxX12_does_0 18 rfl) ?_
    refine x_iadd (dxX12_does_0 19 rfl) ?_
    refine x_iload_n (i := 2) (dxX12_does_0 20 rfl) rfl rfl ?_
    obtain ⟨hi16, h⟩ := h
    refine x_iast (kd_199 hLs1) hi16 (dxX12_does_0 21 rfl) ?_
    refine x_sto (fun s17 e18 => ?_)
    replace h := h s17 e18
    have hKs17 : kd s17 = kd σ := by rw [e18]; exact hKs1
    have hLs17 : Lay s17 := by rw [e18]; exact hLs1.si
    refine x_iconst (v := 1) (dxX12_does_0 22 rfl) rfl ?_
    exact x_iret (ty := .boolean) rfl rfl (dxX12_does_0 23 rfl) ⟨_, rfl, h⟩
theorem vcX12_does_96 {g : GV} {d : Nat} {P : Int32 → PS → Prop} {σ : PS} (hL : Lay σ) (l1 : Int32) (l2 : Int32) (l3 : Int32) (l4 : Int32) (t0 : Int32) (h : CX12_within g d [.int l2, .int 0, .int 15] σ (fun (v20 : Int32) (s19 : PS) => Fr σ s19 ∧ (v20 = 0 → vp_in l1 200 ∧ CX12_wrongAt g d [.ref 179, .int 4, .int (mi s19 183 (Int32.toNatClampNeg l1))] s19 (fun (v23 : Int32) (s22 : PS) => Fr s19 s22 ∧ (v23 = 0 ∨ v23 = 1) ∧ P v23 s22)) ∧ (¬ v20 = 0 → CX12_within g d [.int l3, .int 0, .int 15] s19 (fun (v26 : Int32) (s25 : PS) => Fr s19 s25 ∧ (v26 = 0 → vp_in l1 200 ∧ CX12_wrongAt g d [.ref 179, .int 4, .int (mi s25 183 (Int32.toNatClampNeg l1))] s25 (fun (v29 : Int32) (s28 : PS) => Fr s25 s28 ∧ (v29 = 0 ∨ v29 = 1) ∧ P v29 s28)) ∧ (¬ v26 = 0 → CX12_within g d [.int l4, .int 1, .int 16] s25 (fun (v32 : Int32) (s31 : PS) => Fr s25 s31 ∧ (v32 = 0 → vp_in l1 200 ∧ CX12_wrongAt g d [.ref 179, .int 4, .int (mi s31 183 (Int32.toNatClampNeg l1))] s31 (fun (v35 : Int32) (s34 : PS) => Fr s31 s34 ∧ (v35 = 0 ∨ v35 = 1) ∧ P v35 s34)) ∧ (¬ v32 = 0 → CX12_within g d [.int t0, .int 1, .int 16] s31 (fun (v38 : Int32) (s37 : PS) => Fr s31 s37 ∧ (v38 = 0 → vp_in l1 200 ∧ CX12_wrongAt g d [.ref 179, .int 4, .int (mi s37 183 (Int32.toNatClampNeg l1))] s37 (fun (v41 : Int32) (s40 : PS) => Fr s37 s40 ∧ (v41 = 0 ∨ v41 = 1) ∧ P v41 s40)) ∧ (¬ v38 = 0 → (16 < (l2 + l4) → vp_in l1 200 ∧ CX12_wrongAt g d [.ref 179, .int 4, .int (mi s37 183 (Int32.toNatClampNeg l1))] s37 (fun (v45 : Int32) (s44 : PS) => Fr s37 s44 ∧ (v45 = 0 ∨ v45 = 1) ∧ P v45 s44)) ∧ (¬ 16 < (l2 + l4) → ((l3 + t0) ≤ 16 → vp_in l1 200 ∧ (¬ (mi s37 181 (Int32.toNatClampNeg l1)) = 2 → VX12_does g (d + 1) P 234 [some (.ref 179), some (.int l1), some (.int l2), some (.int l3), some (.int l4), some (.int t0), some (.int l3), none] [] s37) ∧ ((mi s37 181 (Int32.toNatClampNeg l1)) = 2 → vp_in ((16 * l3) + l2) 256 ∧ (¬ (mi s37 200 (Int32.toNatClampNeg ((16 * l3) + l2))) = 0 → vp_in ((16 * l3) + l2) 256 ∧ ∀ s50 : PS, s50 = si s37 200 (Int32.toNatClampNeg ((16 * l3) + l2)) (vp_nar .boolean 0) → ∀ s52 : PS, s52 = si s50 179 34 ((mi s50 179 34) - 1) → P 1 s52) ∧ ((mi s37 200 (Int32.toNatClampNeg ((16 * l3) + l2))) = 0 → vp_in l1 200 ∧ CX12_wrongAt g d [.ref 179, .int 6, .int (mi s37 183 (Int32.toNatClampNeg l1))] s37 (fun (v56 : Int32) (s55 : PS) => Fr s37 s55 ∧ (v56 = 0 ∨ v56 = 1) ∧ P v56 s55)))) ∧ (¬ (l3 + t0) ≤ 16 → vp_in l1 200 ∧ CX12_wrongAt g d [.ref 179, .int 4, .int (mi s37 183 (Int32.toNatClampNeg l1))] s37 (fun (v60 : Int32) (s59 : PS) => Fr s37 s59 ∧ (v60 = 0 ∨ v60 = 1) ∧ P v60 s59)))))))))))) : VX12_does g (d + 1) P 96 [some (.ref 179), some (.int l1), some (.int l2), some (.int l3), some (.int l4), none, none, none] [.int t0] σ := by
  refine x_istore (dxX12_does_1 31 rfl) (Nat.le_of_ble_eq_true rfl) rfl rfl ?_
  refine x_iload_n (i := 2) (dxX12_does_2 0 rfl) rfl rfl ?_
  refine x_iconst (v := 0) (dxX12_does_2 1 rfl) rfl ?_
  refine x_bipush (v := 15) (dxX12_does_2 2 rfl) rfl ?_
  refine cl_12_307 (Nat.le_of_ble_eq_true rfl) (dxX12_does_2 3 rfl) h (fun v20 s19 h => ?_) (Nat.le_refl _) (Nat.le_refl _)
  obtain ⟨hFs19, h⟩ := h
  have hKs19 : kd s19 = kd σ := hFs19.1.trans (rfl : kd σ = kd σ)
  have hLs19 : Lay s19 := hL.fr hFs19
  refine x_if_eq (tgt := 158) (dxX12_does_2 4 rfl) (by decide) (fun hc => ?_) (fun hc => ?_)
  · replace h := h.1 hc
    refine x_aload_n (i := 0) (dxX12_does_2 30 rfl) rfl rfl ?_
    refine x_iconst (v := 4) (dxX12_does_2 31 rfl) rfl ?_
    refine x_aload_n (i := 0) (dxX12_does_3 0 rfl) rfl rfl ?_
    refine gf_12_19 (kd_179 hLs19) (rv_179_13 hLs19) (dxX12_does_3 1 rfl) ?_
    refine x_iload_n (i := 1) (dxX12_does_3 2 rfl) rfl rfl ?_
    obtain ⟨hi21, h⟩ := h
    refine x_iald (kd_183 hLs19) hi21 (dxX12_does_3 3 rfl) ?_
    refine cl_12_311 (kd_179 hLs19) (Nat.le_of_ble_eq_true rfl) (dxX12_does_3 4 rfl) h (fun v23 s22 h => ?_) (Nat.le_refl _) (Nat.le_refl _)
    obtain ⟨hFs22, h⟩ := h
    have hKs22 : kd s22 = kd σ := hFs22.1.trans hKs19
    have hLs22 : Lay s22 := hLs19.fr hFs22
    obtain ⟨hb24, h⟩ := h
    exact x_iret (ty := .boolean) rfl (nb01 hb24) (dxX12_does_3 5 rfl) ⟨_, rfl, h⟩
  · replace h := h.2 hc
    refine x_iload_n (i := 3) (dxX12_does_2 5 rfl) rfl rfl ?_
    refine x_iconst (v := 0) (dxX12_does_2 6 rfl) rfl ?_
    refine x_bipush (v := 15) (dxX12_does_2 7 rfl) rfl ?_
    refine cl_12_307 (Nat.le_of_ble_eq_true rfl) (dxX12_does_2 8 rfl) h (fun v26 s25 h => ?_) (Nat.le_refl _) (Nat.le_refl _)
    obtain ⟨hFs25, h⟩ := h
    have hKs25 : kd s25 = kd σ := hFs25.1.trans hKs19
    have hLs25 : Lay s25 := hLs19.fr hFs25
    refine x_if_eq (tgt := 158) (dxX12_does_2 9 rfl) (by decide) (fun hc => ?_) (fun hc => ?_)
    · replace h := h.1 hc
      refine x_aload_n (i := 0) (dxX12_does_2 30 rfl) rfl rfl ?_
      refine x_iconst (v := 4) (dxX12_does_2 31 rfl) rfl ?_
      refine x_aload_n (i := 0) (dxX12_does_3 0 rfl) rfl rfl ?_
      refine gf_12_19 (kd_179 hLs25) (rv_179_13 hLs25) (dxX12_does_3 1 rfl) ?_
      refine x_iload_n (i := 1) (dxX12_does_3 2 rfl) rfl rfl ?_
      obtain ⟨hi27, h⟩ := h
      refine x_iald (kd_183 hLs25) hi27 (dxX12_does_3 3 rfl) ?_
      refine cl_12_311 (kd_179 hLs25) (Nat.le_of_ble_eq_true rfl) (dxX12_does_3 4 rfl) h (fun v29 s28 h => ?_) (Nat.le_refl _) (Nat.le_refl _)
      obtain ⟨hFs28, h⟩ := h
      have hKs28 : kd s28 = kd σ := hFs28.1.trans hKs25
      have hLs28 : Lay s28 := hLs25.fr hFs28
      obtain ⟨hb30, h⟩ := h
      exact x_iret (ty := .boolean) rfl (nb01 hb30) (dxX12_does_3 5 rfl) ⟨_, rfl, h⟩
    · replace h := h.2 hc
      refine x_iload (dxX12_does_2 10 rfl) rfl ?_
      refine x_iconst (v := 1) (dxX12_does_2 11 rfl) rfl ?_
      refine x_bipush (v := 16) (dxX12_does_2 12 rfl) rfl ?_
      refine cl_12_307 (Nat.le_of_ble_eq_true rfl) (dxX12_does_2 13 rfl) h (fun v32 s31 h => ?_) (Nat.le_refl _) (Nat.le_refl _)
      obtain ⟨hFs31, h⟩ := h
      have hKs31 : kd s31 = kd σ := hFs31.1.trans hKs25
      have hLs31 : Lay s31 := hLs25.fr hFs31
      refine x_if_eq (tgt := 158) (dxX12_does_2 14 rfl) (by decide) (fun hc => ?_) (fun hc => ?_)
      · replace h := h.1 hc
        refine x_aload_n (i := 0) (dxX12_does_2 30 rfl) rfl rfl ?_
        refine x_iconst (v := 4) (dxX12_does_2 31 rfl) rfl ?_
        refine x_aload_n (i := 0) (dxX12_does_3 0 rfl) rfl rfl ?_
        refine gf_12_19 (kd_179 hLs31) (rv_179_13 hLs31) (dxX12_does_3 1 rfl) ?_
        refine x_iload_n (i := 1) (dxX12_does_3 2 rfl) rfl rfl ?_
        obtain ⟨hi33, h⟩ := h
        refine x_iald (kd_183 hLs31) hi33 (dxX12_does_3 3 rfl) ?_
        refine cl_12_311 (kd_179 hLs31) (Nat.le_of_ble_eq_true rfl) (dxX12_does_3 4 rfl) h (fun v35 s34 h => ?_) (Nat.le_refl _) (Nat.le_refl _)
        obtain ⟨hFs34, h⟩ := h
        have hKs34 : kd s34 = kd σ := hFs34.1.trans hKs31
        have hLs34 : Lay s34 := hLs31.fr hFs34
        obtain ⟨hb36, h⟩ := h
        exact x_iret (ty := .boolean) rfl (nb01 hb36) (dxX12_does_3 5 rfl) ⟨_, rfl, h⟩
      · replace h := h.2 hc
        refine x_iload (dxX12_does_2 15 rfl) rfl ?_
        refine x_iconst (v := 1) (dxX12_does_2 16 rfl) rfl ?_
        refine x_bipush (v := 16) (dxX12_does_2 17 rfl) rfl ?_
        refine cl_12_307 (Nat.le_of_ble_eq_true rfl) (dxX12_does_2 18 rfl) h (fun v38 s37 h => ?_) (Nat.le_refl _) (Nat.le_refl _)
        obtain ⟨hFs37, h⟩ := h
        have hKs37 : kd s37 = kd σ := hFs37.1.trans hKs31
        have hLs37 : Lay s37 := hLs31.fr hFs37
        refine x_if_eq (tgt := 158) (dxX12_does_2 19 rfl) (by decide) (fun hc => ?_) (fun hc => ?_)
        · replace h := h.1 hc
          refine x_aload_n (i := 0) (dxX12_does_2 30 rfl) rfl rfl ?_
          refine x_iconst (v := 4) (dxX12_does_2 31 rfl) rfl ?_
          refine x_aload_n (i := 0) (dxX12_does_3 0 rfl) rfl rfl ?_
          refine gf_12_19 (kd_179 hLs37) (rv_179_13 hLs37) (dxX12_does_3 1 rfl) ?_
          refine x_iload_n (i := 1) (dxX12_does_3 2 rfl) rfl rfl ?_
          obtain ⟨hi39, h⟩ := h
          refine x_iald (kd_183 hLs37) hi39 (dxX12_does_3 3 rfl) ?_
          refine cl_12_311 (kd_179 hLs37) (Nat.le_of_ble_eq_true rfl) (dxX12_does_3 4 rfl) h (fun v41 s40 h => ?_) (Nat.le_refl _) (Nat.le_refl _)
          obtain ⟨hFs40, h⟩ := h
          have hKs40 : kd s40 = kd σ := hFs40.1.trans hKs37
          have hLs40 : Lay s40 := hLs37.fr hFs40
          obtain ⟨hb42, h⟩ := h
          exact x_iret (ty := .boolean) rfl (nb01 hb42) (dxX12_does_3 5 rfl) ⟨_, rfl, h⟩
        · replace h := h.2 hc
          refine x_iload_n (i := 2) (dxX12_does_2 20 rfl) rfl rfl ?_
          refine x_iload (dxX12_does_2 21 rfl) rfl ?_
          refine x_iadd (dxX12_does_2 22 rfl) ?_
          refine x_bipush (v := 16) (dxX12_does_2 23 rfl) rfl ?_
          refine x_icmp_gt (tgt := 158) (dxX12_does_2 24 rfl) (by decide) (fun hc => ?_) (fun hc => ?_)
          · replace h := h.1 hc
            refine x_aload_n (i := 0) (dxX12_does_2 30 rfl) rfl rfl ?_
            refine x_iconst (v := 4) (dxX12_does_2 31 rfl) rfl ?_
            refine x_aload_n (i := 0) (dxX12_does_3 0 rfl) rfl rfl ?_
            refine gf_12_19 (kd_179 hLs37) (rv_179_13 hLs37) (dxX12_does_3 1 rfl) ?_
            refine x_iload_n (i := 1) (dxX12_does_3 2 rfl) rfl rfl ?_
            obtain ⟨hi43, h⟩ := h
            refine x_iald (kd_183 hLs37) hi43 (dxX12_does_3 3 rfl) ?_
            refine cl_12_311 (kd_179 hLs37) (Nat.le_of_ble_eq_true rfl) (dxX12_does_3 4 rfl) h (fun v45 s44 h => ?_) (Nat.le_refl _) (Nat.le_refl _)
            obtain ⟨hFs44, h⟩ := h
            have hKs44 : kd s44 = kd σ := hFs44.1.trans hKs37
            have hLs44 : Lay s44 := hLs37.fr hFs44
            obtain ⟨hb46, h⟩ := h
            exact x_iret (ty := .boolean) rfl (nb01 hb46) (dxX12_does_3 5 rfl) ⟨_, rfl, h⟩
          · replace h := h.2 hc
            refine x_iload_n (i := 3) (dxX12_does_2 25 rfl) rfl rfl ?_
            refine x_iload (dxX12_does_2 26 rfl) rfl ?_
            refine x_iadd (dxX12_does_2 27 rfl) ?_
            refine x_bipush (v := 16) (dxX12_does_2 28 rfl) rfl ?_
            refine x_icmp_le (tgt := 170) (dxX12_does_2 29 rfl) (by decide) (fun hc => ?_) (fun hc => ?_)
            · replace h := h.1 hc
              refine x_aload_n (i := 0) (dxX12_does_3 6 rfl) rfl rfl ?_
              refine gf_12_13 (kd_179 hLs37) (rv_179_11 hLs37) (dxX12_does_3 7 rfl) ?_
              refine x_iload_n (i := 1) (dxX12_does_3 8 rfl) rfl rfl ?_
              obtain ⟨hi47, h⟩ := h
              refine x_iald (kd_181 hLs37) hi47 (dxX12_does_3 9 rfl) ?_
              refine x_iconst (v := 2) (dxX12_does_3 10 rfl) rfl ?_
              refine x_icmp_ne (tgt := 231) (dxX12_does_3 11 rfl) (by decide) (fun hc => ?_) (fun hc => ?_)
              · replace h := h.1 hc
                refine x_iload_n (i := 3) (dxX12_does_4 14 rfl) rfl rfl ?_
                refine x_istore (dxX12_does_4 15 rfl) (Nat.le_of_ble_eq_true rfl) rfl rfl ?_
                exact h
              · replace h := h.2 hc
                refine x_aload_n (i := 0) (dxX12_does_3 12 rfl) rfl rfl ?_
                refine gf_12_71 (kd_179 hLs37) (rv_179_33 hLs37) (dxX12_does_3 13 rfl) ?_
                refine x_bipush (v := 16) (dxX12_does_3 14 rfl) rfl ?_
                refine x_iload_n (i := 3) (dxX12_does_3 15 rfl) rfl rfl ?_
                refine x_imul (dxX12_does_3 16 rfl) ?_
                refine x_iload_n (i := 2) (dxX12_does_3 17 rfl) rfl rfl ?_
                refine x_iadd (dxX12_does_3 18 rfl) ?_
                obtain ⟨hi48, h⟩ := h
                refine x_zald (kd_200 hLs37) hi48 (dxX12_does_3 19 rfl) ?_
                refine x_if_ne (tgt := 207) (dxX12_does_3 20 rfl) (by decide) (fun hc => ?_) (fun hc => ?_)
                · replace h := h.1 hc
                  refine x_aload_n (i := 0) (dxX12_does_3 29 rfl) rfl rfl ?_
                  refine gf_12_71 (kd_179 hLs37) (rv_179_33 hLs37) (dxX12_does_3 30 rfl) ?_
                  refine x_bipush (v := 16) (dxX12_does_3 31 rfl) rfl ?_
                  refine x_iload_n (i := 3) (dxX12_does_4 0 rfl) rfl rfl ?_
                  refine x_imul (dxX12_does_4 1 rfl) ?_
                  refine x_iload_n (i := 2) (dxX12_does_4 2 rfl) rfl rfl ?_
                  refine x_iadd (dxX12_does_4 3 rfl) ?_
                  refine x_iconst (v := 0) (dxX12_does_4 4 rfl) rfl ?_
                  obtain ⟨hi49, h⟩ := h
                  refine x_zast (kd_200 hLs37) hi49 (dxX12_does_4 5 rfl) ?_
                  refine x_sto (fun s50 e51 => ?_)
                  replace h := h s50 e51
                  have hKs50 : kd s50 = kd σ := by rw [e51]; exact hKs37
                  have hLs50 : Lay s50 := by rw [e51]; exact hLs37.si
                  refine x_aload_n (i := 0) (dxX12_does_4 6 rfl) rfl rfl ?_
                  refine x_dup (dxX12_does_4 7 rfl) rfl ?_
                  refine gf_12_315 (kd_179 hLs50) rfl (dxX12_does_4 8 rfl) ?_
                  refine x_iconst (v := 1) (dxX12_does_4 9 rfl) rfl ?_
                  refine x_isub (dxX12_does_4 10 rfl) ?_
                  refine pf_12_315 (kd_179 hLs50) (dxX12_does_4 11 rfl) ?_
                  refine x_sto (fun s52 e53 => ?_)
                  replace h := h s52 e53
                  have hKs52 : kd s52 = kd σ := by rw [e53]; exact hKs50
                  have hLs52 : Lay s52 := by rw [e53]; exact hLs50.si
                  refine x_iconst (v := 1) (dxX12_does_4 12 rfl) rfl ?_
                  exact x_iret (ty := .boolean) rfl rfl (dxX12_does_4 13 rfl) ⟨_, rfl, h⟩
                · replace h := h.2 hc
                  refine x_aload_n (i := 0) (dxX12_does_3 21 rfl) rfl rfl ?_
                  refine x_bipush (v := 6) (dxX12_does_3 22 rfl) rfl ?_
                  refine x_aload_n (i := 0) (dxX12_does_3 23 rfl) rfl rfl ?_
                  refine gf_12_19 (kd_179 hLs37) (rv_179_13 hLs37) (dxX12_does_3 24 rfl) ?_
                  refine x_iload_n (i := 1) (dxX12_does_3 25 rfl) rfl rfl ?_
                  obtain ⟨hi54, h⟩ := h
                  refine x_iald (kd_183 hLs37) hi54 (dxX12_does_3 26 rfl) ?_
                  refine cl_12_311 (kd_179 hLs37) (Nat.le_of_ble_eq_true rfl) (dxX12_does_3 27 rfl) h (fun v56 s55 h => ?_) (Nat.le_refl _) (Nat.le_refl _)
                  obtain ⟨hFs55, h⟩ := h
                  have hKs55 : kd s55 = kd σ := hFs55.1.trans hKs37
                  have hLs55 : Lay s55 := hLs37.fr hFs55
                  obtain ⟨hb57, h⟩ := h
                  exact x_iret (ty := .boolean) rfl (nb01 hb57) (dxX12_does_3 28 rfl) ⟨_, rfl, h⟩
            · replace h := h.2 hc
              refine x_aload_n (i := 0) (dxX12_does_2 30 rfl) rfl rfl ?_
              refine x_iconst (v := 4) (dxX12_does_2 31 rfl) rfl ?_
              refine x_aload_n (i := 0) (dxX12_does_3 0 rfl) rfl rfl ?_
              refine gf_12_19 (kd_179 hLs37) (rv_179_13 hLs37) (dxX12_does_3 1 rfl) ?_
              refine x_iload_n (i := 1) (dxX12_does_3 2 rfl) rfl rfl ?_
              obtain ⟨hi58, h⟩ := h
              refine x_iald (kd_183 hLs37) hi58 (dxX12_does_3 3 rfl) ?_
              refine cl_12_311 (kd_179 hLs37) (Nat.le_of_ble_eq_true rfl) (dxX12_does_3 4 rfl) h (fun v60 s59 h => ?_) (Nat.le_refl _) (Nat.le_refl _)
              obtain ⟨hFs59, h⟩ := h
              have hKs59 : kd s59 = kd σ := hFs59.1.trans hKs37
              have hLs59 : Lay s59 := hLs37.fr hFs59
              obtain ⟨hb61, h⟩ := h
              exact x_iret (ty := .boolean) rfl (nb01 hb61) (dxX12_does_3 5 rfl) ⟨_, rfl, h⟩
