abbrev WX11_shortest (g : GV) (d : Nat) (P : Int32 → PS → Prop) (PX : PS → Prop) (pc : Nat) (L : List (Option Value)) (st : List Value) (s : PS) : Prop := X g (ZMX g (some FieldType.int) 1 6 (PI P) PX) RX11 cX11_shortest 4 d 1 6 0 0 pc L st s
abbrev EX11_shortest (g : GV) (d : Nat) (vs : List Value) (s : PS) (P : Int32 → PS → Prop) (PX : PS → Prop) : Prop := CtX g yX11_shortest cX11_shortest 4 (some FieldType.int) d 1 6 vs s (PI P) PX
theorem vcX11_shortest {g : GV} {d : Nat} {P : Int32 → PS → Prop} {PX : PS → Prop} {σ : PS} (hl : (gl g).stackTraces = false) (hL : Lay σ) (p0 : Int32) (p1 : Int32) (p2 : Int32) (h : CX11_isBody g d [.ref 10] σ (fun (v2 : Int32) (s1 : PS) => Fr σ s1 ∧ (v2 = 0 → (∀ j, PX (sX s1 j))) ∧ (¬ v2 = 0 → CX2_hasCell g d [.ref 129, .int p0] s1 (fun (v4 : Int32) (s3 : PS) => Fr s1 s3 ∧ (v4 = 0 → (∀ j, PX (sX s3 j))) ∧ (¬ v4 = 0 → CX2_hasCell g d [.ref 129, .int p1] s3 (fun (v6 : Int32) (s5 : PS) => Fr s3 s5 ∧ (v6 = 0 → (∀ j, PX (sX s5 j))) ∧ (¬ v6 = 0 → (p2 < 0 → (∀ j, PX (sX s5 j))) ∧ (¬ p2 < 0 → (p2 ≤ 3 → CX10_look g d [.ref 144, .int p0] s5 (fun (s7 : PS) => Fr s5 s7 ∧ vp_in p1 11 ∧ (¬ (mi s7 146 (Int32.toNatClampNeg p1)) = 0 → CX10_tell g d [.ref 144, .int p1, .int p2] s7 (fun (v11 : Int32) (s10 : PS) => Fr s7 s10 ∧ P v11 s10)) ∧ ((mi s7 146 (Int32.toNatClampNeg p1)) = 0 → (∀ j, PX (sX s7 j))))) ∧ (¬ p2 ≤ 3 → (∀ j, PX (sX s5 j))))))))))) : EX11_shortest g (d + 1) [.ref 10, .int p0, .int p1, .int p2] σ P PX := by
  refine x_entryX (L := [some (.ref 10), some (.int p0), some (.int p1), some (.int p2)]) pn_11 (Nat.le_of_ble_eq_true rfl) ⟨0, rfl⟩ ?_
  show WX11_shortest g (d + 1) P PX 0 [some (.ref 10), some (.int p0), some (.int p1), some (.int p2)] [] σ
  refine x_aload_n (i := 0) (dxX11_shortest_0 0 rfl) rfl rfl ?_
  refine cl_11_218 (kd_10 hL) (Nat.le_of_ble_eq_true rfl) (dxX11_shortest_0 1 rfl) h (fun v2 s1 h => ?_) (Nat.zero_le _) (Nat.zero_le _)
  obtain ⟨hFs1, h⟩ := h
  have hKs1 : kd s1 = kd σ := hFs1.1.trans (rfl : kd σ = kd σ)
  have hLs1 : Lay s1 := hL.fr hFs1
  refine x_if_eq (tgt := 38) (dxX11_shortest_0 2 rfl) (by decide) (fun hc => ?_) (fun hc => ?_)
  · replace h := h.1 hc
    exact x_throwN (is := 261) (idn := 5) (text := "no such cells, no such what, or no body") hl (by decide) (Nat.le_of_ble_eq_true rfl) (Nat.le_refl _) (Nat.le_refl _) (dxX11_shortest_0 18 rfl) (dxX11_shortest_0 19 rfl) (dxX11_shortest_0 20 rfl) (dxX11_shortest_0 21 rfl) (dxX11_shortest_0 22 rfl) h
  · replace h := h.2 hc
    refine x_aload_n (i := 0) (dxX11_shortest_0 3 rfl) rfl rfl ?_
    refine gf_11_62 (kd_10 hLs1) (rv_10_8 hLs1) (dxX11_shortest_0 4 rfl) ?_
    refine x_iload_n (i := 1) (dxX11_shortest_0 5 rfl) rfl rfl ?_
    refine cl_11_225 (kd_129 hLs1) (Nat.le_of_ble_eq_true rfl) (dxX11_shortest_0 6 rfl) h (fun v4 s3 h => ?_) (Nat.zero_le _) (Nat.zero_le _)
    obtain ⟨hFs3, h⟩ := h
    have hKs3 : kd s3 = kd σ := hFs3.1.trans hKs1
    have hLs3 : Lay s3 := hLs1.fr hFs3
    refine x_if_eq (tgt := 38) (dxX11_shortest_0 7 rfl) (by decide) (fun hc => ?_) (fun hc => ?_)
    · replace h := h.1 hc
      exact x_throwN (is := 261) (idn := 5) (text := "no such cells, no such what, or no body") hl (by decide) (Nat.le_of_ble_eq_true rfl) (Nat.le_refl _) (Nat.le_refl _) (dxX11_shortest_0 18 rfl) (dxX11_shortest_0 19 rfl) (dxX11_shortest_0 20 rfl) (dxX11_shortest_0 21 rfl) (dxX11_shortest_0 22 rfl) h
    · replace h := h.2 hc
      refine x_aload_n (i := 0) (dxX11_shortest_0 8 rfl) rfl rfl ?_
      refine gf_11_62 (kd_10 hLs3) (rv_10_8 hLs3) (dxX11_shortest_0 9 rfl) ?_
      refine x_iload_n (i := 2) (dxX11_shortest_0 10 rfl) rfl rfl ?_
      refine cl_11_225 (kd_129 hLs3) (Nat.le_of_ble_eq_true rfl) (dxX11_shortest_0 11 rfl) h (fun v6 s5 h => ?_) (Nat.zero_le _) (Nat.zero_le _)
      obtain ⟨hFs5, h⟩ := h
      have hKs5 : kd s5 = kd σ := hFs5.1.trans hKs3
      have hLs5 : Lay s5 := hLs3.fr hFs5
      refine x_if_eq (tgt := 38) (dxX11_shortest_0 12 rfl) (by decide) (fun hc => ?_) (fun hc => ?_)
      · replace h := h.1 hc
        exact x_throwN (is := 261) (idn := 5) (text := "no such cells, no such what, or no body") hl (by decide) (Nat.le_of_ble_eq_true rfl) (Nat.le_refl _) (Nat.le_refl _) (dxX11_shortest_0 18 rfl) (dxX11_shortest_0 19 rfl) (dxX11_shortest_0 20 rfl) (dxX11_shortest_0 21 rfl) (dxX11_shortest_0 22 rfl) h
      · replace h := h.2 hc
        refine x_iload_n (i := 3) (dxX11_shortest_0 13 rfl) rfl rfl ?_
        refine x_if_lt (tgt := 38) (dxX11_shortest_0 14 rfl) (by decide) (fun hc => ?_) (fun hc => ?_)
        · replace h := h.1 hc
          exact x_throwN (is := 261) (idn := 5) (text := "no such cells, no such what, or no body") hl (by decide) (Nat.le_of_ble_eq_true rfl) (Nat.le_refl _) (Nat.le_refl _) (dxX11_shortest_0 18 rfl) (dxX11_shortest_0 19 rfl) (dxX11_shortest_0 20 rfl) (dxX11_shortest_0 21 rfl) (dxX11_shortest_0 22 rfl) h
        · replace h := h.2 hc
          refine x_iload_n (i := 3) (dxX11_shortest_0 15 rfl) rfl rfl ?_
          refine x_iconst (v := 3) (dxX11_shortest_0 16 rfl) rfl ?_
          refine x_icmp_le (tgt := 49) (dxX11_shortest_0 17 rfl) (by decide) (fun hc => ?_) (fun hc => ?_)
          · replace h := h.1 hc
            refine x_aload_n (i := 0) (dxX11_shortest_0 23 rfl) rfl rfl ?_
            refine gf_11_80 (kd_10 hLs5) (rv_10_10 hLs5) (dxX11_shortest_0 24 rfl) ?_
            refine x_iload_n (i := 1) (dxX11_shortest_0 25 rfl) rfl rfl ?_
            refine cl_11_266 (kd_144 hLs5) (Nat.le_of_ble_eq_true rfl) (dxX11_shortest_0 26 rfl) h (fun s7 h => ?_) (Nat.zero_le _) (Nat.zero_le _)
            obtain ⟨hFs7, h⟩ := h
            have hKs7 : kd s7 = kd σ := hFs7.1.trans hKs5
            have hLs7 : Lay s7 := hLs5.fr hFs7
            refine x_aload_n (i := 0) (dxX11_shortest_0 27 rfl) rfl rfl ?_
            refine gf_11_80 (kd_10 hLs7) (rv_10_10 hLs7) (dxX11_shortest_0 28 rfl) ?_
            refine gf_11_269 (kd_144 hLs7) (rv_144_5 hLs7) (dxX11_shortest_0 29 rfl) ?_
            refine x_iload_n (i := 2) (dxX11_shortest_0 30 rfl) rfl rfl ?_
            obtain ⟨hi9, h⟩ := h
            refine x_iald (kd_146 hLs7) hi9 (dxX11_shortest_0 31 rfl) ?_
            refine x_if_ne (tgt := 80) (dxX11_shortest_1 0 rfl) (by decide) (fun hc => ?_) (fun hc => ?_)
            · replace h := h.1 hc
              refine x_aload_n (i := 0) (dxX11_shortest_1 6 rfl) rfl rfl ?_
              refine gf_11_80 (kd_10 hLs7) (rv_10_10 hLs7) (dxX11_shortest_1 7 rfl) ?_
              refine x_iload_n (i := 2) (dxX11_shortest_1 8 rfl) rfl rfl ?_
              refine x_iload_n (i := 3) (dxX11_shortest_1 9 rfl) rfl rfl ?_
              refine cl_11_274 (kd_144 hLs7) (Nat.le_of_ble_eq_true rfl) (dxX11_shortest_1 10 rfl) h (fun v11 s10 h => ?_) (Nat.zero_le _) (Nat.zero_le _)
              obtain ⟨hFs10, h⟩ := h
              have hKs10 : kd s10 = kd σ := hFs10.1.trans hKs7
              have hLs10 : Lay s10 := hLs7.fr hFs10
              exact x_ofZM (x_iret (ty := .int) rfl rfl (dxX11_shortest_1 11 rfl) ⟨_, rfl, h⟩)
            · replace h := h.2 hc
              exact x_throwN (is := 272) (idn := 6) (text := "no way") hl (by decide) (Nat.le_of_ble_eq_true rfl) (Nat.le_refl _) (Nat.le_refl _) (dxX11_shortest_1 1 rfl) (dxX11_shortest_1 2 rfl) (dxX11_shortest_1 3 rfl) (dxX11_shortest_1 4 rfl) (dxX11_shortest_1 5 rfl) h
          · replace h := h.2 hc
            exact x_throwN (is := 261) (idn := 5) (text := "no such cells, no such what, or no body") hl (by decide) (Nat.le_of_ble_eq_true rfl) (Nat.le_refl _) (Nat.le_refl _) (dxX11_shortest_0 18 rfl) (dxX11_shortest_0 19 rfl) (dxX11_shortest_0 20 rfl) (dxX11_shortest_0 21 rfl) (dxX11_shortest_0 22 rfl) h
abbrev WX11_round (g : GV) (d : Nat) (P : Int32 → PS → Prop) (PX : PS → Prop) (pc : Nat) (L : List (Option Value)) (st : List Value) (s : PS) : Prop := X g (ZMX g (some FieldType.int) 1 6 (PI P) PX) RX11 cX11_round 3 d 1 6 0 0 pc L st s
abbrev EX11_round (g : GV) (d : Nat) (vs : List Value) (s : PS) (P : Int32 → PS → Prop) (PX : PS → Prop) : Prop := CtX g yX11_round cX11_round 3 (some FieldType.int) d 1 6 vs s (PI P) PX
theorem vcX11_round {g : GV} {d : Nat} {P : Int32 → PS → Prop} {PX : PS → Prop} {σ : PS} (hl : (gl g).stackTraces = false) (hL : Lay σ) (p0 : Int32) (p1 : Int32) (h : CX11_isBody g d [.ref 10] σ (fun (v2 : Int32) (s1 : PS) => Fr σ s1 ∧ (v2 = 0 → (∀ j, PX (sX s1 j))) ∧ (¬ v2 = 0 → CX2_hasCell g d [.ref 129, .int p0] s1 (fun (v4 : Int32) (s3 : PS) => Fr s1 s3 ∧ (v4 = 0 → (∀ j, PX (sX s3 j))) ∧ (¬ v4 = 0 → (p1 < 0 → (∀ j, PX (sX s3 j))) ∧ (¬ p1 < 0 → (p1 ≤ 3 → CX10_look g d [.ref 144, .int p0] s3 (fun (s5 : PS) => Fr s3 s5 ∧ (¬ (mi s5 146 (Int32.toNatClampNeg 10)) = 0 → CX10_tell g d [.ref 144, .int 10, .int p1] s5 (fun (v8 : Int32) (s7 : PS) => Fr s5 s7 ∧ P v8 s7)) ∧ ((mi s5 146 (Int32.toNatClampNeg 10)) = 0 → (∀ j, PX (sX s5 j))))) ∧ (¬ p1 ≤ 3 → (∀ j, PX (sX s3 j))))))))) : EX11_round g (d + 1) [.ref 10, .int p0, .int p1] σ P PX := by
  refine x_entryX (L := [some (.ref 10), some (.int p0), some (.int p1)]) pn_11 (Nat.le_of_ble_eq_true rfl) ⟨0, rfl⟩ ?_
  show WX11_round g (d + 1) P PX 0 [some (.ref 10), some (.int p0), some (.int p1)] [] σ
  refine x_aload_n (i := 0) (dxX11_round_0 0 rfl) rfl rfl ?_
  refine cl_11_218 (kd_10 hL) (Nat.le_of_ble_eq_true rfl) (dxX11_round_0 1 rfl) h (fun v2 s1 h => ?_) (Nat.zero_le _) (Nat.zero_le _)
  obtain ⟨hFs1, h⟩ := h
  have hKs1 : kd s1 = kd σ := hFs1.1.trans (rfl : kd σ = kd σ)
  have hLs1 : Lay s1 := hL.fr hFs1
  refine x_if_eq (tgt := 27) (dxX11_round_0 2 rfl) (by decide) (fun hc => ?_) (fun hc => ?_)
  · replace h := h.1 hc
    exact x_throwN (is := 276) (idn := 7) (text := "no such cell, no such what, or no body") hl (by decide) (Nat.le_of_ble_eq_true rfl) (Nat.le_refl _) (Nat.le_refl _) (dxX11_round_0 13 rfl) (dxX11_round_0 14 rfl) (dxX11_round_0 15 rfl) (dxX11_round_0 16 rfl) (dxX11_round_0 17 rfl) h
  · replace h := h.2 hc
    refine x_aload_n (i := 0) (dxX11_round_0 3 rfl) rfl rfl ?_
    refine gf_11_62 (kd_10 hLs1) (rv_10_8 hLs1) (dxX11_round_0 4 rfl) ?_
    refine x_iload_n (i := 1) (dxX11_round_0 5 rfl) rfl rfl ?_
    refine cl_11_225 (kd_129 hLs1) (Nat.le_of_ble_eq_true rfl) (dxX11_round_0 6 rfl) h (fun v4 s3 h => ?_) (Nat.zero_le _) (Nat.zero_le _)
    obtain ⟨hFs3, h⟩ := h
    have hKs3 : kd s3 = kd σ := hFs3.1.trans hKs1
    have hLs3 : Lay s3 := hLs1.fr hFs3
    refine x_if_eq (tgt := 27) (dxX11_round_0 7 rfl) (by decide) (fun hc => ?_) (fun hc => ?_)
    · replace h := h.1 hc
      exact x_throwN (is := 276) (idn := 7) (text := "no such cell, no such what, or no body") hl (by decide) (Nat.le_of_ble_eq_true rfl) (Nat.le_refl _) (Nat.le_refl _) (dxX11_round_0 13 rfl) (dxX11_round_0 14 rfl) (dxX11_round_0 15 rfl) (dxX11_round_0 16 rfl) (dxX11_round_0 17 rfl) h
    · replace h := h.2 hc
      refine x_iload_n (i := 2) (dxX11_round_0 8 rfl) rfl rfl ?_
      refine x_if_lt (tgt := 27) (dxX11_round_0 9 rfl) (by decide) (fun hc => ?_) (fun hc => ?_)
      · replace h := h.1 hc
        exact x_throwN (is := 276) (idn := 7) (text := "no such cell, no such what, or no body") hl (by decide) (Nat.le_of_ble_eq_true rfl) (Nat.le_refl _) (Nat.le_refl _) (dxX11_round_0 13 rfl) (dxX11_round_0 14 rfl) (dxX11_round_0 15 rfl) (dxX11_round_0 16 rfl) (dxX11_round_0 17 rfl) h
      · replace h := h.2 hc
        refine x_iload_n (i := 2) (dxX11_round_0 10 rfl) rfl rfl ?_
        refine x_iconst (v := 3) (dxX11_round_0 11 rfl) rfl ?_
        refine x_icmp_le (tgt := 38) (dxX11_round_0 12 rfl) (by decide) (fun hc => ?_) (fun hc => ?_)
        · replace h := h.1 hc
          refine x_aload_n (i := 0) (dxX11_round_0 18 rfl) rfl rfl ?_
          refine gf_11_80 (kd_10 hLs3) (rv_10_10 hLs3) (dxX11_round_0 19 rfl) ?_
          refine x_iload_n (i := 1) (dxX11_round_0 20 rfl) rfl rfl ?_
          refine cl_11_266 (kd_144 hLs3) (Nat.le_of_ble_eq_true rfl) (dxX11_round_0 21 rfl) h (fun s5 h => ?_) (Nat.zero_le _) (Nat.zero_le _)
          obtain ⟨hFs5, h⟩ := h
          have hKs5 : kd s5 = kd σ := hFs5.1.trans hKs3
          have hLs5 : Lay s5 := hLs3.fr hFs5
          refine x_aload_n (i := 0) (dxX11_round_0 22 rfl) rfl rfl ?_
          refine gf_11_80 (kd_10 hLs5) (rv_10_10 hLs5) (dxX11_round_0 23 rfl) ?_
          refine gf_11_269 (kd_144 hLs5) (rv_144_5 hLs5) (dxX11_round_0 24 rfl) ?_
          refine x_bipush (v := 10) (dxX11_round_0 25 rfl) rfl ?_
          refine x_iald (kd_146 hLs5) (vpl 11 10 rfl) (dxX11_round_0 26 rfl) ?_
          refine x_if_ne (tgt := 70) (dxX11_round_0 27 rfl) (by decide) (fun hc => ?_) (fun hc => ?_)
          · replace h := h.1 hc
            refine x_aload_n (i := 0) (dxX11_round_1 1 rfl) rfl rfl ?_
            refine gf_11_80 (kd_10 hLs5) (rv_10_10 hLs5) (dxX11_round_1 2 rfl) ?_
            refine x_bipush (v := 10) (dxX11_round_1 3 rfl) rfl ?_
            refine x_iload_n (i := 2) (dxX11_round_1 4 rfl) rfl rfl ?_
            refine cl_11_274 (kd_144 hLs5) (Nat.le_of_ble_eq_true rfl) (dxX11_round_1 5 rfl) h (fun v8 s7 h => ?_) (Nat.zero_le _) (Nat.zero_le _)
            obtain ⟨hFs7, h⟩ := h
            have hKs7 : kd s7 = kd σ := hFs7.1.trans hKs5
            have hLs7 : Lay s7 := hLs5.fr hFs7
            exact x_ofZM (x_iret (ty := .int) rfl rfl (dxX11_round_1 6 rfl) ⟨_, rfl, h⟩)
          · replace h := h.2 hc
            exact x_throwN (is := 278) (idn := 8) (text := "no closed way") hl (by decide) (Nat.le_of_ble_eq_true rfl) (Nat.le_refl _) (Nat.le_refl _) (dxX11_round_0 28 rfl) (dxX11_round_0 29 rfl) (dxX11_round_0 30 rfl) (dxX11_round_0 31 rfl) (dxX11_round_1 0 rfl) h
        · replace h := h.2 hc
          exact x_throwN (is := 276) (idn := 7) (text := "no such cell, no such what, or no body") hl (by decide) (Nat.le_of_ble_eq_true rfl) (Nat.le_refl _) (Nat.le_refl _) (dxX11_round_0 13 rfl) (dxX11_round_0 14 rfl) (dxX11_round_0 15 rfl) (dxX11_round_0 16 rfl) (dxX11_round_0 17 rfl) h
def shoP (n : Nat) (x y : Nat → Nat) (E : Nat) (m : Mat) (a b w : Int32) : Prop := gcn E m = E ∧ ∃ c e j, c < n ∧ e < n ∧ j < 4 ∧ a = nI c ∧ b = nI e ∧ w = nI j ∧ ¬ (acf n x y E m c e).1 = 145
def shoV (n : Nat) (x y : Nat → Nat) (E : Nat) (m : Mat) (a b w v : Int32) : Prop := gcn E m = E ∧ ∃ c e j, c < n ∧ e < n ∧ j < 4 ∧ a = nI c ∧ b = nI e ∧ w = nI j ∧ ¬ (acf n x y E m c e).1 = 145 ∧ v = told (acf n x y E m c e) j
def rouP (n : Nat) (x y : Nat → Nat) (E : Nat) (m : Mat) (a w : Int32) : Prop := gcn E m = E ∧ ∃ c j, c < n ∧ j < 4 ∧ a = nI c ∧ w = nI j ∧ ¬ (acf n x y E m c 10).1 = 145
def rouV (n : Nat) (x y : Nat → Nat) (E : Nat) (m : Mat) (a w v : Int32) : Prop := gcn E m = E ∧ ∃ c j, c < n ∧ j < 4 ∧ a = nI c ∧ w = nI j ∧ ¬ (acf n x y E m c 10).1 = 145 ∧ v = told (acf n x y E m c 10) j
/-- thrown: there is no such way; behind the store lies the thrown object -/
def LX (n : Nat) (x y : Nat → Nat) (E : Nat) (m : Mat) (P : Prop) (σ s : PS) : Prop := ¬ P ∧ ∃ t i, s = sX t i ∧ LKo t n x y E m ∧ Ch chL noL σ t
theorem sp_shortest11 {g : GV} {d n E : Nat} {x y : Nat → Nat} {m : Mat} {a b w : Int32} {σ : PS} (hfl : (gl g).stackTraces = false) (hL : Lay σ) (hV : VF n x y E) (h1 : mi σ 10 13 = nI (cnt (opn1 m) E)) (h2 : mi σ 20 6 = nI E) (hI : Inv E m) (hB : gcn E m = E → BF σ 129 n x y E (mt m)) (hK : LKo σ n x y E m) :
    EX11_shortest g (d + 3) [.ref 10, .int a, .int b, .int w] σ (fun v s => shoV n x y E m a b w v ∧ LKo s n x y E m ∧ Ch chL noL σ s) (LX n x y E m (shoP n x y E m a b w) σ) := by
  have hE := hV.2.2.2.2.2.2
  have hn := hV.2.1
  refine vcX11_shortest hfl hL _ _ _ (Ct.imp (sp_isB11 hL hE h1 h2 hI) (fun r s z => ?_))
  obtain ⟨v, rfl, hv, rfl⟩ := z
  refine ⟨_, rfl, Fr.rf, fun h j => ?_, fun h => ?_⟩
  · rw [i01 hv] at h
    exact ⟨fun q => h q.1, _, j, rfl, hK, Ch.rf⟩
  rw [i01 hv, Classical.not_not] at h
  obtain ⟨hD, hT⟩ := hB h
  refine Ct.imp (sp_hasCell2 hL isB129 hD.1 a) (fun r s z => ?_)
  obtain ⟨v2, rfl, hv2, rfl⟩ := z
  rw [inN_if] at hv2
  refine ⟨_, rfl, Fr.rf, fun hc j => ?_, fun hc => ?_⟩
  · rw [i01 hv2, inN_is (by omega)] at hc
    refine ⟨fun q => hc ?_, _, j, rfl, hK, Ch.rf⟩
    obtain ⟨-, c, e, j2, q1, -, -, q2, -⟩ := q
    exact ⟨c, q1, q2⟩
  rw [i01 hv2, Classical.not_not, inN_is (by omega)] at hc
  obtain ⟨c, hc, rfl⟩ := hc
  refine Ct.imp (sp_hasCell2 hL isB129 hD.1 b) (fun r s z => ?_)
  obtain ⟨v3, rfl, hv3, rfl⟩ := z
  rw [inN_if] at hv3
  refine ⟨_, rfl, Fr.rf, fun he j => ?_, fun he => ?_⟩
  · rw [i01 hv3, inN_is (by omega)] at he
    refine ⟨fun q => he ?_, _, j, rfl, hK, Ch.rf⟩
    obtain ⟨-, c, e, j2, -, q1, -, -, q2, -⟩ := q
    exact ⟨e, q1, q2⟩
  rw [i01 hv3, Classical.not_not, inN_is (by omega)] at he
  obtain ⟨e, he, rfl⟩ := he
  have wj : ∀ {j : Nat}, j < 4 → ¬ nI j < nI 0 ∧ nI j ≤ nI 3 := by
    intro j hj
    rw [zLT (by omega) (by omega), zLE (by omega) (by omega)]
    omega
  refine ⟨fun hw i => ?_, fun hw => ⟨fun hw3 => ?_, fun hw3 i => ?_⟩⟩
  · refine ⟨fun q => ?_, _, i, rfl, hK, Ch.rf⟩
    obtain ⟨-, c', e', j, -, -, hj, -, -, rfl, -⟩ := q
    exact (wj hj).1 hw
  · obtain ⟨j, -, hj, rfl⟩ := wBt (lo := 0) (hi := 3) (by omega) (by omega) hw (Int32.not_lt.mpr hw3)
    refine Ct.imp (look_c (d := d) hL hV hI h (hB h) hK hc) (fun r s7 z => ?_)
    obtain ⟨rfl, k1, k2, c7⟩ := z
    obtain ⟨o1, o2, o3⟩ := acf_ok n x y E m c e
    have ke : KS s7 e (acf n x y E m c e) := k1 e (by omega)
    have hm : mi s7 146 (Int32.toNatClampNeg (nI e)) = nI (acf n x y E m c e).2.1 := by rw [zCL (by omega)]; exact ke.1
    refine ⟨rfl, c7.fr, by rw [zIN (by omega) (by omega)]; omega, fun h0 => ?_, fun h0 i => ?_⟩
    · rw [hm, lit32 0, zEQ (by omega) (by omega)] at h0
      refine Ct.imp (sp_tell10 (c7.lay hL) ke (by omega) (by omega) (show j < 4 by omega)) (fun r s11 z => ?_)
      obtain ⟨v11, rfl, rfl, rfl⟩ := z
      exact ⟨_, rfl, Fr.rf, ⟨h, c, e, j, hc, he, by omega, rfl, rfl, rfl, fun q => h0 (o3.mpr q), rfl⟩, k2, c7⟩
    · rw [hm, lit32 0, zEQ (by omega) (by omega)] at h0
      refine ⟨fun q => ?_, _, i, rfl, k2, c7⟩
      obtain ⟨-, c', e', j', h5, h6, -, h3, h4, -, h7⟩ := q
      rw [zEQ (by omega) (by omega)] at h3 h4
      subst h3
      subst h4
      exact h7 (o3.mp h0)
  · refine ⟨fun q => ?_, _, i, rfl, hK, Ch.rf⟩
    obtain ⟨-, c', e', j, -, -, hj, -, -, rfl, -⟩ := q
    exact hw3 (wj hj).2
theorem sp_round11 {g : GV} {d n E : Nat} {x y : Nat → Nat} {m : Mat} {a w : Int32} {σ : PS} (hfl : (gl g).stackTraces = false) (hL : Lay σ) (hV : VF n x y E) (h1 : mi σ 10 13 = nI (cnt (opn1 m) E)) (h2 : mi σ 20 6 = nI E) (hI : Inv E m) (hB : gcn E m = E → BF σ 129 n x y E (mt m)) (hK : LKo σ n x y E m) :
    EX11_round g (d + 3) [.ref 10, .int a, .int w] σ (fun v s => rouV n x y E m a w v ∧ LKo s n x y E m ∧ Ch chL noL σ s) (LX n x y E m (rouP n x y E m a w) σ) := by
  have hE := hV.2.2.2.2.2.2
  have hn := hV.2.1
  refine vcX11_round hfl hL _ _ (Ct.imp (sp_isB11 hL hE h1 h2 hI) (fun r s z => ?_))
  obtain ⟨v, rfl, hv, rfl⟩ := z
  refine ⟨_, rfl, Fr.rf, fun h j => ?_, fun h => ?_⟩
  · rw [i01 hv] at h
    exact ⟨fun q => h q.1, _, j, rfl, hK, Ch.rf⟩
  rw [i01 hv, Classical.not_not] at h
  obtain ⟨hD, hT⟩ := hB h
  refine Ct.imp (sp_hasCell2 hL isB129 hD.1 a) (fun r s z => ?_)
  obtain ⟨v2, rfl, hv2, rfl⟩ := z
  rw [inN_if] at hv2
  refine ⟨_, rfl, Fr.rf, fun hc j => ?_, fun hc => ?_⟩
  · rw [i01 hv2, inN_is (by omega)] at hc
    refine ⟨fun q => hc ?_, _, j, rfl, hK, Ch.rf⟩
    obtain ⟨-, c, j2, q1, -, q2, -⟩ := q
    exact ⟨c, q1, q2⟩
  rw [i01 hv2, Classical.not_not, inN_is (by omega)] at hc
  obtain ⟨c, hc, rfl⟩ := hc
  have wj : ∀ {j : Nat}, j < 4 → ¬ nI j < nI 0 ∧ nI j ≤ nI 3 := by
    intro j hj
    rw [zLT (by omega) (by omega), zLE (by omega) (by omega)]
    omega
  refine ⟨fun hw i => ?_, fun hw => ⟨fun hw3 => ?_, fun hw3 i => ?_⟩⟩
  · refine ⟨fun q => ?_, _, i, rfl, hK, Ch.rf⟩
    obtain ⟨-, c', j, -, hj, -, rfl, -⟩ := q
    exact (wj hj).1 hw
  · obtain ⟨j, -, hj, rfl⟩ := wBt (lo := 0) (hi := 3) (by omega) (by omega) hw (Int32.not_lt.mpr hw3)
    refine Ct.imp (look_c (d := d) hL hV hI h (hB h) hK hc) (fun r s7 z => ?_)
    obtain ⟨rfl, k1, k2, c7⟩ := z
    obtain ⟨o1, o2, o3⟩ := acf_ok n x y E m c 10
    have ke : KS s7 10 (acf n x y E m c 10) := k1 10 (by omega)
    have hm : mi s7 146 10 = nI (acf n x y E m c 10).2.1 := ke.1
    have e10 : mi s7 146 (Int32.toNatClampNeg 10) = nI (acf n x y E m c 10).2.1 := hm
    refine ⟨rfl, c7.fr, ?_⟩
    rw [e10, lit32 0, zEQ (by omega) (by omega)]
    refine ⟨fun h0 => ?_, fun h0 i => ?_⟩
    · refine Ct.imp (sp_tell10 (slot := 10) (c7.lay hL) ke (by omega) (by omega) (show j < 4 by omega)) (fun r s11 z => ?_)
      obtain ⟨v11, rfl, rfl, rfl⟩ := z
      exact ⟨_, rfl, Fr.rf, ⟨h, c, j, hc, by omega, rfl, rfl, fun q => h0 (o3.mpr q), rfl⟩, k2, c7⟩
    · refine ⟨fun q => ?_, _, i, rfl, k2, c7⟩
      obtain ⟨-, c', j', h5, -, h3, -, h7⟩ := q
      rw [zEQ (by omega) (by omega)] at h3
      subst h3
      exact h7 (o3.mp h0)
  · refine ⟨fun q => ?_, _, i, rfl, hK, Ch.rf⟩
    obtain ⟨-, c', j, -, hj, -, rfl, -⟩ := q
    exact hw3 (wj hj).2
