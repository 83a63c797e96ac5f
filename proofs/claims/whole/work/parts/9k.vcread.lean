/-! ===== a reference into a field; Reader.read as formulas ===== -/
theorem x_putR {g : GV} {Z : ZC} {own : String} {cc : ByteArray} {nL d mc ms k n pc : Nat} {L : List (Option Value)} {st : List Value} {σ : PS} {id ci fk ix N : Nat} {C : String} {T : u_T} (hc : cl13[ci]? = some (C, T, N)) (hf : fk < N) (hlay : ∀ w ∈ u_ws C T N, w ∈ lwG) (hlk : Cond.fieldLink own ix C (T fk).2.1 (T fk).2.2.1 ∈ lwG) (hT : (T fk).1 = C) (hfin : (T fk).2.2.2 = false) (ty0 : Nat → FieldType) (hty : ∀ k, k < N → parseFieldDescriptor (T k).2.2.1 = some (ty0 k)) (hnm : ∀ a, a < N → ∀ b, b < N → a ≠ b → (T a).2.1 ≠ (T b).2.1) (hkd : kd σ id = some (.inl ci)) {v : Nat} (hnr : narrow (ty0 fk) (.ref (adr g v)) = .ref (adr g v)) (hfit : fits (ty0 fk) (.ref (adr g v)) = true) (hfv : ∀ σ1 : PS, fv σ1 ci id fk = va_rf (mr σ1 id fk)) (hdg : decode cc pc = .ok (.putfield ix, 3)) (h : X g Z own cc nL d mc ms k n (pc + 3) L st (sq σ id fk (some v))) : X g Z own cc nL d mc ms k n pc L (.ref v :: .ref id :: st) σ := by
  intro p e R s m args below meth c Q hZ hB hk hn H locs ls hR hS hL
  have hts := hB.2.2.2.2.1
  have hK : Kt g s := hB.2.2.2.2.2.1
  have hap := va_apart (own := own) hts hlay ty0 hty hnm hK hc
  obtain ⟨r, h1, cell, q1, q2, q3, q4⟩ := hR.obj hkd
  have hr : r = (C, T, N) := Option.some.inj (h1.symm.trans hc)
  subst hr
  obtain ⟨hS2, hfc, kC, hkC, hkind⟩ := hK.1 ci _ hc
  obtain ⟨cf, kf, fi, f, hi, hsl⟩ := hS2 fk hf
  have hly := hts _ (hlay _ (u_in_lay hf))
  unfold u_lay at hly
  rw [if_neg (by rw [hfin]; decide)] at hly
  have hst := (u_facts hfc hkC (u_lays hts hlay hf) hi).1
  have h6 := u_store hfc hkC hkind hly hi (hty fk hf) hnr hfit
  refine W.putK hB.1 hB.2.1 (f := f) ⟨hB.2.2.2.1, hts _ hlk, ⟨_, _, _, by rw [← hT]; exact hi⟩, hst⟩ (by rw [q2]; exact h6) q1 q3 (by rw [hsl]; exact k2_hasslot (q4 fk hf)) rfl rfl hdg fun H1 e1 e2 e3 => ?_
  rw [hsl] at e1 ⊢
  refine h p e R s m args below meth c Q hZ hB hk hn H1 _ ls (hR.put hkd e2 e3 rfl rfl (fun b hb => ⟨rfl, rfl, sr_mr_ne _ hb⟩) ?_) (hS.put e2 e3 (adr_A (hR.at hkd).1)) hL
  unfold RelAt
  rw [show kd (sq σ id fk (some v)) = kd σ from rfl, hkd]
  refine ⟨_, hc, _, e1, q2, q3, fun j hj => ?_⟩
  have e1 : H1[adr g id]? = some (cell.setSlot ((gD g).2 ci fk) (.ref (adr g v))) := e1
  show (cell.setSlot ((gD g).2 ci fk) (.ref (adr g v))).slots[(gD g).2 ci j]? = _
  rw [t_set q4 hap hf (.ref (adr g v)) j hj]
  congr 1
  by_cases hjk : j = fk
  · subst hjk
    show updV _ _ _ _ = mv g (fv (sq σ id j (some v)) ci id j)
    rw [hfv, show mr (sq σ id j (some v)) id = va_up (mr σ id) j (some v) from sr_mr id _]
    simp [updV, va_up, va_rf, mv]
  · show updV _ _ _ _ = mv g (fv (sq σ id fk (some v)) ci id j)
    unfold updV
    rw [if_neg hjk]
    have e4 : mr (sq σ id fk (some v)) id j = mr σ id j := by
      rw [show mr (sq σ id fk (some v)) id = va_up (mr σ id) fk (some v) from sr_mr id _]
      simp [va_up, hjk]
    exact congrArg (mv g) (fv_congr rfl rfl e4.symm)
theorem pf_text {g : GV} {Z : ZC} {cc : ByteArray} {nL d mc ms k n pc : Nat} {L : List (Option Value)} {st : List Value} {σ : PS} (hkd : kd σ 16 = some (.inl 7)) (hdg : decode cc pc = .ok (.putfield 22, 3)) (h : X g Z RX7 cc nL d mc ms k n (pc + 3) L st (sq σ 16 4 (some 11))) : X g Z RX7 cc nL d mc ms k n pc L (.ref 11 :: .ref 16 :: st) σ := x_putR (ci := 7) (fk := 4) (C := RX7) (T := TX7) (N := 8) rfl (Nat.le_of_ble_eq_true rfl) lay_7 gw_182 rfl rfl tyX7 tyX7_ok nmX7 hkd rfl rfl (fun _ => rfl) hdg h
theorem lay164 : ∀ q ∈ layR, ¬ (q.1 = 16 ∧ q.2.1 = 4) := by decide +kernel
theorem Lay.sqT {s : PS} {v : Option Nat} (h : Lay s) : Lay (sq s 16 4 v) := by
  refine ⟨h.1, fun q hq => ?_⟩
  rw [mr_sq, if_neg (lay164 q hq)]
  exact h.2 q hq
theorem mr_text (s : PS) : mr (sq s 16 4 (some 11)) 16 4 = some 11 := by rw [mr_sq, if_pos ⟨rfl, rfl⟩]
theorem vcX7_read {g : GV} {d : Nat} {P : Int32 → PS → Prop} {σ : PS} (hL : Lay σ)  (h : ∀ s1 : PS, s1 = sq σ 16 4 (some 11) → CX8_cut g d [.ref 11] s1 (fun (s3 : PS) => Fr s1 s3 ∧ ∀ s5 : PS, s5 = si s3 16 3 0 → ∀ s7 : PS, s7 = si s5 16 6 0 → CJ7_fill_53178 g d [.ref 17, .int 0] s7 (fun (s9 : PS) => Fr s7 s9 ∧ VX7_read g (d + 1) P 32 [some (.ref 16), none, some (.int 0), none] [] s9))) : CX7_read g (d + 1) [.ref 16, .ref 11] σ P := by
  refine x_entry (L := [some (.ref 16), some (.ref 11), none, none]) pn_7 (Nat.le_of_ble_eq_true rfl) ⟨2, rfl⟩ ?_
  show VX7_read g (d + 1) P 0 [some (.ref 16), some (.ref 11), none, none] [] σ
  refine x_aload_n (i := 0) (dxX7_read_0 0 rfl) rfl rfl ?_
  refine x_aload_n (i := 1) (dxX7_read_0 1 rfl) rfl rfl ?_
  refine pf_text (kd_16 hL) (dxX7_read_0 2 rfl) ?_
  refine x_sto (fun s1 e2 => ?_)
  replace h := h s1 e2
  have hKs1 : kd s1 = kd σ := by rw [e2]; exact (rfl : kd σ = kd σ)
  have hLs1 : Lay s1 := by rw [e2]; exact hL.sqT
  have hTs1 : mr s1 16 4 = some 11 := by rw [e2]; exact mr_text _
  refine x_aload_n (i := 0) (dxX7_read_0 3 rfl) rfl rfl ?_
  refine gf_7_22 (kd_16 hLs1) (rv_text hTs1) (dxX7_read_0 4 rfl) ?_
  refine cl_7_26 (kd_11 hLs1) (Nat.le_of_ble_eq_true rfl) (dxX7_read_0 5 rfl) h (fun s3 h => ?_) (Nat.le_refl _) (Nat.le_refl _)
  obtain ⟨hFs3, h⟩ := h
  have hKs3 : kd s3 = kd σ := hFs3.1.trans hKs1
  have hLs3 : Lay s3 := hLs1.fr hFs3
  have hTs3 : mr s3 16 4 = some 11 := by rw [hFs3.2]; exact hTs1
  refine x_aload_n (i := 0) (dxX7_read_0 6 rfl) rfl rfl ?_
  refine x_iconst (v := 0) (dxX7_read_0 7 rfl) rfl ?_
  refine pf_7_31 (kd_16 hLs3) (dxX7_read_0 8 rfl) ?_
  refine x_sto (fun s5 e6 => ?_)
  replace h := h s5 e6
  have hKs5 : kd s5 = kd σ := by rw [e6]; exact hKs3
  have hLs5 : Lay s5 := by rw [e6]; exact hLs3.si
  have hTs5 : mr s5 16 4 = some 11 := by rw [e6]; exact hTs3
  refine x_aload_n (i := 0) (dxX7_read_0 9 rfl) rfl rfl ?_
  refine x_iconst (v := 0) (dxX7_read_0 10 rfl) rfl ?_
  refine pf_7_35 (kd_16 hLs5) (dxX7_read_0 11 rfl) ?_
  refine x_sto (fun s7 e8 => ?_)
  replace h := h s7 e8
  have hKs7 : kd s7 = kd σ := by rw [e8]; exact hKs5
  have hLs7 : Lay s7 := by rw [e8]; exact hLs5.si
  have hTs7 : mr s7 16 4 = some 11 := by rw [e8]; exact hTs5
  refine x_aload_n (i := 0) (dxX7_read_0 12 rfl) rfl rfl ?_
  refine gf_7_11 (kd_16 hLs7) (rv_16_0 hLs7) (dxX7_read_0 13 rfl) ?_
  refine x_iconst (v := 0) (dxX7_read_0 14 rfl) rfl ?_
  refine cl_7_38 (Nat.le_of_ble_eq_true rfl) (dxX7_read_0 15 rfl) h (fun s9 h => ?_) (Nat.le_refl _) (Nat.le_refl _)
  obtain ⟨hFs9, h⟩ := h
  have hKs9 : kd s9 = kd σ := hFs9.1.trans hKs7
  have hLs9 : Lay s9 := hLs7.fr hFs9
  have hTs9 : mr s9 16 4 = some 11 := by rw [hFs9.2]; exact hTs7
  refine x_iconst (v := 0) (dxX7_read_0 16 rfl) rfl ?_
  refine x_istore_n (i := 2) (dxX7_read_0 17 rfl) rfl (Nat.le_of_ble_eq_true rfl) rfl rfl ?_
  refine x_mask [true, false, true, false] (L1 := [some (.ref 16), none, some (.int 0), none]) rfl ?_
  exact h
theorem vcX7_read_32 {g : GV} {d : Nat} {P : Int32 → PS → Prop} {σ : PS} (hL : Lay σ) (hT : mr σ 16 4 = some 11) (l2 : Int32) (h : (2 ≤ l2 → P (mi σ 16 6) σ) ∧ (¬ 2 ≤ l2 → (¬ l2 = 1 → ∀ s11 : PS, s11 = si σ 16 7 0 → ∀ s13 : PS, s13 = si s11 16 5 0 → CJ7_fill_53178 g d [.ref 19, .int 0] s13 (fun (s15 : PS) => Fr s13 s15 ∧ VX7_read g (d + 1) P 66 [some (.ref 16), none, some (.int l2), some (.int 0)] [] s15)) ∧ (l2 = 1 → ∀ s17 : PS, s17 = si σ 16 7 1 → ∀ s19 : PS, s19 = si s17 16 5 0 → CJ7_fill_53178 g d [.ref 19, .int 0] s19 (fun (s21 : PS) => Fr s19 s21 ∧ VX7_read g (d + 1) P 66 [some (.ref 16), none, some (.int l2), some (.int 0)] [] s21)))) : VX7_read g (d + 1) P 32 [some (.ref 16), none, some (.int l2), none] [] σ := by
  refine x_iload_n (i := 2) (dxX7_read_0 18 rfl) rfl rfl ?_
  refine x_iconst (v := 2) (dxX7_read_0 19 rfl) rfl ?_
  refine x_icmp_ge (tgt := 149) (dxX7_read_0 20 rfl) (by decide) (fun hc => ?_) (fun hc => ?_)
  · replace h := h.1 hc
    refine x_aload_n (i := 0) (dxX7_read_2 10 rfl) rfl rfl ?_
    refine gf_7_35 (kd_16 hL) rfl (dxX7_read_2 11 rfl) ?_
    exact x_iret (ty := .int) rfl rfl (dxX7_read_2 12 rfl) ⟨_, rfl, h⟩
  · replace h := h.2 hc
    refine x_aload_n (i := 0) (dxX7_read_0 21 rfl) rfl rfl ?_
    refine x_iload_n (i := 2) (dxX7_read_0 22 rfl) rfl rfl ?_
    refine x_iconst (v := 1) (dxX7_read_0 23 rfl) rfl ?_
    refine x_icmp_ne (tgt := 47) (dxX7_read_0 24 rfl) (by decide) (fun hc => ?_) (fun hc => ?_)
    · replace h := h.1 hc
      refine x_iconst (v := 0) (dxX7_read_0 27 rfl) rfl ?_
      refine pf_7_44 (Or.inl rfl) (kd_16 hL) (dxX7_read_0 28 rfl) ?_
      refine x_sto (fun s11 e12 => ?_)
      replace h := h s11 e12
      have hKs11 : kd s11 = kd σ := by rw [e12]; exact (rfl : kd σ = kd σ)
      have hLs11 : Lay s11 := by rw [e12]; exact hL.si
      have hTs11 : mr s11 16 4 = some 11 := by rw [e12]; exact hT
      refine x_aload_n (i := 0) (dxX7_read_0 29 rfl) rfl rfl ?_
      refine x_iconst (v := 0) (dxX7_read_0 30 rfl) rfl ?_
      refine pf_7_48 (kd_16 hLs11) (dxX7_read_0 31 rfl) ?_
      refine x_sto (fun s13 e14 => ?_)
      replace h := h s13 e14
      have hKs13 : kd s13 = kd σ := by rw [e14]; exact hKs11
      have hLs13 : Lay s13 := by rw [e14]; exact hLs11.si
      have hTs13 : mr s13 16 4 = some 11 := by rw [e14]; exact hTs11
      refine x_aload_n (i := 0) (dxX7_read_1 0 rfl) rfl rfl ?_
      refine gf_7_19 (kd_16 hLs13) (rv_16_2 hLs13) (dxX7_read_1 1 rfl) ?_
      refine x_iconst (v := 0) (dxX7_read_1 2 rfl) rfl ?_
      refine cl_7_38 (Nat.le_of_ble_eq_true rfl) (dxX7_read_1 3 rfl) h (fun s15 h => ?_) (Nat.le_refl _) (Nat.le_refl _)
      obtain ⟨hFs15, h⟩ := h
      have hKs15 : kd s15 = kd σ := hFs15.1.trans hKs13
      have hLs15 : Lay s15 := hLs13.fr hFs15
      have hTs15 : mr s15 16 4 = some 11 := by rw [hFs15.2]; exact hTs13
      refine x_iconst (v := 0) (dxX7_read_1 4 rfl) rfl ?_
      refine x_istore_n (i := 3) (dxX7_read_1 5 rfl) rfl (Nat.le_of_ble_eq_true rfl) rfl rfl ?_
      exact h
    · replace h := h.2 hc
      refine x_iconst (v := 1) (dxX7_read_0 25 rfl) rfl ?_
      refine x_goto (tgt := 48) (dxX7_read_0 26 rfl) (by decide) ?_
      refine pf_7_44 (Or.inr rfl) (kd_16 hL) (dxX7_read_0 28 rfl) ?_
      refine x_sto (fun s17 e18 => ?_)
      replace h := h s17 e18
      have hKs17 : kd s17 = kd σ := by rw [e18]; exact (rfl : kd σ = kd σ)
      have hLs17 : Lay s17 := by rw [e18]; exact hL.si
      have hTs17 : mr s17 16 4 = some 11 := by rw [e18]; exact hT
      refine x_aload_n (i := 0) (dxX7_read_0 29 rfl) rfl rfl ?_
      refine x_iconst (v := 0) (dxX7_read_0 30 rfl) rfl ?_
      refine pf_7_48 (kd_16 hLs17) (dxX7_read_0 31 rfl) ?_
      refine x_sto (fun s19 e20 => ?_)
      replace h := h s19 e20
      have hKs19 : kd s19 = kd σ := by rw [e20]; exact hKs17
      have hLs19 : Lay s19 := by rw [e20]; exact hLs17.si
      have hTs19 : mr s19 16 4 = some 11 := by rw [e20]; exact hTs17
      refine x_aload_n (i := 0) (dxX7_read_1 0 rfl) rfl rfl ?_
      refine gf_7_19 (kd_16 hLs19) (rv_16_2 hLs19) (dxX7_read_1 1 rfl) ?_
      refine x_iconst (v := 0) (dxX7_read_1 2 rfl) rfl ?_
      refine cl_7_38 (Nat.le_of_ble_eq_true rfl) (dxX7_read_1 3 rfl) h (fun s21 h => ?_) (Nat.le_refl _) (Nat.le_refl _)
      obtain ⟨hFs21, h⟩ := h
      have hKs21 : kd s21 = kd σ := hFs21.1.trans hKs19
      have hLs21 : Lay s21 := hLs19.fr hFs21
      have hTs21 : mr s21 16 4 = some 11 := by rw [hFs21.2]; exact hTs19
      refine x_iconst (v := 0) (dxX7_read_1 4 rfl) rfl ?_
      refine x_istore_n (i := 3) (dxX7_read_1 5 rfl) rfl (Nat.le_of_ble_eq_true rfl) rfl rfl ?_
      exact h
theorem vcX7_read_66 {g : GV} {d : Nat} {P : Int32 → PS → Prop} {σ : PS} (hL : Lay σ) (hT : mr σ 16 4 = some 11) (l2 : Int32) (l3 : Int32) (h : ((mi σ 11 5) ≤ l3 → ∀ x23 : Int32, x23 = l2 + 1 → VX7_read g (d + 1) P 32 [some (.ref 16), none, some (.int x23), none] [] σ) ∧ (¬ (mi σ 11 5) ≤ l3 → (¬ (mi σ 16 6) = 0 → ∀ x25 : Int32, x25 = l2 + 1 → VX7_read g (d + 1) P 32 [some (.ref 16), none, some (.int x25), none] [] σ) ∧ ((mi σ 16 6) = 0 → CX7_kind g d [.ref 16] σ (fun (v28 : Int32) (s27 : PS) => Fr σ s27 ∧ (v28 = 0 → ∀ x29 : Int32, x29 = l2 + 1 → VX7_read g (d + 1) P 32 [some (.ref 16), none, some (.int x29), none] [] s27) ∧ (¬ v28 = 0 → CX7_kind g d [.ref 16] s27 (fun (v32 : Int32) (s31 : PS) => Fr s27 s31 ∧ (¬ v32 = 7 → CX7_kind g d [.ref 16] s31 (fun (v34 : Int32) (s33 : PS) => Fr s31 s33 ∧ (¬ v34 = 8 → CX7_readStep g d [.ref 16, .int (mi s33 16 7)] s33 (fun (s35 : PS) => Fr s33 s35 ∧ CX7_expect g d [.ref 16, .int 59] s35 (fun (s37 : PS) => Fr s35 s37 ∧ ∀ x39 : Int32, x39 = l3 + 1 → VX7_read g (d + 1) P 66 [some (.ref 16), none, some (.int l2), some (.int x39)] [] s37))) ∧ (v34 = 8 → CX7_readEach g d [.ref 16] s33 (fun (s41 : PS) => Fr s33 s41 ∧ CX7_expect g d [.ref 16, .int 59] s41 (fun (s43 : PS) => Fr s41 s43 ∧ ∀ x45 : Int32, x45 = l3 + 1 → VX7_read g (d + 1) P 66 [some (.ref 16), none, some (.int l2), some (.int x45)] [] s43))))) ∧ (v32 = 7 → CX7_readLet g d [.ref 16] s31 (fun (s47 : PS) => Fr s31 s47 ∧ CX7_expect g d [.ref 16, .int 59] s47 (fun (s49 : PS) => Fr s47 s49 ∧ ∀ x51 : Int32, x51 = l3 + 1 → VX7_read g (d + 1) P 66 [some (.ref 16), none, some (.int l2), some (.int x51)] [] s49))))))))) : VX7_read g (d + 1) P 66 [some (.ref 16), none, some (.int l2), some (.int l3)] [] σ := by
  refine x_iload_n (i := 3) (dxX7_read_1 6 rfl) rfl rfl ?_
  refine x_aload_n (i := 0) (dxX7_read_1 7 rfl) rfl rfl ?_
  refine gf_7_22 (kd_16 hL) (rv_text hT) (dxX7_read_1 8 rfl) ?_
  refine gf_7_51 (kd_11 hL) rfl (dxX7_read_1 9 rfl) ?_
  refine x_icmp_ge (tgt := 143) (dxX7_read_1 10 rfl) (by decide) (fun hc => ?_) (fun hc => ?_)
  · replace h := h.1 hc
    obtain ⟨x23, e24⟩ : ∃ y : Int32, y = l2 + 1 := ⟨_, rfl⟩
    replace h := h x23 e24
    refine x_iinc (v := x23) (dxX7_read_2 8 rfl) (i := 2) rfl (by rw [e24]; rfl) (Nat.le_of_ble_eq_true rfl) rfl rfl ?_
    refine x_goto (tgt := 32) (dxX7_read_2 9 rfl) (by decide) ?_
    refine x_mask [true, false, true, false] (L1 := [some (.ref 16), none, some (.int x23), none]) rfl ?_
    exact h
  · replace h := h.2 hc
    refine x_aload_n (i := 0) (dxX7_read_1 11 rfl) rfl rfl ?_
    refine gf_7_35 (kd_16 hL) rfl (dxX7_read_1 12 rfl) ?_
    refine x_if_ne (tgt := 143) (dxX7_read_1 13 rfl) (by decide) (fun hc => ?_) (fun hc => ?_)
    · replace h := h.1 hc
      obtain ⟨x25, e26⟩ : ∃ y : Int32, y = l2 + 1 := ⟨_, rfl⟩
      replace h := h x25 e26
      refine x_iinc (v := x25) (dxX7_read_2 8 rfl) (i := 2) rfl (by rw [e26]; rfl) (Nat.le_of_ble_eq_true rfl) rfl rfl ?_
      refine x_goto (tgt := 32) (dxX7_read_2 9 rfl) (by decide) ?_
      refine x_mask [true, false, true, false] (L1 := [some (.ref 16), none, some (.int x25), none]) rfl ?_
      exact h
    · replace h := h.2 hc
      refine x_aload_n (i := 0) (dxX7_read_1 14 rfl) rfl rfl ?_
      refine cl_7_54 (kd_16 hL) (Nat.le_of_ble_eq_true rfl) (dxX7_read_1 15 rfl) h (fun v28 s27 h => ?_) (Nat.le_refl _) (Nat.le_refl _)
      obtain ⟨hFs27, h⟩ := h
      have hKs27 : kd s27 = kd σ := hFs27.1.trans (rfl : kd σ = kd σ)
      have hLs27 : Lay s27 := hL.fr hFs27
      have hTs27 : mr s27 16 4 = some 11 := by rw [hFs27.2]; exact hT
      refine x_if_eq (tgt := 143) (dxX7_read_1 16 rfl) (by decide) (fun hc => ?_) (fun hc => ?_)
      · replace h := h.1 hc
        obtain ⟨x29, e30⟩ : ∃ y : Int32, y = l2 + 1 := ⟨_, rfl⟩
        replace h := h x29 e30
        refine x_iinc (v := x29) (dxX7_read_2 8 rfl) (i := 2) rfl (by rw [e30]; rfl) (Nat.le_of_ble_eq_true rfl) rfl rfl ?_
        refine x_goto (tgt := 32) (dxX7_read_2 9 rfl) (by decide) ?_
        refine x_mask [true, false, true, false] (L1 := [some (.ref 16), none, some (.int x29), none]) rfl ?_
        exact h
      · replace h := h.2 hc
        refine x_aload_n (i := 0) (dxX7_read_1 17 rfl) rfl rfl ?_
        refine cl_7_54 (kd_16 hLs27) (Nat.le_of_ble_eq_true rfl) (dxX7_read_1 18 rfl) h (fun v32 s31 h => ?_) (Nat.le_refl _) (Nat.le_refl _)
        obtain ⟨hFs31, h⟩ := h
        have hKs31 : kd s31 = kd σ := hFs31.1.trans hKs27
        have hLs31 : Lay s31 := hLs27.fr hFs31
        have hTs31 : mr s31 16 4 = some 11 := by rw [hFs31.2]; exact hTs27
        refine x_bipush (v := 7) (dxX7_read_1 19 rfl) rfl ?_
        refine x_icmp_ne (tgt := 107) (dxX7_read_1 20 rfl) (by decide) (fun hc => ?_) (fun hc => ?_)
        · replace h := h.1 hc
          refine x_aload_n (i := 0) (dxX7_read_1 24 rfl) rfl rfl ?_
          refine cl_7_54 (kd_16 hLs31) (Nat.le_of_ble_eq_true rfl) (dxX7_read_1 25 rfl) h (fun v34 s33 h => ?_) (Nat.le_refl _) (Nat.le_refl _)
          obtain ⟨hFs33, h⟩ := h
          have hKs33 : kd s33 = kd σ := hFs33.1.trans hKs31
          have hLs33 : Lay s33 := hLs31.fr hFs33
          have hTs33 : mr s33 16 4 = some 11 := by rw [hFs33.2]; exact hTs31
          refine x_bipush (v := 8) (dxX7_read_1 26 rfl) rfl ?_
          refine x_icmp_ne (tgt := 123) (dxX7_read_1 27 rfl) (by decide) (fun hc => ?_) (fun hc => ?_)
          · replace h := h.1 hc
            refine x_aload_n (i := 0) (dxX7_read_1 31 rfl) rfl rfl ?_
            refine x_aload_n (i := 0) (dxX7_read_2 0 rfl) rfl rfl ?_
            refine gf_7_44 (kd_16 hLs33) rfl (dxX7_read_2 1 rfl) ?_
            refine cl_7_64 (kd_16 hLs33) (Nat.le_of_ble_eq_true rfl) (dxX7_read_2 2 rfl) h (fun s35 h => ?_) (Nat.le_refl _) (Nat.le_refl _)
            obtain ⟨hFs35, h⟩ := h
            have hKs35 : kd s35 = kd σ := hFs35.1.trans hKs33
            have hLs35 : Lay s35 := hLs33.fr hFs35
            have hTs35 : mr s35 16 4 = some 11 := by rw [hFs35.2]; exact hTs33
            refine x_aload_n (i := 0) (dxX7_read_2 3 rfl) rfl rfl ?_
            refine x_bipush (v := 59) (dxX7_read_2 4 rfl) rfl ?_
            refine cl_7_68 (kd_16 hLs35) (Nat.le_of_ble_eq_true rfl) (dxX7_read_2 5 rfl) h (fun s37 h => ?_) (Nat.le_refl _) (Nat.le_refl _)
            obtain ⟨hFs37, h⟩ := h
            have hKs37 : kd s37 = kd σ := hFs37.1.trans hKs35
            have hLs37 : Lay s37 := hLs35.fr hFs37
            have hTs37 : mr s37 16 4 = some 11 := by rw [hFs37.2]; exact hTs35
            obtain ⟨x39, e40⟩ : ∃ y : Int32, y = l3 + 1 := ⟨_, rfl⟩
            replace h := h x39 e40
            refine x_iinc (v := x39) (dxX7_read_2 6 rfl) (i := 3) rfl (by rw [e40]; rfl) (Nat.le_of_ble_eq_true rfl) rfl rfl ?_
            refine x_goto (tgt := 66) (dxX7_read_2 7 rfl) (by decide) ?_
            exact h
          · replace h := h.2 hc
            refine x_aload_n (i := 0) (dxX7_read_1 28 rfl) rfl rfl ?_
            refine cl_7_61 (kd_16 hLs33) (Nat.le_of_ble_eq_true rfl) (dxX7_read_1 29 rfl) h (fun s41 h => ?_) (Nat.le_refl _) (Nat.le_refl _)
            obtain ⟨hFs41, h⟩ := h
            have hKs41 : kd s41 = kd σ := hFs41.1.trans hKs33
            have hLs41 : Lay s41 := hLs33.fr hFs41
            have hTs41 : mr s41 16 4 = some 11 := by rw [hFs41.2]; exact hTs33
            refine x_goto (tgt := 131) (dxX7_read_1 30 rfl) (by decide) ?_
            refine x_aload_n (i := 0) (dxX7_read_2 3 rfl) rfl rfl ?_
            refine x_bipush (v := 59) (dxX7_read_2 4 rfl) rfl ?_
            refine cl_7_68 (kd_16 hLs41) (Nat.le_of_ble_eq_true rfl) (dxX7_read_2 5 rfl) h (fun s43 h => ?_) (Nat.le_refl _) (Nat.le_refl _)
            obtain ⟨hFs43, h⟩ := h
            have hKs43 : kd s43 = kd σ := hFs43.1.trans hKs41
            have hLs43 : Lay s43 := hLs41.fr hFs43
            have hTs43 : mr s43 16 4 = some 11 := by rw [hFs43.2]; exact hTs41
            obtain ⟨x45, e46⟩ : ∃ y : Int32, y = l3 + 1 := ⟨_, rfl⟩
            replace h := h x45 e46
            refine x_iinc (v := x45) (dxX7_read_2 6 rfl) (i := 3) rfl (by rw [e46]; rfl) (Nat.le_of_ble_eq_true rfl) rfl rfl ?_
            refine x_goto (tgt := 66) (dxX7_read_2 7 rfl) (by decide) ?_
            exact h
        · replace h := h.2 hc
          refine x_aload_n (i := 0) (dxX7_read_1 21 rfl) rfl rfl ?_
          refine cl_7_58 (kd_16 hLs31) (Nat.le_of_ble_eq_true rfl) (dxX7_read_1 22 rfl) h (fun s47 h => ?_) (Nat.le_refl _) (Nat.le_refl _)
          obtain ⟨hFs47, h⟩ := h
          have hKs47 : kd s47 = kd σ := hFs47.1.trans hKs31
          have hLs47 : Lay s47 := hLs31.fr hFs47
          have hTs47 : mr s47 16 4 = some 11 := by rw [hFs47.2]; exact hTs31
          refine x_goto (tgt := 131) (dxX7_read_1 23 rfl) (by decide) ?_
          refine x_aload_n (i := 0) (dxX7_read_2 3 rfl) rfl rfl ?_
          refine x_bipush (v := 59) (dxX7_read_2 4 rfl) rfl ?_
          refine cl_7_68 (kd_16 hLs47) (Nat.le_of_ble_eq_true rfl) (dxX7_read_2 5 rfl) h (fun s49 h => ?_) (Nat.le_refl _) (Nat.le_refl _)
          obtain ⟨hFs49, h⟩ := h
          have hKs49 : kd s49 = kd σ := hFs49.1.trans hKs47
          have hLs49 : Lay s49 := hLs47.fr hFs49
          have hTs49 : mr s49 16 4 = some 11 := by rw [hFs49.2]; exact hTs47
          obtain ⟨x51, e52⟩ : ∃ y : Int32, y = l3 + 1 := ⟨_, rfl⟩
          replace h := h x51 e52
          refine x_iinc (v := x51) (dxX7_read_2 6 rfl) (i := 3) rfl (by rw [e52]; rfl) (Nat.le_of_ble_eq_true rfl) rfl rfl ?_
          refine x_goto (tgt := 66) (dxX7_read_2 7 rfl) (by decide) ?_
          exact h
