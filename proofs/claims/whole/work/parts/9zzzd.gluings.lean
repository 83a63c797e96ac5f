/-! ===== the constructor of Gluings (written by wip/gen/vci.py) ===== -/
theorem gw_278 : Cond.instantiable RX3 3 ∈ lwG := gw 278 (by decide +kernel) rfl
theorem gw_280 : Cond.instanceMethod yX3_init ∈ lwG := gw 280 (by decide +kernel) rfl
theorem gw_281 : Cond.code yX3_init cX3_init 1 none ∈ lwG := gw 281 (by decide +kernel) rfl
theorem gw_300 : Cond.methodLink RX5 3 Lib.objectInit ∈ lwG := gw 300 (by decide +kernel) rfl
theorem gw_301 : Cond.classLink RX5 18 RX3 ∈ lwG := gw 301 (by decide +kernel) rfl
theorem vp_in12 {i : Nat} (h : i < 12) : vp_in (nI i) 12 := nI_in h (by decide)
def tbX5_init_0 : List (Nat × Instr × Nat) := [(0, .aload_n 0, 1), (1, .invokespecial 3, 3), (4, .aload_n 0, 1), (5, .sipush 2000, 3), (8, .newarray .int, 2), (10, .putfield 11, 3), (13, .aload_n 0, 1), (14, .bipush 22, 2), (16, .newarray .int, 2), (18, .putfield 15, 3), (21, .aload_n 0, 1), (22, .bipush 12, 2), (24, .anewarray 18, 3), (27, .putfield 20, 3), (30, .aload_n 0, 1), (31, .bipush 22, 2), (33, .newarray .int, 2), (35, .putfield 24, 3), (38, .aload_n 0, 1), (39, .bipush 22, 2), (41, .newarray .int, 2), (43, .putfield 27, 3), (46, .aload_n 0, 1), (47, .aload_n 1, 1), (48, .putfield 30, 3), (51, .iconst 0, 1), (52, .istore_n 2, 1), (53, .iload_n 2, 1), (54, .aload_n 0, 1), (55, .getfield 20, 3), (58, .arraylength, 1), (59, .if_icmp .ge 22, 3)]
theorem tkX5_init_0 : ∀ q ∈ tbX5_init_0, decode cX5_init q.1 = .ok q.2 := by decide +kernel
theorem dxX5_init_0 (i : Nat) {pc : Nat} {ins : Instr} {len : Nat} (h : tbX5_init_0[i]? = some (pc, ins, len)) : decode cX5_init pc = .ok (ins, len) := tkX5_init_0 (pc, ins, len) (List.mem_of_getElem? h)
def tbX5_init_1 : List (Nat × Instr × Nat) := [(62, .aload_n 0, 1), (63, .getfield 20, 3), (66, .iload_n 2, 1), (67, .new 18, 3), (70, .dup, 1), (71, .invokespecial 34, 3), (74, .aastore, 1), (75, .iinc 2 1, 3), (78, .goto (-25), 3), (81, .return_, 1)]
theorem tkX5_init_1 : ∀ q ∈ tbX5_init_1, decode cX5_init q.1 = .ok q.2 := by decide +kernel
theorem dxX5_init_1 (i : Nat) {pc : Nat} {ins : Instr} {len : Nat} (h : tbX5_init_1[i]? = some (pc, ins, len)) : decode cX5_init pc = .ok (ins, len) := tkX5_init_1 (pc, ins, len) (List.mem_of_getElem? h)
def k5h (σ : PS) (o a p0 : Nat) : PS := (sq (sq (nK (sq (nK (sq (nK (sq (nK (sq (nK σ a (.inr (0, 2000))) o 4 (some a)) (a + 1) (.inr (0, 22))) o 5 (some (a + 1))) (a + 2) (.inr (6, 12))) o 6 (some (a + 2))) (a + 3) (.inr (0, 22))) o 7 (some (a + 3))) (a + 4) (.inr (0, 22))) o 8 (some (a + 4))) o 0 (some p0))
/-- one more Corners into the row r, at place i; the next number is a -/
def gl5 (σ : PS) (r a i : Nat) : PS := sq (k3 (nK σ a (.inl 3)) a (a + 1)) r i (some a)
def gl12 (σ : PS) (r a : Nat) : Nat → PS
  | 0 => σ
  | i + 1 => gl5 (gl12 σ r a i) r (a + 3 * i) i
def k5 (σ : PS) (o a p0 : Nat) : PS := gl12 (k5h σ o a p0) (a + 2) (a + 5) 12
theorem nx_gl12 {σ : PS} {r a : Nat} (ha : nx σ = a) : ∀ i, nx (gl12 σ r a i) = a + 3 * i
  | 0 => ha
  | i + 1 => by show a + 3 * i + 1 + 2 = a + 3 * (i + 1); omega
theorem kd_gl12 {σ : PS} {r a b : Nat} {q : Option KD} (h : kd σ b = q) (hb : b < a) : ∀ i, kd (gl12 σ r a i) b = q
  | 0 => h
  | i + 1 => kQ (kk_3 (kN (kd_gl12 h hb i) (by omega)) (by omega))
theorem mr_k3 {σ : PS} {o a b : Nat} (hb : b < a) (hbo : b ≠ o) : mr (k3 σ o a) b = mr σ b := by
  funext j
  unfold k3
  rw [mr_sq, if_neg (by omega), mr_nK, if_neg (by omega), mr_sq, if_neg (by omega), mr_nK, if_neg (by omega)]
theorem mr_gl12 {σ : PS} {r a b : Nat} (hb : b < a) (hbr : b ≠ r) : ∀ i, mr (gl12 σ r a i) b = mr σ b
  | 0 => rfl
  | i + 1 => by
    funext j
    show mr (gl5 _ _ _ _) b j = _
    unfold gl5
    rw [mr_sq, if_neg (by omega), mr_k3 (by omega) (by omega), mr_nK, if_neg (by omega), mr_gl12 hb hbr i]
theorem ct_5 {g : GV} {d o a p0 : Nat} {σ : PS} (ho : o < a) (ha : nx σ = a) (hk : kd σ o = some (.inl 5)) : CtI g yX5_init cX5_init 3 (d + 1) 41 2642 [.ref o, .ref p0] σ (fun s => s = k5 σ o a p0) := by
  have hn0 : nx (k5h σ o a p0) = a + 5 := rfl
  have hk0 : kd (k5h σ o a p0) o = some (.inl 5) := (kQ (kQ (kN (kQ (kN (kQ (kN (kQ (kN (kQ (kN hk (by omega))) (by omega))) (by omega))) (by omega))) (by omega))))
  have hr0 : kd (k5h σ o a p0) (a + 2) = some (.inr (6, 12)) := (kQ (kQ (kN (kQ (kN (kQ (kS _ _ _)) (by omega))) (by omega))))
  have hm0 : mr (k5h σ o a p0) o 6 = some (a + 2) := by unfold k5h; rw [mr_sq, if_neg (by omega), mr_sq, if_neg (by omega), mr_nK, if_neg (by omega), mr_sq, if_neg (by omega), mr_nK, if_neg (by omega), mr_sq, if_pos ⟨rfl, rfl⟩]
  have lp : ∀ z i, z = 12 - i → i ≤ 12 → X g (ZI g a 41 2642 (fun s => s = k5 σ o a p0)) RX5 cX5_init 3 (d + 1) 41 2642 (5 + 3 * i) (2078 + 47 * i) 53 [some (.ref o), some (.ref p0), some (.int (nI i))] [] (gl12 (k5h σ o a p0) (a + 2) (a + 5) i) := by
    intro z
    induction z with
    | zero =>
      intro i hz hi
      have e : i = 12 := by omega
      subst e
      refine x_iload_n (i := 2) (dxX5_init_0 27 rfl) rfl rfl ?_
      refine x_aload_n (i := 0) (dxX5_init_0 28 rfl) rfl rfl ?_
      refine gf_5_20 (v := .ref (a + 2)) (kd_gl12 hk0 (by omega) 12) (by show va_rf (mr (gl12 _ _ _ 12) o 6) = _; rw [mr_gl12 (by omega) (by omega), hm0]; rfl) (dxX5_init_0 29 rfl) ?_
      refine x_alen (t := 6) (z := 12) (by decide) (kd_gl12 hr0 (by omega) 12) (dxX5_init_0 30 rfl) ?_
      refine x_icmp_ge (tgt := 81) (dxX5_init_0 31 rfl) rfl (fun _ => ?_) (fun h => absurd (nI_le (Nat.le_refl 12) (by decide)) h)
      exact x_vretI (dxX5_init_1 9 rfl) rfl
    | succ z ih =>
      intro i hz hi
      have hi2 : i < 12 := by omega
      have hn1 := nx_gl12 (r := a + 2) hn0 i
      have hk1 := kd_gl12 (r := a + 2) hk0 (show o < a + 5 by omega) i
      have hr1 := kd_gl12 (r := a + 2) hr0 (show a + 2 < a + 5 by omega) i
      have hm1 : fv (gl12 (k5h σ o a p0) (a + 2) (a + 5) i) 5 o 6 = .ref (a + 2) := by show va_rf (mr (gl12 _ _ _ i) o 6) = _; rw [mr_gl12 (by omega) (by omega), hm0]; rfl
      have hgi : gl12 (k5h σ o a p0) (a + 2) (a + 5) (i + 1) = gl5 (gl12 (k5h σ o a p0) (a + 2) (a + 5) i) (a + 2) (a + 5 + 3 * i) i := rfl
      replace ih := ih (i + 1) (by omega) (by omega)
      rw [hgi] at ih
      generalize gl12 (k5h σ o a p0) (a + 2) (a + 5) i = s0 at hn1 hk1 hr1 hm1 ih
      refine x_iload_n (i := 2) (dxX5_init_0 27 rfl) rfl rfl ?_
      refine x_aload_n (i := 0) (dxX5_init_0 28 rfl) rfl rfl ?_
      refine gf_5_20 (v := .ref (a + 2)) hk1 hm1 (dxX5_init_0 29 rfl) ?_
      refine x_alen (t := 6) (z := 12) (by decide) hr1 (dxX5_init_0 30 rfl) ?_
      refine x_icmp_ge (tgt := 81) (dxX5_init_0 31 rfl) rfl (fun h => absurd h (nI_ge hi2 (by decide))) (fun _ => ?_)
      refine x_aload_n (i := 0) (dxX5_init_1 0 rfl) rfl rfl ?_
      refine gf_5_20 (v := .ref (a + 2)) hk1 hm1 (dxX5_init_1 1 rfl) ?_
      refine x_iload_n (i := 2) (dxX5_init_1 2 rfl) rfl rfl ?_
      refine x_newO (ci := 3) (C := RX3) (T := TX3) (N := 3) (a := a + 5 + 3 * i) rfl lay_3 tyX3 tyX3_ok gw_301 gw_278 gw_108 zv_3 hn1 (dxX5_init_1 3 rfl) (by omega) (by omega) ?_
      refine x_dup (dxX5_init_1 4 rfl) rfl ?_
      refine x_callIN (As := []) ZI.ao (dxX5_init_1 5 rfl) (host := "GluedPaper") (List.mem_of_getElem? (i := 5) rfl) gw_280 gw_108 gw_281 rfl pd_yX3_init (Nat.le_of_ble_eq_true rfl) (Nat.le_of_ble_eq_true rfl) (by omega) (by omega) rfl (ct_3 (d := d) (o := a + 5 + 3 * i) (a := a + 5 + 3 * i + 1) (by omega) rfl (kS _ _ _)) (fun s1 e1 => ?_)
      subst e1
      refine x_aastQ (z := 12) (kk_3 (kN hr1 (by omega)) (by omega)) (kk_3 (kS _ _ _) (by omega)) (vp_in12 hi2) (dxX5_init_1 6 rfl) ?_
      rw [show (nI i).toNatClampNeg = i from nI_clamp (by omega)]
      refine x_iinc (v := nI (i + 1)) (dxX5_init_1 7 rfl) rfl (nI_succ i).symm (Nat.le_of_ble_eq_true rfl) rfl rfl ?_
      refine x_goto (tgt := 53) (dxX5_init_1 8 rfl) rfl ?_
      rw [show 5 + 3 * (i + 1) = 5 + 3 * i + 1 + 2 by omega, show 2078 + 47 * (i + 1) = 2078 + 47 * i + 3 + 44 by omega] at ih
      exact ih
  refine x_entryI (a0 := a) (L := [some (.ref o), some (.ref p0), none]) pn_5 rfl ha (Nat.le_of_ble_eq_true rfl) ⟨1, rfl⟩ ?_
  show X g (ZI g a 41 2642 _) RX5 cX5_init 3 _ 41 2642 0 0 0 _ [] σ
  refine x_aload_n (i := 0) (dxX5_init_0 0 rfl) rfl rfl ?_
  refine x_objI gw_300 (Nat.le_of_ble_eq_true rfl) (dxX5_init_0 1 rfl) ?_
  refine x_aload_n (i := 0) (dxX5_init_0 2 rfl) rfl rfl ?_
  refine x_sipush (v := 2000) (dxX5_init_0 3 rfl) rfl ?_
  refine x_newA (atype := .int) (t := 0) (z := 2000) (a := a) (Nat.le_of_ble_eq_true rfl) rfl gw_169 (by decide) (by decide) (Nat.le_of_ble_eq_true rfl) ha (dxX5_init_0 4 rfl) (Nat.le_of_ble_eq_true rfl) (Nat.le_of_ble_eq_true rfl) ?_
  replace hk := kN (a := a) (q := .inr (0, 2000)) hk (by omega)
  refine x_putF (ci := 5) (fk := 4) (C := RX5) (T := TX5) (N := 9) ZI.nm rfl rfl (Nat.le_of_ble_eq_true rfl) lay_5 gw_313 rfl rfl tyX5 tyX5_ok nmX5 hk rfl rfl (fun _ => rfl) (dxX5_init_0 5 rfl) ?_
  replace hk := kQ (b := o) (i := 4) (v := some a) hk
  refine x_aload_n (i := 0) (dxX5_init_0 6 rfl) rfl rfl ?_
  refine x_bipush (v := 22) (dxX5_init_0 7 rfl) rfl ?_
  refine x_newA (atype := .int) (t := 0) (z := 22) (a := (a + 1)) (Nat.le_of_ble_eq_true rfl) rfl gw_169 (by decide) (by decide) (Nat.le_of_ble_eq_true rfl) rfl (dxX5_init_0 8 rfl) (Nat.le_of_ble_eq_true rfl) (Nat.le_of_ble_eq_true rfl) ?_
  replace hk := kN (a := (a + 1)) (q := .inr (0, 22)) hk (by omega)
  refine x_putF (ci := 5) (fk := 5) (C := RX5) (T := TX5) (N := 9) ZI.nm rfl rfl (Nat.le_of_ble_eq_true rfl) lay_5 gw_314 rfl rfl tyX5 tyX5_ok nmX5 hk rfl rfl (fun _ => rfl) (dxX5_init_0 9 rfl) ?_
  replace hk := kQ (b := o) (i := 5) (v := some (a + 1)) hk
  refine x_aload_n (i := 0) (dxX5_init_0 10 rfl) rfl rfl ?_
  refine x_bipush (v := 12) (dxX5_init_0 11 rfl) rfl ?_
  refine x_newQ (z := 12) (a := (a + 2)) ZI.ao gw_301 (by decide) (by decide) (Nat.le_of_ble_eq_true rfl) rfl (dxX5_init_0 12 rfl) (Nat.le_of_ble_eq_true rfl) (Nat.le_of_ble_eq_true rfl) ?_
  replace hk := kN (a := (a + 2)) (q := .inr (6, 12)) hk (by omega)
  refine x_putF (ci := 5) (fk := 6) (C := RX5) (T := TX5) (N := 9) ZI.nm rfl rfl (Nat.le_of_ble_eq_true rfl) lay_5 gw_315 rfl rfl tyX5 tyX5_ok nmX5 hk rfl rfl (fun _ => rfl) (dxX5_init_0 13 rfl) ?_
  replace hk := kQ (b := o) (i := 6) (v := some (a + 2)) hk
  refine x_aload_n (i := 0) (dxX5_init_0 14 rfl) rfl rfl ?_
  refine x_bipush (v := 22) (dxX5_init_0 15 rfl) rfl ?_
  refine x_newA (atype := .int) (t := 0) (z := 22) (a := (a + 3)) (Nat.le_of_ble_eq_true rfl) rfl gw_169 (by decide) (by decide) (Nat.le_of_ble_eq_true rfl) rfl (dxX5_init_0 16 rfl) (Nat.le_of_ble_eq_true rfl) (Nat.le_of_ble_eq_true rfl) ?_
  replace hk := kN (a := (a + 3)) (q := .inr (0, 22)) hk (by omega)
  refine x_putF (ci := 5) (fk := 7) (C := RX5) (T := TX5) (N := 9) ZI.nm rfl rfl (Nat.le_of_ble_eq_true rfl) lay_5 gw_316 rfl rfl tyX5 tyX5_ok nmX5 hk rfl rfl (fun _ => rfl) (dxX5_init_0 17 rfl) ?_
  replace hk := kQ (b := o) (i := 7) (v := some (a + 3)) hk
  refine x_aload_n (i := 0) (dxX5_init_0 18 rfl) rfl rfl ?_
  refine x_bipush (v := 22) (dxX5_init_0 19 rfl) rfl ?_
  refine x_newA (atype := .int) (t := 0) (z := 22) (a := (a + 4)) (Nat.le_of_ble_eq_true rfl) rfl gw_169 (by decide) (by decide) (Nat.le_of_ble_eq_true rfl) rfl (dxX5_init_0 20 rfl) (Nat.le_of_ble_eq_true rfl) (Nat.le_of_ble_eq_true rfl) ?_
  replace hk := kN (a := (a + 4)) (q := .inr (0, 22)) hk (by omega)
  refine x_putF (ci := 5) (fk := 8) (C := RX5) (T := TX5) (N := 9) ZI.nm rfl rfl (Nat.le_of_ble_eq_true rfl) lay_5 gw_317 rfl rfl tyX5 tyX5_ok nmX5 hk rfl rfl (fun _ => rfl) (dxX5_init_0 21 rfl) ?_
  replace hk := kQ (b := o) (i := 8) (v := some (a + 4)) hk
  refine x_aload_n (i := 0) (dxX5_init_0 22 rfl) rfl rfl ?_
  refine x_aload_n (i := 1) (dxX5_init_0 23 rfl) rfl rfl ?_
  refine x_putF (ci := 5) (fk := 0) (C := RX5) (T := TX5) (N := 9) ZI.nm rfl rfl (Nat.le_of_ble_eq_true rfl) lay_5 gw_304 rfl rfl tyX5 tyX5_ok nmX5 hk rfl rfl (fun _ => rfl) (dxX5_init_0 24 rfl) ?_
  replace hk := kQ (b := o) (i := 0) (v := some p0) hk
  refine x_iconst (v := 0) (dxX5_init_0 25 rfl) rfl ?_
  refine x_istore_n (i := 2) (dxX5_init_0 26 rfl) rfl (Nat.le_of_ble_eq_true rfl) rfl rfl ?_
  exact lp 12 0 rfl (by omega)
theorem kk_5 {σ : PS} {o a b p0 : Nat} {q : Option KD} (h : kd σ b = q) (hb : b < a) : kd (k5 σ o a p0) b = q := kd_gl12 (show kd (k5h σ o a p0) b = q from (kQ (kQ (kN (kQ (kN (kQ (kN (kQ (kN (kQ (kN h (by omega))) (by omega))) (by omega))) (by omega))) (by omega))))) (by omega) 12
theorem nx_k5 (σ : PS) (o a p0 : Nat) : nx (k5 σ o a p0) = a + 41 := nx_gl12 (show nx (k5h σ o a p0) = a + 5 from rfl) 12
