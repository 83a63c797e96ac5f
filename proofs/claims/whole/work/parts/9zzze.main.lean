/-! ===== the two big constructors (written by wip/gen/vci.py) ===== -/
theorem gw_135 : Cond.methodLink RX11 1 Lib.objectInit ∈ lwG := gw 135 (by decide +kernel) rfl
theorem gw_138 : Cond.classLink RX11 7 RX8 ∈ lwG := gw 138 (by decide +kernel) rfl
theorem gw_139 : Cond.instantiable RX8 6 ∈ lwG := gw 139 (by decide +kernel) rfl
theorem gw_141 : Cond.instanceMethod yX8_init ∈ lwG := gw 141 (by decide +kernel) rfl
theorem gw_142 : Cond.code yX8_init cX8_init 1 none ∈ lwG := gw 142 (by decide +kernel) rfl
theorem gw_171 : Cond.classLink RX11 16 RX7 ∈ lwG := gw 171 (by decide +kernel) rfl
theorem gw_172 : Cond.instantiable RX7 8 ∈ lwG := gw 172 (by decide +kernel) rfl
theorem gw_174 : Cond.instanceMethod yX7_init ∈ lwG := gw 174 (by decide +kernel) rfl
theorem gw_175 : Cond.code yX7_init cX7_init 1 none ∈ lwG := gw 175 (by decide +kernel) rfl
theorem gw_203 : Cond.classLink RX11 23 RX4 ∈ lwG := gw 203 (by decide +kernel) rfl
theorem gw_204 : Cond.instantiable RX4 10 ∈ lwG := gw 204 (by decide +kernel) rfl
theorem gw_206 : Cond.instanceMethod yX4_init ∈ lwG := gw 206 (by decide +kernel) rfl
theorem gw_207 : Cond.code yX4_init cX4_init 1 none ∈ lwG := gw 207 (by decide +kernel) rfl
theorem gw_257 : Cond.classLink RX11 33 RX0 ∈ lwG := gw 257 (by decide +kernel) rfl
theorem gw_258 : Cond.instantiable RX0 3 ∈ lwG := gw 258 (by decide +kernel) rfl
theorem gw_260 : Cond.instanceMethod yX0_init ∈ lwG := gw 260 (by decide +kernel) rfl
theorem gw_261 : Cond.code yX0_init cX0_init 1 none ∈ lwG := gw 261 (by decide +kernel) rfl
theorem gw_277 : Cond.classLink RX11 40 RX3 ∈ lwG := gw 277 (by decide +kernel) rfl
theorem gw_295 : Cond.classLink RX11 50 RX5 ∈ lwG := gw 295 (by decide +kernel) rfl
theorem gw_296 : Cond.instantiable RX5 9 ∈ lwG := gw 296 (by decide +kernel) rfl
theorem gw_297 : Cond.methodLink RX11 52 yX5_init ∈ lwG := gw 297 (by decide +kernel) rfl
theorem gw_298 : Cond.instanceMethod yX5_init ∈ lwG := gw 298 (by decide +kernel) rfl
theorem gw_299 : Cond.code yX5_init cX5_init 3 none ∈ lwG := gw 299 (by decide +kernel) rfl
theorem gw_339 : Cond.classLink RX11 59 RX2 ∈ lwG := gw 339 (by decide +kernel) rfl
theorem gw_372 : Cond.classLink RX11 66 RX1 ∈ lwG := gw 372 (by decide +kernel) rfl
theorem gw_373 : Cond.instantiable RX1 12 ∈ lwG := gw 373 (by decide +kernel) rfl
theorem gw_374 : Cond.methodLink RX11 68 yX1_init ∈ lwG := gw 374 (by decide +kernel) rfl
theorem gw_375 : Cond.instanceMethod yX1_init ∈ lwG := gw 375 (by decide +kernel) rfl
theorem gw_376 : Cond.code yX1_init cX1_init 3 none ∈ lwG := gw 376 (by decide +kernel) rfl
theorem gw_419 : Cond.classLink RX11 75 RX10 ∈ lwG := gw 419 (by decide +kernel) rfl
theorem gw_420 : Cond.instantiable RX10 8 ∈ lwG := gw 420 (by decide +kernel) rfl
theorem gw_421 : Cond.methodLink RX11 77 yX10_init ∈ lwG := gw 421 (by decide +kernel) rfl
theorem gw_422 : Cond.instanceMethod yX10_init ∈ lwG := gw 422 (by decide +kernel) rfl
theorem gw_423 : Cond.code yX10_init cX10_init 2 none ∈ lwG := gw 423 (by decide +kernel) rfl
theorem gw_454 : Cond.classLink RX11 84 RX9 ∈ lwG := gw 454 (by decide +kernel) rfl
theorem gw_455 : Cond.instantiable RX9 16 ∈ lwG := gw 455 (by decide +kernel) rfl
theorem gw_456 : Cond.methodLink RX11 86 yX9_init ∈ lwG := gw 456 (by decide +kernel) rfl
theorem gw_457 : Cond.instanceMethod yX9_init ∈ lwG := gw 457 (by decide +kernel) rfl
theorem gw_458 : Cond.code yX9_init cX9_init 2 none ∈ lwG := gw 458 (by decide +kernel) rfl
theorem gw_515 : Cond.classLink RX11 91 RX6 ∈ lwG := gw 515 (by decide +kernel) rfl
theorem gw_516 : Cond.instantiable RX6 3 ∈ lwG := gw 516 (by decide +kernel) rfl
theorem gw_518 : Cond.instanceMethod yX6_init ∈ lwG := gw 518 (by decide +kernel) rfl
theorem gw_519 : Cond.code yX6_init cX6_init 1 none ∈ lwG := gw 519 (by decide +kernel) rfl
def tbX11_init_0 : List (Nat × Instr × Nat) := [(0, .aload_n 0, 1), (1, .invokespecial 1, 3), (4, .aload_n 0, 1), (5, .new 7, 3), (8, .dup, 1), (9, .invokespecial 9, 3), (12, .putfield 10, 3), (15, .aload_n 0, 1), (16, .new 16, 3), (19, .dup, 1), (20, .invokespecial 18, 3), (23, .putfield 19, 3), (26, .aload_n 0, 1), (27, .new 23, 3), (30, .dup, 1), (31, .invokespecial 25, 3), (34, .putfield 26, 3), (37, .aload_n 0, 1), (38, .new 23, 3), (41, .dup, 1), (42, .invokespecial 25, 3), (45, .putfield 30, 3), (48, .aload_n 0, 1), (49, .new 33, 3), (52, .dup, 1), (53, .invokespecial 35, 3), (56, .putfield 36, 3), (59, .aload_n 0, 1), (60, .new 40, 3), (63, .dup, 1), (64, .invokespecial 42, 3), (67, .putfield 43, 3)]
theorem tkX11_init_0 : ∀ q ∈ tbX11_init_0, decode cX11_init q.1 = .ok q.2 := by decide +kernel
theorem dxX11_init_0 (i : Nat) {pc : Nat} {ins : Instr} {len : Nat} (h : tbX11_init_0[i]? = some (pc, ins, len)) : decode cX11_init pc = .ok (ins, len) := tkX11_init_0 (pc, ins, len) (List.mem_of_getElem? h)
def tbX11_init_1 : List (Nat × Instr × Nat) := [(70, .aload_n 0, 1), (71, .new 40, 3), (74, .dup, 1), (75, .invokespecial 42, 3), (78, .putfield 47, 3), (81, .aload_n 0, 1), (82, .new 50, 3), (85, .dup, 1), (86, .aload_n 0, 1), (87, .getfield 26, 3), (90, .invokespecial 52, 3), (93, .putfield 55, 3), (96, .aload_n 0, 1), (97, .new 59, 3), (100, .dup, 1), (101, .invokespecial 61, 3), (104, .putfield 62, 3), (107, .aload_n 0, 1), (108, .new 66, 3), (111, .dup, 1), (112, .aload_n 0, 1), (113, .getfield 26, 3), (116, .aload_n 0, 1), (117, .getfield 55, 3), (120, .invokespecial 68, 3), (123, .putfield 71, 3), (126, .aload_n 0, 1), (127, .new 75, 3), (130, .dup, 1), (131, .aload_n 0, 1), (132, .getfield 62, 3), (135, .invokespecial 77, 3)]
theorem tkX11_init_1 : ∀ q ∈ tbX11_init_1, decode cX11_init q.1 = .ok q.2 := by decide +kernel
theorem dxX11_init_1 (i : Nat) {pc : Nat} {ins : Instr} {len : Nat} (h : tbX11_init_1[i]? = some (pc, ins, len)) : decode cX11_init pc = .ok (ins, len) := tkX11_init_1 (pc, ins, len) (List.mem_of_getElem? h)
def tbX11_init_2 : List (Nat × Instr × Nat) := [(138, .putfield 80, 3), (141, .aload_n 0, 1), (142, .new 84, 3), (145, .dup, 1), (146, .aload_n 0, 1), (147, .getfield 62, 3), (150, .invokespecial 86, 3), (153, .putfield 87, 3), (156, .aload_n 0, 1), (157, .new 91, 3), (160, .dup, 1), (161, .invokespecial 93, 3), (164, .putfield 94, 3), (167, .aload_n 0, 1), (168, .getfield 19, 3), (171, .getfield 98, 3), (174, .iconst 0, 1), (175, .iconst 1, 1), (176, .iastore, 1), (177, .aload_n 0, 1), (178, .aload_n 0, 1), (179, .getfield 19, 3), (182, .getfield 98, 3), (185, .invokevirtual 102, 3), (188, .return_, 1)]
theorem tkX11_init_2 : ∀ q ∈ tbX11_init_2, decode cX11_init q.1 = .ok q.2 := by decide +kernel
theorem dxX11_init_2 (i : Nat) {pc : Nat} {ins : Instr} {len : Nat} (h : tbX11_init_2[i]? = some (pc, ins, len)) : decode cX11_init pc = .ok (ins, len) := tkX11_init_2 (pc, ins, len) (List.mem_of_getElem? h)
/-- the empty store; behind the law's first new; behind all that the class's constructor makes -/
def eS0 : PS := (fun _ _ => 0, fun _ _ => 0, fun _ _ => none, fun _ => none, 10)
def c10 : PS := nK eS0 10 (.inl 11)
def cT : PS := (sq (k6 (nK (sq (k9 (nK (sq (k10 (nK (sq (k1 (nK (sq (k2 (nK (sq (k5 (nK (sq (k3 (nK (sq (k3 (nK (sq (k0 (nK (sq (k4 (nK (sq (k4 (nK (sq (k7 (nK (sq (k8 (nK c10 11 (.inl 8)) 11 12) 10 0 (some 11)) 16 (.inl 7)) 16 17) 10 1 (some 16)) 20 (.inl 4)) 20 21) 10 2 (some 20)) 29 (.inl 4)) 29 30) 10 3 (some 29)) 38 (.inl 0)) 38 39) 10 4 (some 38)) 81 (.inl 3)) 81 82) 10 5 (some 81)) 84 (.inl 3)) 84 85) 10 6 (some 84)) 87 (.inl 5)) 87 88 20) 10 7 (some 87)) 129 (.inl 2)) 129 130) 10 8 (some 129)) 133 (.inl 1)) 133 134 20 87) 10 9 (some 133)) 144 (.inl 10)) 144 145 129) 10 10 (some 144)) 149 (.inl 9)) 149 150 129) 10 11 (some 149)) 167 (.inl 6)) 167 168) 10 12 (some 167))
def cS : PS := si cT 17 0 1
theorem cT_11 : fv cT 11 10 1 = .ref 16 := by decide +kernel
theorem cT_7 : fv cT 7 16 0 = .ref 17 := by decide +kernel
theorem cT_k : kd cT 17 = some (.inr (0, 16)) := by decide +kernel
theorem cS_11 : fv cS 11 10 1 = .ref 16 := by decide +kernel
theorem cS_7 : fv cS 7 16 0 = .ref 17 := by decide +kernel
theorem cS_n : nx cS = 179 := by decide +kernel
theorem cS_lay : LayZ cS := ⟨by decide +kernel, by decide +kernel⟩
theorem ct_11 {g : GV} {d : Nat} {P : PS → Prop} (hT : CX11_takeFigure g (d + 1) [.ref 10, .ref 17] cS P) : CtI g yX11_init cX11_init 1 (d + 2) 168 10877 [.ref 10] c10 (fun s => nx s = 179 ∧ P s) := by
  have hk : kd c10 10 = some (.inl 11) := kS _ _ _
  refine x_entryI (a0 := 11) (L := [some (.ref 10)]) pn_11 rfl rfl (Nat.le_of_ble_eq_true rfl) ⟨0, rfl⟩ ?_
  show X g (ZI g 11 168 10877 _) RX11 cX11_init 1 _ 168 10877 0 0 0 _ [] c10
  refine x_aload_n (i := 0) (dxX11_init_0 0 rfl) rfl rfl ?_
  refine x_objI gw_135 (Nat.le_of_ble_eq_true rfl) (dxX11_init_0 1 rfl) ?_
  refine x_aload_n (i := 0) (dxX11_init_0 2 rfl) rfl rfl ?_
  refine x_newO (ci := 8) (C := RX8) (T := TX8) (N := 6) (a := 11) rfl lay_8 tyX8 tyX8_ok gw_138 gw_139 gw_104 zv_8 rfl (dxX11_init_0 3 rfl) (Nat.le_of_ble_eq_true rfl) (Nat.le_of_ble_eq_true rfl) ?_
  replace hk := kN (a := 11) (q := .inl 8) hk (by omega)
  have hk1 : kd (nK c10 11 (.inl 8)) 11 = some (.inl 8) := kS _ _ _
  refine x_dup (dxX11_init_0 4 rfl) rfl ?_
  refine x_callIN (As := []) ZI.ao (dxX11_init_0 5 rfl) (host := "GluedPaper") (List.mem_of_getElem? (i := 0) rfl) gw_141 gw_104 gw_142 rfl pd_yX8_init (Nat.le_of_ble_eq_true rfl) (Nat.le_of_ble_eq_true rfl) (Nat.le_of_ble_eq_true rfl) (Nat.le_of_ble_eq_true rfl) rfl (ct_8 (d := d + 1) (o := 11) (a := 12) (by omega) rfl hk1) (fun s1 e1 => ?_)
  subst e1
  replace hk := kk_8 (o := 11) (a := 12) hk (by omega)
  replace hk1 := kk_8 (o := 11) (a := 12) hk1 (by omega)
  refine x_putF (ci := 11) (fk := 0) (C := RX11) (T := TX11) (N := 14) ZI.nm rfl rfl (Nat.le_of_ble_eq_true rfl) lay_11 gw_619 rfl rfl tyX11 tyX11_ok nmX11 hk rfl rfl (fun _ => rfl) (dxX11_init_0 6 rfl) ?_
  replace hk := kQ (b := 10) (i := 0) (v := some 11) hk
  replace hk1 := kQ (b := 10) (i := 0) (v := some 11) hk1
  refine x_aload_n (i := 0) (dxX11_init_0 7 rfl) rfl rfl ?_
  refine x_newO (ci := 7) (C := RX7) (T := TX7) (N := 8) (a := 16) rfl lay_7 tyX7 tyX7_ok gw_171 gw_172 gw_105 zv_7 rfl (dxX11_init_0 8 rfl) (Nat.le_of_ble_eq_true rfl) (Nat.le_of_ble_eq_true rfl) ?_
  replace hk := kN (a := 16) (q := .inl 7) hk (by omega)
  replace hk1 := kN (a := 16) (q := .inl 7) hk1 (by omega)
  have hk6 : kd (nK (sq (k8 (nK c10 11 (.inl 8)) 11 12) 10 0 (some 11)) 16 (.inl 7)) 16 = some (.inl 7) := kS _ _ _
  refine x_dup (dxX11_init_0 9 rfl) rfl ?_
  refine x_callIN (As := []) ZI.ao (dxX11_init_0 10 rfl) (host := "GluedPaper") (List.mem_of_getElem? (i := 1) rfl) gw_174 gw_105 gw_175 rfl pd_yX7_init (Nat.le_of_ble_eq_true rfl) (Nat.le_of_ble_eq_true rfl) (Nat.le_of_ble_eq_true rfl) (Nat.le_of_ble_eq_true rfl) rfl (ct_7 (d := d + 1) (o := 16) (a := 17) (by omega) rfl hk6) (fun s1 e1 => ?_)
  subst e1
  replace hk := kk_7 (o := 16) (a := 17) hk (by omega)
  replace hk1 := kk_7 (o := 16) (a := 17) hk1 (by omega)
  replace hk6 := kk_7 (o := 16) (a := 17) hk6 (by omega)
  refine x_putF (ci := 11) (fk := 1) (C := RX11) (T := TX11) (N := 14) ZI.nm rfl rfl (Nat.le_of_ble_eq_true rfl) lay_11 gw_620 rfl rfl tyX11 tyX11_ok nmX11 hk rfl rfl (fun _ => rfl) (dxX11_init_0 11 rfl) ?_
  replace hk := kQ (b := 10) (i := 1) (v := some 16) hk
  replace hk1 := kQ (b := 10) (i := 1) (v := some 16) hk1
  replace hk6 := kQ (b := 10) (i := 1) (v := some 16) hk6
  refine x_aload_n (i := 0) (dxX11_init_0 12 rfl) rfl rfl ?_
  refine x_newO (ci := 4) (C := RX4) (T := TX4) (N := 10) (a := 20) rfl lay_4 tyX4 tyX4_ok gw_203 gw_204 gw_106 zv_4 rfl (dxX11_init_0 13 rfl) (Nat.le_of_ble_eq_true rfl) (Nat.le_of_ble_eq_true rfl) ?_
  replace hk := kN (a := 20) (q := .inl 4) hk (by omega)
  replace hk1 := kN (a := 20) (q := .inl 4) hk1 (by omega)
  replace hk6 := kN (a := 20) (q := .inl 4) hk6 (by omega)
  have hk10 : kd (nK (sq (k7 (nK (sq (k8 (nK c10 11 (.inl 8)) 11 12) 10 0 (some 11)) 16 (.inl 7)) 16 17) 10 1 (some 16)) 20 (.inl 4)) 20 = some (.inl 4) := kS _ _ _
  refine x_dup (dxX11_init_0 14 rfl) rfl ?_
  refine x_callIN (As := []) ZI.ao (dxX11_init_0 15 rfl) (host := "GluedPaper") (List.mem_of_getElem? (i := 2) rfl) gw_206 gw_106 gw_207 rfl pd_yX4_init (Nat.le_of_ble_eq_true rfl) (Nat.le_of_ble_eq_true rfl) (Nat.le_of_ble_eq_true rfl) (Nat.le_of_ble_eq_true rfl) rfl (ct_4 (d := d + 1) (o := 20) (a := 21) (by omega) rfl hk10) (fun s1 e1 => ?_)
  subst e1
  replace hk := kk_4 (o := 20) (a := 21) hk (by omega)
  replace hk1 := kk_4 (o := 20) (a := 21) hk1 (by omega)
  replace hk6 := kk_4 (o := 20) (a := 21) hk6 (by omega)
  replace hk10 := kk_4 (o := 20) (a := 21) hk10 (by omega)
  refine x_putF (ci := 11) (fk := 2) (C := RX11) (T := TX11) (N := 14) ZI.nm rfl rfl (Nat.le_of_ble_eq_true rfl) lay_11 gw_621 rfl rfl tyX11 tyX11_ok nmX11 hk rfl rfl (fun _ => rfl) (dxX11_init_0 16 rfl) ?_
  replace hk := kQ (b := 10) (i := 2) (v := some 20) hk
  replace hk1 := kQ (b := 10) (i := 2) (v := some 20) hk1
  replace hk6 := kQ (b := 10) (i := 2) (v := some 20) hk6
  replace hk10 := kQ (b := 10) (i := 2) (v := some 20) hk10
  refine x_aload_n (i := 0) (dxX11_init_0 17 rfl) rfl rfl ?_
  refine x_newO (ci := 4) (C := RX4) (T := TX4) (N := 10) (a := 29) rfl lay_4 tyX4 tyX4_ok gw_203 gw_204 gw_106 zv_4 rfl (dxX11_init_0 18 rfl) (Nat.le_of_ble_eq_true rfl) (Nat.le_of_ble_eq_true rfl) ?_
  replace hk := kN (a := 29) (q := .inl 4) hk (by omega)
  replace hk1 := kN (a := 29) (q := .inl 4) hk1 (by omega)
  replace hk6 := kN (a := 29) (q := .inl 4) hk6 (by omega)
  replace hk10 := kN (a := 29) (q := .inl 4) hk10 (by omega)
  have hk19 : kd (nK (sq (k4 (nK (sq (k7 (nK (sq (k8 (nK c10 11 (.inl 8)) 11 12) 10 0 (some 11)) 16 (.inl 7)) 16 17) 10 1 (some 16)) 20 (.inl 4)) 20 21) 10 2 (some 20)) 29 (.inl 4)) 29 = some (.inl 4) := kS _ _ _
  refine x_dup (dxX11_init_0 19 rfl) rfl ?_
  refine x_callIN (As := []) ZI.ao (dxX11_init_0 20 rfl) (host := "GluedPaper") (List.mem_of_getElem? (i := 2) rfl) gw_206 gw_106 gw_207 rfl pd_yX4_init (Nat.le_of_ble_eq_true rfl) (Nat.le_of_ble_eq_true rfl) (Nat.le_of_ble_eq_true rfl) (Nat.le_of_ble_eq_true rfl) rfl (ct_4 (d := d + 1) (o := 29) (a := 30) (by omega) rfl hk19) (fun s1 e1 => ?_)
  subst e1
  replace hk := kk_4 (o := 29) (a := 30) hk (by omega)
  replace hk1 := kk_4 (o := 29) (a := 30) hk1 (by omega)
  replace hk6 := kk_4 (o := 29) (a := 30) hk6 (by omega)
  replace hk10 := kk_4 (o := 29) (a := 30) hk10 (by omega)
  replace hk19 := kk_4 (o := 29) (a := 30) hk19 (by omega)
  refine x_putF (ci := 11) (fk := 3) (C := RX11) (T := TX11) (N := 14) ZI.nm rfl rfl (Nat.le_of_ble_eq_true rfl) lay_11 gw_622 rfl rfl tyX11 tyX11_ok nmX11 hk rfl rfl (fun _ => rfl) (dxX11_init_0 21 rfl) ?_
  replace hk := kQ (b := 10) (i := 3) (v := some 29) hk
  replace hk1 := kQ (b := 10) (i := 3) (v := some 29) hk1
  replace hk6 := kQ (b := 10) (i := 3) (v := some 29) hk6
  replace hk10 := kQ (b := 10) (i := 3) (v := some 29) hk10
  replace hk19 := kQ (b := 10) (i := 3) (v := some 29) hk19
  refine x_aload_n (i := 0) (dxX11_init_0 22 rfl) rfl rfl ?_
  refine x_newO (ci := 0) (C := RX0) (T := TX0) (N := 3) (a := 38) rfl lay_0 tyX0 tyX0_ok gw_257 gw_258 gw_107 zv_0 rfl (dxX11_init_0 23 rfl) (Nat.le_of_ble_eq_true rfl) (Nat.le_of_ble_eq_true rfl) ?_
  replace hk := kN (a := 38) (q := .inl 0) hk (by omega)
  replace hk1 := kN (a := 38) (q := .inl 0) hk1 (by omega)
  replace hk6 := kN (a := 38) (q := .inl 0) hk6 (by omega)
  replace hk10 := kN (a := 38) (q := .inl 0) hk10 (by omega)
  replace hk19 := kN (a := 38) (q := .inl 0) hk19 (by omega)
  have hk28 : kd (nK (sq (k4 (nK (sq (k4 (nK (sq (k7 (nK (sq (k8 (nK c10 11 (.inl 8)) 11 12) 10 0 (some 11)) 16 (.inl 7)) 16 17) 10 1 (some 16)) 20 (.inl 4)) 20 21) 10 2 (some 20)) 29 (.inl 4)) 29 30) 10 3 (some 29)) 38 (.inl 0)) 38 = some (.inl 0) := kS _ _ _
  refine x_dup (dxX11_init_0 24 rfl) rfl ?_
  refine x_callIN (As := []) ZI.ao (dxX11_init_0 25 rfl) (host := "GluedPaper") (List.mem_of_getElem? (i := 3) rfl) gw_260 gw_107 gw_261 rfl pd_yX0_init (Nat.le_of_ble_eq_true rfl) (Nat.le_of_ble_eq_true rfl) (Nat.le_of_ble_eq_true rfl) (Nat.le_of_ble_eq_true rfl) rfl (ct_0 (d := d + 1) (o := 38) (a := 39) (by omega) rfl hk28) (fun s1 e1 => ?_)
  subst e1
  replace hk := kk_0 (o := 38) (a := 39) hk (by omega)
  replace hk1 := kk_0 (o := 38) (a := 39) hk1 (by omega)
  replace hk6 := kk_0 (o := 38) (a := 39) hk6 (by omega)
  replace hk10 := kk_0 (o := 38) (a := 39) hk10 (by omega)
  replace hk19 := kk_0 (o := 38) (a := 39) hk19 (by omega)
  replace hk28 := kk_0 (o := 38) (a := 39) hk28 (by omega)
  refine x_putF (ci := 11) (fk := 4) (C := RX11) (T := TX11) (N := 14) ZI.nm rfl rfl (Nat.le_of_ble_eq_true rfl) lay_11 gw_623 rfl rfl tyX11 tyX11_ok nmX11 hk rfl rfl (fun _ => rfl) (dxX11_init_0 26 rfl) ?_
  replace hk := kQ (b := 10) (i := 4) (v := some 38) hk
  replace hk1 := kQ (b := 10) (i := 4) (v := some 38) hk1
  replace hk6 := kQ (b := 10) (i := 4) (v := some 38) hk6
  replace hk10 := kQ (b := 10) (i := 4) (v := some 38) hk10
  replace hk19 := kQ (b := 10) (i := 4) (v := some 38) hk19
  replace hk28 := kQ (b := 10) (i := 4) (v := some 38) hk28
  refine x_aload_n (i := 0) (dxX11_init_0 27 rfl) rfl rfl ?_
  refine x_newO (ci := 3) (C := RX3) (T := TX3) (N := 3) (a := 81) rfl lay_3 tyX3 tyX3_ok gw_277 gw_278 gw_108 zv_3 rfl (dxX11_init_0 28 rfl) (Nat.le_of_ble_eq_true rfl) (Nat.le_of_ble_eq_true rfl) ?_
  replace hk := kN (a := 81) (q := .inl 3) hk (by omega)
  replace hk1 := kN (a := 81) (q := .inl 3) hk1 (by omega)
  replace hk6 := kN (a := 81) (q := .inl 3) hk6 (by omega)
  replace hk10 := kN (a := 81) (q := .inl 3) hk10 (by omega)
  replace hk19 := kN (a := 81) (q := .inl 3) hk19 (by omega)
  replace hk28 := kN (a := 81) (q := .inl 3) hk28 (by omega)
  have hk71 : kd (nK (sq (k0 (nK (sq (k4 (nK (sq (k4 (nK (sq (k7 (nK (sq (k8 (nK c10 11 (.inl 8)) 11 12) 10 0 (some 11)) 16 (.inl 7)) 16 17) 10 1 (some 16)) 20 (.inl 4)) 20 21) 10 2 (some 20)) 29 (.inl 4)) 29 30) 10 3 (some 29)) 38 (.inl 0)) 38 39) 10 4 (some 38)) 81 (.inl 3)) 81 = some (.inl 3) := kS _ _ _
  refine x_dup (dxX11_init_0 29 rfl) rfl ?_
  refine x_callIN (As := []) ZI.ao (dxX11_init_0 30 rfl) (host := "GluedPaper") (List.mem_of_getElem? (i := 4) rfl) gw_280 gw_108 gw_281 rfl pd_yX3_init (Nat.le_of_ble_eq_true rfl) (Nat.le_of_ble_eq_true rfl) (Nat.le_of_ble_eq_true rfl) (Nat.le_of_ble_eq_true rfl) rfl (ct_3 (d := d + 1) (o := 81) (a := 82) (by omega) rfl hk71) (fun s1 e1 => ?_)
  subst e1
  replace hk := kk_3 (o := 81) (a := 82) hk (by omega)
  replace hk1 := kk_3 (o := 81) (a := 82) hk1 (by omega)
  replace hk6 := kk_3 (o := 81) (a := 82) hk6 (by omega)
  replace hk10 := kk_3 (o := 81) (a := 82) hk10 (by omega)
  replace hk19 := kk_3 (o := 81) (a := 82) hk19 (by omega)
  replace hk28 := kk_3 (o := 81) (a := 82) hk28 (by omega)
  replace hk71 := kk_3 (o := 81) (a := 82) hk71 (by omega)
  refine x_putF (ci := 11) (fk := 5) (C := RX11) (T := TX11) (N := 14) ZI.nm rfl rfl (Nat.le_of_ble_eq_true rfl) lay_11 gw_624 rfl rfl tyX11 tyX11_ok nmX11 hk rfl rfl (fun _ => rfl) (dxX11_init_0 31 rfl) ?_
  replace hk := kQ (b := 10) (i := 5) (v := some 81) hk
  replace hk1 := kQ (b := 10) (i := 5) (v := some 81) hk1
  replace hk6 := kQ (b := 10) (i := 5) (v := some 81) hk6
  replace hk10 := kQ (b := 10) (i := 5) (v := some 81) hk10
  replace hk19 := kQ (b := 10) (i := 5) (v := some 81) hk19
  replace hk28 := kQ (b := 10) (i := 5) (v := some 81) hk28
  replace hk71 := kQ (b := 10) (i := 5) (v := some 81) hk71
  refine x_aload_n (i := 0) (dxX11_init_1 0 rfl) rfl rfl ?_
  refine x_newO (ci := 3) (C := RX3) (T := TX3) (N := 3) (a := 84) rfl lay_3 tyX3 tyX3_ok gw_277 gw_278 gw_108 zv_3 rfl (dxX11_init_1 1 rfl) (Nat.le_of_ble_eq_true rfl) (Nat.le_of_ble_eq_true rfl) ?_
  replace hk := kN (a := 84) (q := .inl 3) hk (by omega)
  replace hk1 := kN (a := 84) (q := .inl 3) hk1 (by omega)
  replace hk6 := kN (a := 84) (q := .inl 3) hk6 (by omega)
  replace hk10 := kN (a := 84) (q := .inl 3) hk10 (by omega)
  replace hk19 := kN (a := 84) (q := .inl 3) hk19 (by omega)
  replace hk28 := kN (a := 84) (q := .inl 3) hk28 (by omega)
  replace hk71 := kN (a := 84) (q := .inl 3) hk71 (by omega)
  have hk74 : kd (nK (sq (k3 (nK (sq (k0 (nK (sq (k4 (nK (sq (k4 (nK (sq (k7 (nK (sq (k8 (nK c10 11 (.inl 8)) 11 12) 10 0 (some 11)) 16 (.inl 7)) 16 17) 10 1 (some 16)) 20 (.inl 4)) 20 21) 10 2 (some 20)) 29 (.inl 4)) 29 30) 10 3 (some 29)) 38 (.inl 0)) 38 39) 10 4 (some 38)) 81 (.inl 3)) 81 82) 10 5 (some 81)) 84 (.inl 3)) 84 = some (.inl 3) := kS _ _ _
  refine x_dup (dxX11_init_1 2 rfl) rfl ?_
  refine x_callIN (As := []) ZI.ao (dxX11_init_1 3 rfl) (host := "GluedPaper") (List.mem_of_getElem? (i := 4) rfl) gw_280 gw_108 gw_281 rfl pd_yX3_init (Nat.le_of_ble_eq_true rfl) (Nat.le_of_ble_eq_true rfl) (Nat.le_of_ble_eq_true rfl) (Nat.le_of_ble_eq_true rfl) rfl (ct_3 (d := d + 1) (o := 84) (a := 85) (by omega) rfl hk74) (fun s1 e1 => ?_)
  subst e1
  replace hk := kk_3 (o := 84) (a := 85) hk (by omega)
  replace hk1 := kk_3 (o := 84) (a := 85) hk1 (by omega)
  replace hk6 := kk_3 (o := 84) (a := 85) hk6 (by omega)
  replace hk10 := kk_3 (o := 84) (a := 85) hk10 (by omega)
  replace hk19 := kk_3 (o := 84) (a := 85) hk19 (by omega)
  replace hk28 := kk_3 (o := 84) (a := 85) hk28 (by omega)
  replace hk71 := kk_3 (o := 84) (a := 85) hk71 (by omega)
  replace hk74 := kk_3 (o := 84) (a := 85) hk74 (by omega)
  refine x_putF (ci := 11) (fk := 6) (C := RX11) (T := TX11) (N := 14) ZI.nm rfl rfl (Nat.le_of_ble_eq_true rfl) lay_11 gw_625 rfl rfl tyX11 tyX11_ok nmX11 hk rfl rfl (fun _ => rfl) (dxX11_init_1 4 rfl) ?_
  replace hk := kQ (b := 10) (i := 6) (v := some 84) hk
  replace hk1 := kQ (b := 10) (i := 6) (v := some 84) hk1
  replace hk6 := kQ (b := 10) (i := 6) (v := some 84) hk6
  replace hk10 := kQ (b := 10) (i := 6) (v := some 84) hk10
  replace hk19 := kQ (b := 10) (i := 6) (v := some 84) hk19
  replace hk28 := kQ (b := 10) (i := 6) (v := some 84) hk28
  replace hk71 := kQ (b := 10) (i := 6) (v := some 84) hk71
  replace hk74 := kQ (b := 10) (i := 6) (v := some 84) hk74
  refine x_aload_n (i := 0) (dxX11_init_1 5 rfl) rfl rfl ?_
  refine x_newO (ci := 5) (C := RX5) (T := TX5) (N := 9) (a := 87) rfl lay_5 tyX5 tyX5_ok gw_295 gw_296 gw_109 zv_5 rfl (dxX11_init_1 6 rfl) (Nat.le_of_ble_eq_true rfl) (Nat.le_of_ble_eq_true rfl) ?_
  replace hk := kN (a := 87) (q := .inl 5) hk (by omega)
  replace hk1 := kN (a := 87) (q := .inl 5) hk1 (by omega)
  replace hk6 := kN (a := 87) (q := .inl 5) hk6 (by omega)
  replace hk10 := kN (a := 87) (q := .inl 5) hk10 (by omega)
  replace hk19 := kN (a := 87) (q := .inl 5) hk19 (by omega)
  replace hk28 := kN (a := 87) (q := .inl 5) hk28 (by omega)
  replace hk71 := kN (a := 87) (q := .inl 5) hk71 (by omega)
  replace hk74 := kN (a := 87) (q := .inl 5) hk74 (by omega)
  have hk77 : kd (nK (sq (k3 (nK (sq (k3 (nK (sq (k0 (nK (sq (k4 (nK (sq (k4 (nK (sq (k7 (nK (sq (k8 (nK c10 11 (.inl 8)) 11 12) 10 0 (some 11)) 16 (.inl 7)) 16 17) 10 1 (some 16)) 20 (.inl 4)) 20 21) 10 2 (some 20)) 29 (.inl 4)) 29 30) 10 3 (some 29)) 38 (.inl 0)) 38 39) 10 4 (some 38)) 81 (.inl 3)) 81 82) 10 5 (some 81)) 84 (.inl 3)) 84 85) 10 6 (some 84)) 87 (.inl 5)) 87 = some (.inl 5) := kS _ _ _
  refine x_dup (dxX11_init_1 7 rfl) rfl ?_
  refine x_aload_n (i := 0) (dxX11_init_1 8 rfl) rfl rfl ?_
  refine gf_11_26 (v := .ref 20) hk (by rfl) (dxX11_init_1 9 rfl) ?_
  refine x_callI (As := [.ref 20]) ZI.ao (dxX11_init_1 10 rfl) gw_297 gw_298 gw_109 gw_299 rfl pd_yX5_init (Nat.le_of_ble_eq_true rfl) (Nat.le_of_ble_eq_true rfl) (Nat.le_of_ble_eq_true rfl) (Nat.le_of_ble_eq_true rfl) rfl (ct_5 (d := d) (p0 := 20) (o := 87) (a := 88) (by omega) rfl hk77) (fun s1 e1 => ?_)
  subst e1
  replace hk := kk_5 (o := 87) (a := 88) (p0 := 20) hk (by omega)
  replace hk1 := kk_5 (o := 87) (a := 88) (p0 := 20) hk1 (by omega)
  replace hk6 := kk_5 (o := 87) (a := 88) (p0 := 20) hk6 (by omega)
  replace hk10 := kk_5 (o := 87) (a := 88) (p0 := 20) hk10 (by omega)
  replace hk19 := kk_5 (o := 87) (a := 88) (p0 := 20) hk19 (by omega)
  replace hk28 := kk_5 (o := 87) (a := 88) (p0 := 20) hk28 (by omega)
  replace hk71 := kk_5 (o := 87) (a := 88) (p0 := 20) hk71 (by omega)
  replace hk74 := kk_5 (o := 87) (a := 88) (p0 := 20) hk74 (by omega)
  replace hk77 := kk_5 (o := 87) (a := 88) (p0 := 20) hk77 (by omega)
  refine x_putF (ci := 11) (fk := 7) (C := RX11) (T := TX11) (N := 14) ZI.nm rfl rfl (Nat.le_of_ble_eq_true rfl) lay_11 gw_626 rfl rfl tyX11 tyX11_ok nmX11 hk rfl rfl (fun _ => rfl) (dxX11_init_1 11 rfl) ?_
  replace hk := kQ (b := 10) (i := 7) (v := some 87) hk
  replace hk1 := kQ (b := 10) (i := 7) (v := some 87) hk1
  replace hk6 := kQ (b := 10) (i := 7) (v := some 87) hk6
  replace hk10 := kQ (b := 10) (i := 7) (v := some 87) hk10
  replace hk19 := kQ (b := 10) (i := 7) (v := some 87) hk19
  replace hk28 := kQ (b := 10) (i := 7) (v := some 87) hk28
  replace hk71 := kQ (b := 10) (i := 7) (v := some 87) hk71
  replace hk74 := kQ (b := 10) (i := 7) (v := some 87) hk74
  replace hk77 := kQ (b := 10) (i := 7) (v := some 87) hk77
  refine x_aload_n (i := 0) (dxX11_init_1 12 rfl) rfl rfl ?_
  refine x_newO (ci := 2) (C := RX2) (T := TX2) (N := 4) (a := 129) rfl lay_2 tyX2 tyX2_ok gw_339 gw_340 gw_110 zv_2 rfl (dxX11_init_1 13 rfl) (Nat.le_of_ble_eq_true rfl) (Nat.le_of_ble_eq_true rfl) ?_
  replace hk := kN (a := 129) (q := .inl 2) hk (by omega)
  replace hk1 := kN (a := 129) (q := .inl 2) hk1 (by omega)
  replace hk6 := kN (a := 129) (q := .inl 2) hk6 (by omega)
  replace hk10 := kN (a := 129) (q := .inl 2) hk10 (by omega)
  replace hk19 := kN (a := 129) (q := .inl 2) hk19 (by omega)
  replace hk28 := kN (a := 129) (q := .inl 2) hk28 (by omega)
  replace hk71 := kN (a := 129) (q := .inl 2) hk71 (by omega)
  replace hk74 := kN (a := 129) (q := .inl 2) hk74 (by omega)
  replace hk77 := kN (a := 129) (q := .inl 2) hk77 (by omega)
  have hk119 : kd (nK (sq (k5 (nK (sq (k3 (nK (sq (k3 (nK (sq (k0 (nK (sq (k4 (nK (sq (k4 (nK (sq (k7 (nK (sq (k8 (nK c10 11 (.inl 8)) 11 12) 10 0 (some 11)) 16 (.inl 7)) 16 17) 10 1 (some 16)) 20 (.inl 4)) 20 21) 10 2 (some 20)) 29 (.inl 4)) 29 30) 10 3 (some 29)) 38 (.inl 0)) 38 39) 10 4 (some 38)) 81 (.inl 3)) 81 82) 10 5 (some 81)) 84 (.inl 3)) 84 85) 10 6 (some 84)) 87 (.inl 5)) 87 88 20) 10 7 (some 87)) 129 (.inl 2)) 129 = some (.inl 2) := kS _ _ _
  refine x_dup (dxX11_init_1 14 rfl) rfl ?_
  refine x_callIN (As := []) ZI.ao (dxX11_init_1 15 rfl) (host := "GluedPaper") (List.mem_of_getElem? (i := 6) rfl) gw_342 gw_110 gw_343 rfl pd_yX2_init (Nat.le_of_ble_eq_true rfl) (Nat.le_of_ble_eq_true rfl) (Nat.le_of_ble_eq_true rfl) (Nat.le_of_ble_eq_true rfl) rfl (ct_2 (d := d + 1) (o := 129) (a := 130) (by omega) rfl hk119) (fun s1 e1 => ?_)
  subst e1
  replace hk := kk_2 (o := 129) (a := 130) hk (by omega)
  replace hk1 := kk_2 (o := 129) (a := 130) hk1 (by omega)
  replace hk6 := kk_2 (o := 129) (a := 130) hk6 (by omega)
  replace hk10 := kk_2 (o := 129) (a := 130) hk10 (by omega)
  replace hk19 := kk_2 (o := 129) (a := 130) hk19 (by omega)
  replace hk28 := kk_2 (o := 129) (a := 130) hk28 (by omega)
  replace hk71 := kk_2 (o := 129) (a := 130) hk71 (by omega)
  replace hk74 := kk_2 (o := 129) (a := 130) hk74 (by omega)
  replace hk77 := kk_2 (o := 129) (a := 130) hk77 (by omega)
  replace hk119 := kk_2 (o := 129) (a := 130) hk119 (by omega)
  refine x_putF (ci := 11) (fk := 8) (C := RX11) (T := TX11) (N := 14) ZI.nm rfl rfl (Nat.le_of_ble_eq_true rfl) lay_11 gw_627 rfl rfl tyX11 tyX11_ok nmX11 hk rfl rfl (fun _ => rfl) (dxX11_init_1 16 rfl) ?_
  replace hk := kQ (b := 10) (i := 8) (v := some 129) hk
  replace hk1 := kQ (b := 10) (i := 8) (v := some 129) hk1
  replace hk6 := kQ (b := 10) (i := 8) (v := some 129) hk6
  replace hk10 := kQ (b := 10) (i := 8) (v := some 129) hk10
  replace hk19 := kQ (b := 10) (i := 8) (v := some 129) hk19
  replace hk28 := kQ (b := 10) (i := 8) (v := some 129) hk28
  replace hk71 := kQ (b := 10) (i := 8) (v := some 129) hk71
  replace hk74 := kQ (b := 10) (i := 8) (v := some 129) hk74
  replace hk77 := kQ (b := 10) (i := 8) (v := some 129) hk77
  replace hk119 := kQ (b := 10) (i := 8) (v := some 129) hk119
  refine x_aload_n (i := 0) (dxX11_init_1 17 rfl) rfl rfl ?_
  refine x_newO (ci := 1) (C := RX1) (T := TX1) (N := 12) (a := 133) rfl lay_1 tyX1 tyX1_ok gw_372 gw_373 gw_111 zv_1 rfl (dxX11_init_1 18 rfl) (Nat.le_of_ble_eq_true rfl) (Nat.le_of_ble_eq_true rfl) ?_
  replace hk := kN (a := 133) (q := .inl 1) hk (by omega)
  replace hk1 := kN (a := 133) (q := .inl 1) hk1 (by omega)
  replace hk6 := kN (a := 133) (q := .inl 1) hk6 (by omega)
  replace hk10 := kN (a := 133) (q := .inl 1) hk10 (by omega)
  replace hk19 := kN (a := 133) (q := .inl 1) hk19 (by omega)
  replace hk28 := kN (a := 133) (q := .inl 1) hk28 (by omega)
  replace hk71 := kN (a := 133) (q := .inl 1) hk71 (by omega)
  replace hk74 := kN (a := 133) (q := .inl 1) hk74 (by omega)
  replace hk77 := kN (a := 133) (q := .inl 1) hk77 (by omega)
  replace hk119 := kN (a := 133) (q := .inl 1) hk119 (by omega)
  have hk123 : kd (nK (sq (k2 (nK (sq (k5 (nK (sq (k3 (nK (sq (k3 (nK (sq (k0 (nK (sq (k4 (nK (sq (k4 (nK (sq (k7 (nK (sq (k8 (nK c10 11 (.inl 8)) 11 12) 10 0 (some 11)) 16 (.inl 7)) 16 17) 10 1 (some 16)) 20 (.inl 4)) 20 21) 10 2 (some 20)) 29 (.inl 4)) 29 30) 10 3 (some 29)) 38 (.inl 0)) 38 39) 10 4 (some 38)) 81 (.inl 3)) 81 82) 10 5 (some 81)) 84 (.inl 3)) 84 85) 10 6 (some 84)) 87 (.inl 5)) 87 88 20) 10 7 (some 87)) 129 (.inl 2)) 129 130) 10 8 (some 129)) 133 (.inl 1)) 133 = some (.inl 1) := kS _ _ _
  refine x_dup (dxX11_init_1 19 rfl) rfl ?_
  refine x_aload_n (i := 0) (dxX11_init_1 20 rfl) rfl rfl ?_
  refine gf_11_26 (v := .ref 20) hk (by rfl) (dxX11_init_1 21 rfl) ?_
  refine x_aload_n (i := 0) (dxX11_init_1 22 rfl) rfl rfl ?_
  refine gf_11_55 (v := .ref 87) hk (by rfl) (dxX11_init_1 23 rfl) ?_
  refine x_callI (As := [.ref 20, .ref 87]) ZI.ao (dxX11_init_1 24 rfl) gw_374 gw_375 gw_111 gw_376 rfl pd_yX1_init (Nat.le_of_ble_eq_true rfl) (Nat.le_of_ble_eq_true rfl) (Nat.le_of_ble_eq_true rfl) (Nat.le_of_ble_eq_true rfl) rfl (ct_1 (d := d) (p0 := 20) (p1 := 87) (o := 133) (a := 134) (by omega) rfl hk123) (fun s1 e1 => ?_)
  subst e1
  replace hk := kk_1 (o := 133) (a := 134) (p0 := 20) (p1 := 87) hk (by omega)
  replace hk1 := kk_1 (o := 133) (a := 134) (p0 := 20) (p1 := 87) hk1 (by omega)
  replace hk6 := kk_1 (o := 133) (a := 134) (p0 := 20) (p1 := 87) hk6 (by omega)
  replace hk10 := kk_1 (o := 133) (a := 134) (p0 := 20) (p1 := 87) hk10 (by omega)
  replace hk19 := kk_1 (o := 133) (a := 134) (p0 := 20) (p1 := 87) hk19 (by omega)
  replace hk28 := kk_1 (o := 133) (a := 134) (p0 := 20) (p1 := 87) hk28 (by omega)
  replace hk71 := kk_1 (o := 133) (a := 134) (p0 := 20) (p1 := 87) hk71 (by omega)
  replace hk74 := kk_1 (o := 133) (a := 134) (p0 := 20) (p1 := 87) hk74 (by omega)
  replace hk77 := kk_1 (o := 133) (a := 134) (p0 := 20) (p1 := 87) hk77 (by omega)
  replace hk119 := kk_1 (o := 133) (a := 134) (p0 := 20) (p1 := 87) hk119 (by omega)
  replace hk123 := kk_1 (o := 133) (a := 134) (p0 := 20) (p1 := 87) hk123 (by omega)
  refine x_putF (ci := 11) (fk := 9) (C := RX11) (T := TX11) (N := 14) ZI.nm rfl rfl (Nat.le_of_ble_eq_true rfl) lay_11 gw_628 rfl rfl tyX11 tyX11_ok nmX11 hk rfl rfl (fun _ => rfl) (dxX11_init_1 25 rfl) ?_
  replace hk := kQ (b := 10) (i := 9) (v := some 133) hk
  replace hk1 := kQ (b := 10) (i := 9) (v := some 133) hk1
  replace hk6 := kQ (b := 10) (i := 9) (v := some 133) hk6
  replace hk10 := kQ (b := 10) (i := 9) (v := some 133) hk10
  replace hk19 := kQ (b := 10) (i := 9) (v := some 133) hk19
  replace hk28 := kQ (b := 10) (i := 9) (v := some 133) hk28
  replace hk71 := kQ (b := 10) (i := 9) (v := some 133) hk71
  replace hk74 := kQ (b := 10) (i := 9) (v := some 133) hk74
  replace hk77 := kQ (b := 10) (i := 9) (v := some 133) hk77
  replace hk119 := kQ (b := 10) (i := 9) (v := some 133) hk119
  replace hk123 := kQ (b := 10) (i := 9) (v := some 133) hk123
  refine x_aload_n (i := 0) (dxX11_init_1 26 rfl) rfl rfl ?_
  refine x_newO (ci := 10) (C := RX10) (T := TX10) (N := 8) (a := 144) rfl lay_10 tyX10 tyX10_ok gw_419 gw_420 gw_112 zv_10 rfl (dxX11_init_1 27 rfl) (Nat.le_of_ble_eq_true rfl) (Nat.le_of_ble_eq_true rfl) ?_
  replace hk := kN (a := 144) (q := .inl 10) hk (by omega)
  replace hk1 := kN (a := 144) (q := .inl 10) hk1 (by omega)
  replace hk6 := kN (a := 144) (q := .inl 10) hk6 (by omega)
  replace hk10 := kN (a := 144) (q := .inl 10) hk10 (by omega)
  replace hk19 := kN (a := 144) (q := .inl 10) hk19 (by omega)
  replace hk28 := kN (a := 144) (q := .inl 10) hk28 (by omega)
  replace hk71 := kN (a := 144) (q := .inl 10) hk71 (by omega)
  replace hk74 := kN (a := 144) (q := .inl 10) hk74 (by omega)
  replace hk77 := kN (a := 144) (q := .inl 10) hk77 (by omega)
  replace hk119 := kN (a := 144) (q := .inl 10) hk119 (by omega)
  replace hk123 := kN (a := 144) (q := .inl 10) hk123 (by omega)
  have hk134 : kd (nK (sq (k1 (nK (sq (k2 (nK (sq (k5 (nK (sq (k3 (nK (sq (k3 (nK (sq (k0 (nK (sq (k4 (nK (sq (k4 (nK (sq (k7 (nK (sq (k8 (nK c10 11 (.inl 8)) 11 12) 10 0 (some 11)) 16 (.inl 7)) 16 17) 10 1 (some 16)) 20 (.inl 4)) 20 21) 10 2 (some 20)) 29 (.inl 4)) 29 30) 10 3 (some 29)) 38 (.inl 0)) 38 39) 10 4 (some 38)) 81 (.inl 3)) 81 82) 10 5 (some 81)) 84 (.inl 3)) 84 85) 10 6 (some 84)) 87 (.inl 5)) 87 88 20) 10 7 (some 87)) 129 (.inl 2)) 129 130) 10 8 (some 129)) 133 (.inl 1)) 133 134 20 87) 10 9 (some 133)) 144 (.inl 10)) 144 = some (.inl 10) := kS _ _ _
  refine x_dup (dxX11_init_1 28 rfl) rfl ?_
  refine x_aload_n (i := 0) (dxX11_init_1 29 rfl) rfl rfl ?_
  refine gf_11_62 (v := .ref 129) hk (by rfl) (dxX11_init_1 30 rfl) ?_
  refine x_callI (As := [.ref 129]) ZI.ao (dxX11_init_1 31 rfl) gw_421 gw_422 gw_112 gw_423 rfl pd_yX10_init (Nat.le_of_ble_eq_true rfl) (Nat.le_of_ble_eq_true rfl) (Nat.le_of_ble_eq_true rfl) (Nat.le_of_ble_eq_true rfl) rfl (ct_10 (d := d + 1) (p0 := 129) (o := 144) (a := 145) (by omega) rfl hk134) (fun s1 e1 => ?_)
  subst e1
  replace hk := kk_10 (o := 144) (a := 145) (p0 := 129) hk (by omega)
  replace hk1 := kk_10 (o := 144) (a := 145) (p0 := 129) hk1 (by omega)
  replace hk6 := kk_10 (o := 144) (a := 145) (p0 := 129) hk6 (by omega)
  replace hk10 := kk_10 (o := 144) (a := 145) (p0 := 129) hk10 (by omega)
  replace hk19 := kk_10 (o := 144) (a := 145) (p0 := 129) hk19 (by omega)
  replace hk28 := kk_10 (o := 144) (a := 145) (p0 := 129) hk28 (by omega)
  replace hk71 := kk_10 (o := 144) (a := 145) (p0 := 129) hk71 (by omega)
  replace hk74 := kk_10 (o := 144) (a := 145) (p0 := 129) hk74 (by omega)
  replace hk77 := kk_10 (o := 144) (a := 145) (p0 := 129) hk77 (by omega)
  replace hk119 := kk_10 (o := 144) (a := 145) (p0 := 129) hk119 (by omega)
  replace hk123 := kk_10 (o := 144) (a := 145) (p0 := 129) hk123 (by omega)
  replace hk134 := kk_10 (o := 144) (a := 145) (p0 := 129) hk134 (by omega)
  refine x_putF (ci := 11) (fk := 10) (C := RX11) (T := TX11) (N := 14) ZI.nm rfl rfl (Nat.le_of_ble_eq_true rfl) lay_11 gw_629 rfl rfl tyX11 tyX11_ok nmX11 hk rfl rfl (fun _ => rfl) (dxX11_init_2 0 rfl) ?_
  replace hk := kQ (b := 10) (i := 10) (v := some 144) hk
  replace hk1 := kQ (b := 10) (i := 10) (v := some 144) hk1
  replace hk6 := kQ (b := 10) (i := 10) (v := some 144) hk6
  replace hk10 := kQ (b := 10) (i := 10) (v := some 144) hk10
  replace hk19 := kQ (b := 10) (i := 10) (v := some 144) hk19
  replace hk28 := kQ (b := 10) (i := 10) (v := some 144) hk28
  replace hk71 := kQ (b := 10) (i := 10) (v := some 144) hk71
  replace hk74 := kQ (b := 10) (i := 10) (v := some 144) hk74
  replace hk77 := kQ (b := 10) (i := 10) (v := some 144) hk77
  replace hk119 := kQ (b := 10) (i := 10) (v := some 144) hk119
  replace hk123 := kQ (b := 10) (i := 10) (v := some 144) hk123
  replace hk134 := kQ (b := 10) (i := 10) (v := some 144) hk134
  refine x_aload_n (i := 0) (dxX11_init_2 1 rfl) rfl rfl ?_
  refine x_newO (ci := 9) (C := RX9) (T := TX9) (N := 16) (a := 149) rfl lay_9 tyX9 tyX9_ok gw_454 gw_455 gw_113 zv_9 rfl (dxX11_init_2 2 rfl) (Nat.le_of_ble_eq_true rfl) (Nat.le_of_ble_eq_true rfl) ?_
  replace hk := kN (a := 149) (q := .inl 9) hk (by omega)
  replace hk1 := kN (a := 149) (q := .inl 9) hk1 (by omega)
  replace hk6 := kN (a := 149) (q := .inl 9) hk6 (by omega)
  replace hk10 := kN (a := 149) (q := .inl 9) hk10 (by omega)
  replace hk19 := kN (a := 149) (q := .inl 9) hk19 (by omega)
  replace hk28 := kN (a := 149) (q := .inl 9) hk28 (by omega)
  replace hk71 := kN (a := 149) (q := .inl 9) hk71 (by omega)
  replace hk74 := kN (a := 149) (q := .inl 9) hk74 (by omega)
  replace hk77 := kN (a := 149) (q := .inl 9) hk77 (by omega)
  replace hk119 := kN (a := 149) (q := .inl 9) hk119 (by omega)
  replace hk123 := kN (a := 149) (q := .inl 9) hk123 (by omega)
  replace hk134 := kN (a := 149) (q := .inl 9) hk134 (by omega)
  have hk139 : kd (nK (sq (k10 (nK (sq (k1 (nK (sq (k2 (nK (sq (k5 (nK (sq (k3 (nK (sq (k3 (nK (sq (k0 (nK (sq (k4 (nK (sq (k4 (nK (sq (k7 (nK (sq (k8 (nK c10 11 (.inl 8)) 11 12) 10 0 (some 11)) 16 (.inl 7)) 16 17) 10 1 (some 16)) 20 (.inl 4)) 20 21) 10 2 (some 20)) 29 (.inl 4)) 29 30) 10 3 (some 29)) 38 (.inl 0)) 38 39) 10 4 (some 38)) 81 (.inl 3)) 81 82) 10 5 (some 81)) 84 (.inl 3)) 84 85) 10 6 (some 84)) 87 (.inl 5)) 87 88 20) 10 7 (some 87)) 129 (.inl 2)) 129 130) 10 8 (some 129)) 133 (.inl 1)) 133 134 20 87) 10 9 (some 133)) 144 (.inl 10)) 144 145 129) 10 10 (some 144)) 149 (.inl 9)) 149 = some (.inl 9) := kS _ _ _
  refine x_dup (dxX11_init_2 3 rfl) rfl ?_
  refine x_aload_n (i := 0) (dxX11_init_2 4 rfl) rfl rfl ?_
  refine gf_11_62 (v := .ref 129) hk (by rfl) (dxX11_init_2 5 rfl) ?_
  refine x_callI (As := [.ref 129]) ZI.ao (dxX11_init_2 6 rfl) gw_456 gw_457 gw_113 gw_458 rfl pd_yX9_init (Nat.le_of_ble_eq_true rfl) (Nat.le_of_ble_eq_true rfl) (Nat.le_of_ble_eq_true rfl) (Nat.le_of_ble_eq_true rfl) rfl (ct_9 (d := d + 1) (p0 := 129) (o := 149) (a := 150) (by omega) rfl hk139) (fun s1 e1 => ?_)
  subst e1
  replace hk := kk_9 (o := 149) (a := 150) (p0 := 129) hk (by omega)
  replace hk1 := kk_9 (o := 149) (a := 150) (p0 := 129) hk1 (by omega)
  replace hk6 := kk_9 (o := 149) (a := 150) (p0 := 129) hk6 (by omega)
  replace hk10 := kk_9 (o := 149) (a := 150) (p0 := 129) hk10 (by omega)
  replace hk19 := kk_9 (o := 149) (a := 150) (p0 := 129) hk19 (by omega)
  replace hk28 := kk_9 (o := 149) (a := 150) (p0 := 129) hk28 (by omega)
  replace hk71 := kk_9 (o := 149) (a := 150) (p0 := 129) hk71 (by omega)
  replace hk74 := kk_9 (o := 149) (a := 150) (p0 := 129) hk74 (by omega)
  replace hk77 := kk_9 (o := 149) (a := 150) (p0 := 129) hk77 (by omega)
  replace hk119 := kk_9 (o := 149) (a := 150) (p0 := 129) hk119 (by omega)
  replace hk123 := kk_9 (o := 149) (a := 150) (p0 := 129) hk123 (by omega)
  replace hk134 := kk_9 (o := 149) (a := 150) (p0 := 129) hk134 (by omega)
  replace hk139 := kk_9 (o := 149) (a := 150) (p0 := 129) hk139 (by omega)
  refine x_putF (ci := 11) (fk := 11) (C := RX11) (T := TX11) (N := 14) ZI.nm rfl rfl (Nat.le_of_ble_eq_true rfl) lay_11 gw_630 rfl rfl tyX11 tyX11_ok nmX11 hk rfl rfl (fun _ => rfl) (dxX11_init_2 7 rfl) ?_
  replace hk := kQ (b := 10) (i := 11) (v := some 149) hk
  replace hk1 := kQ (b := 10) (i := 11) (v := some 149) hk1
  replace hk6 := kQ (b := 10) (i := 11) (v := some 149) hk6
  replace hk10 := kQ (b := 10) (i := 11) (v := some 149) hk10
  replace hk19 := kQ (b := 10) (i := 11) (v := some 149) hk19
  replace hk28 := kQ (b := 10) (i := 11) (v := some 149) hk28
  replace hk71 := kQ (b := 10) (i := 11) (v := some 149) hk71
  replace hk74 := kQ (b := 10) (i := 11) (v := some 149) hk74
  replace hk77 := kQ (b := 10) (i := 11) (v := some 149) hk77
  replace hk119 := kQ (b := 10) (i := 11) (v := some 149) hk119
  replace hk123 := kQ (b := 10) (i := 11) (v := some 149) hk123
  replace hk134 := kQ (b := 10) (i := 11) (v := some 149) hk134
  replace hk139 := kQ (b := 10) (i := 11) (v := some 149) hk139
  refine x_aload_n (i := 0) (dxX11_init_2 8 rfl) rfl rfl ?_
  refine x_newO (ci := 6) (C := RX6) (T := TX6) (N := 3) (a := 167) rfl lay_6 tyX6 tyX6_ok gw_515 gw_516 gw_114 zv_6 rfl (dxX11_init_2 9 rfl) (Nat.le_of_ble_eq_true rfl) (Nat.le_of_ble_eq_true rfl) ?_
  replace hk := kN (a := 167) (q := .inl 6) hk (by omega)
  replace hk1 := kN (a := 167) (q := .inl 6) hk1 (by omega)
  replace hk6 := kN (a := 167) (q := .inl 6) hk6 (by omega)
  replace hk10 := kN (a := 167) (q := .inl 6) hk10 (by omega)
  replace hk19 := kN (a := 167) (q := .inl 6) hk19 (by omega)
  replace hk28 := kN (a := 167) (q := .inl 6) hk28 (by omega)
  replace hk71 := kN (a := 167) (q := .inl 6) hk71 (by omega)
  replace hk74 := kN (a := 167) (q := .inl 6) hk74 (by omega)
  replace hk77 := kN (a := 167) (q := .inl 6) hk77 (by omega)
  replace hk119 := kN (a := 167) (q := .inl 6) hk119 (by omega)
  replace hk123 := kN (a := 167) (q := .inl 6) hk123 (by omega)
  replace hk134 := kN (a := 167) (q := .inl 6) hk134 (by omega)
  replace hk139 := kN (a := 167) (q := .inl 6) hk139 (by omega)
  have hk157 : kd (nK (sq (k9 (nK (sq (k10 (nK (sq (k1 (nK (sq (k2 (nK (sq (k5 (nK (sq (k3 (nK (sq (k3 (nK (sq (k0 (nK (sq (k4 (nK (sq (k4 (nK (sq (k7 (nK (sq (k8 (nK c10 11 (.inl 8)) 11 12) 10 0 (some 11)) 16 (.inl 7)) 16 17) 10 1 (some 16)) 20 (.inl 4)) 20 21) 10 2 (some 20)) 29 (.inl 4)) 29 30) 10 3 (some 29)) 38 (.inl 0)) 38 39) 10 4 (some 38)) 81 (.inl 3)) 81 82) 10 5 (some 81)) 84 (.inl 3)) 84 85) 10 6 (some 84)) 87 (.inl 5)) 87 88 20) 10 7 (some 87)) 129 (.inl 2)) 129 130) 10 8 (some 129)) 133 (.inl 1)) 133 134 20 87) 10 9 (some 133)) 144 (.inl 10)) 144 145 129) 10 10 (some 144)) 149 (.inl 9)) 149 150 129) 10 11 (some 149)) 167 (.inl 6)) 167 = some (.inl 6) := kS _ _ _
  refine x_dup (dxX11_init_2 10 rfl) rfl ?_
  refine x_callIN (As := []) ZI.ao (dxX11_init_2 11 rfl) (host := "GluedPaper") (List.mem_of_getElem? (i := 8) rfl) gw_518 gw_114 gw_519 rfl pd_yX6_init (Nat.le_of_ble_eq_true rfl) (Nat.le_of_ble_eq_true rfl) (Nat.le_of_ble_eq_true rfl) (Nat.le_of_ble_eq_true rfl) rfl (ct_6 (d := d + 1) (o := 167) (a := 168) (by omega) rfl hk157) (fun s1 e1 => ?_)
  subst e1
  replace hk := kk_6 (o := 167) (a := 168) hk (by omega)
  replace hk1 := kk_6 (o := 167) (a := 168) hk1 (by omega)
  replace hk6 := kk_6 (o := 167) (a := 168) hk6 (by omega)
  replace hk10 := kk_6 (o := 167) (a := 168) hk10 (by omega)
  replace hk19 := kk_6 (o := 167) (a := 168) hk19 (by omega)
  replace hk28 := kk_6 (o := 167) (a := 168) hk28 (by omega)
  replace hk71 := kk_6 (o := 167) (a := 168) hk71 (by omega)
  replace hk74 := kk_6 (o := 167) (a := 168) hk74 (by omega)
  replace hk77 := kk_6 (o := 167) (a := 168) hk77 (by omega)
  replace hk119 := kk_6 (o := 167) (a := 168) hk119 (by omega)
  replace hk123 := kk_6 (o := 167) (a := 168) hk123 (by omega)
  replace hk134 := kk_6 (o := 167) (a := 168) hk134 (by omega)
  replace hk139 := kk_6 (o := 167) (a := 168) hk139 (by omega)
  replace hk157 := kk_6 (o := 167) (a := 168) hk157 (by omega)
  refine x_putF (ci := 11) (fk := 12) (C := RX11) (T := TX11) (N := 14) ZI.nm rfl rfl (Nat.le_of_ble_eq_true rfl) lay_11 gw_631 rfl rfl tyX11 tyX11_ok nmX11 hk rfl rfl (fun _ => rfl) (dxX11_init_2 12 rfl) ?_
  replace hk := kQ (b := 10) (i := 12) (v := some 167) hk
  replace hk1 := kQ (b := 10) (i := 12) (v := some 167) hk1
  replace hk6 := kQ (b := 10) (i := 12) (v := some 167) hk6
  replace hk10 := kQ (b := 10) (i := 12) (v := some 167) hk10
  replace hk19 := kQ (b := 10) (i := 12) (v := some 167) hk19
  replace hk28 := kQ (b := 10) (i := 12) (v := some 167) hk28
  replace hk71 := kQ (b := 10) (i := 12) (v := some 167) hk71
  replace hk74 := kQ (b := 10) (i := 12) (v := some 167) hk74
  replace hk77 := kQ (b := 10) (i := 12) (v := some 167) hk77
  replace hk119 := kQ (b := 10) (i := 12) (v := some 167) hk119
  replace hk123 := kQ (b := 10) (i := 12) (v := some 167) hk123
  replace hk134 := kQ (b := 10) (i := 12) (v := some 167) hk134
  replace hk139 := kQ (b := 10) (i := 12) (v := some 167) hk139
  replace hk157 := kQ (b := 10) (i := 12) (v := some 167) hk157
  refine x_aload_n (i := 0) (dxX11_init_2 13 rfl) rfl rfl ?_
  refine gf_11_19 (v := .ref 16) hk cT_11 (dxX11_init_2 14 rfl) ?_
  refine gf_11_98 (v := .ref 17) hk6 cT_7 (dxX11_init_2 15 rfl) ?_
  refine x_iconst (v := 0) (dxX11_init_2 16 rfl) rfl ?_
  refine x_iconst (v := 1) (dxX11_init_2 17 rfl) rfl ?_
  refine x_iast (z := 16) cT_k (vpl 16 0 rfl) (dxX11_init_2 18 rfl) ?_
  replace hk := kI (b := 17) (i := 0) (v := 1) hk
  replace hk1 := kI (b := 17) (i := 0) (v := 1) hk1
  replace hk6 := kI (b := 17) (i := 0) (v := 1) hk6
  replace hk10 := kI (b := 17) (i := 0) (v := 1) hk10
  replace hk19 := kI (b := 17) (i := 0) (v := 1) hk19
  replace hk28 := kI (b := 17) (i := 0) (v := 1) hk28
  replace hk71 := kI (b := 17) (i := 0) (v := 1) hk71
  replace hk74 := kI (b := 17) (i := 0) (v := 1) hk74
  replace hk77 := kI (b := 17) (i := 0) (v := 1) hk77
  replace hk119 := kI (b := 17) (i := 0) (v := 1) hk119
  replace hk123 := kI (b := 17) (i := 0) (v := 1) hk123
  replace hk134 := kI (b := 17) (i := 0) (v := 1) hk134
  replace hk139 := kI (b := 17) (i := 0) (v := 1) hk139
  replace hk157 := kI (b := 17) (i := 0) (v := 1) hk157
  refine x_aload_n (i := 0) (dxX11_init_2 19 rfl) rfl rfl ?_
  refine x_aload_n (i := 0) (dxX11_init_2 20 rfl) rfl rfl ?_
  refine gf_11_19 (v := .ref 16) hk cS_11 (dxX11_init_2 21 rfl) ?_
  refine gf_11_98 (v := .ref 17) hk6 cS_7 (dxX11_init_2 22 rfl) ?_
  refine x_callVN (σ := cS) (ci := 11) (a0 := 11) (As := [.ref 17]) ZI.hs (by decide) (cS_n.trans rfl) (dxX11_init_2 23 rfl) gw_535 gw_537 gw_0 gw_103 gw_538 pd_yX11_takeFigure (T := TX11) (N := 14) rfl hk (Nat.le_of_ble_eq_true rfl) (Nat.le_of_ble_eq_true rfl) rfl hT (fun s1 h1 e1 => ?_)
  exact x_vretI (dxX11_init_2 24 rfl) ⟨e1.trans cS_n, h1⟩
