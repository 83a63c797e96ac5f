/-! ===== the constructors' contracts (written by wip/gen/vci.py) ===== -/
theorem kS (σ : PS) (a : Nat) (q : KD) : kd (nK σ a q) a = some q := by rw [kd_nK, if_pos rfl]
theorem kN {σ : PS} {a b : Nat} {q : KD} {r : Option KD} (h : kd σ b = r) (hb : b < a) : kd (nK σ a q) b = r := by rw [kd_nK, if_neg (by omega)]; exact h
theorem kM {σ : PS} {a b z y : Nat} {r : Option KD} (h : kd σ b = r) (hb : b < a) : kd (nM σ a z y) b = r := by rw [kd_nM, if_neg (by omega), if_neg (by omega)]; exact h
theorem kQ {σ : PS} {b i c : Nat} {v : Option Nat} {r : Option KD} (h : kd σ c = r) : kd (sq σ b i v) c = r := h
theorem kI {σ : PS} {b i c : Nat} {v : Int32} {r : Option KD} (h : kd σ c = r) : kd (si σ b i v) c = r := h
theorem zv_0 : ∀ j, j < 3 → defaultValue (tyX0 j) = zv (ftc 0 j) := by decide +kernel
theorem zv_1 : ∀ j, j < 12 → defaultValue (tyX1 j) = zv (ftc 1 j) := by decide +kernel
theorem zv_2 : ∀ j, j < 4 → defaultValue (tyX2 j) = zv (ftc 2 j) := by decide +kernel
theorem zv_3 : ∀ j, j < 3 → defaultValue (tyX3 j) = zv (ftc 3 j) := by decide +kernel
theorem zv_4 : ∀ j, j < 10 → defaultValue (tyX4 j) = zv (ftc 4 j) := by decide +kernel
theorem zv_5 : ∀ j, j < 9 → defaultValue (tyX5 j) = zv (ftc 5 j) := by decide +kernel
theorem zv_6 : ∀ j, j < 3 → defaultValue (tyX6 j) = zv (ftc 6 j) := by decide +kernel
theorem zv_7 : ∀ j, j < 8 → defaultValue (tyX7 j) = zv (ftc 7 j) := by decide +kernel
theorem zv_8 : ∀ j, j < 6 → defaultValue (tyX8 j) = zv (ftc 8 j) := by decide +kernel
theorem zv_9 : ∀ j, j < 16 → defaultValue (tyX9 j) = zv (ftc 9 j) := by decide +kernel
theorem zv_10 : ∀ j, j < 8 → defaultValue (tyX10 j) = zv (ftc 10 j) := by decide +kernel
theorem zv_11 : ∀ j, j < 14 → defaultValue (tyX11 j) = zv (ftc 11 j) := by decide +kernel
theorem zv_12 : ∀ j, j < 85 → defaultValue (tyX12 j) = zv (ftc 12 j) := by decide +kernel
theorem pd_yX0_init : yX0_init.cls ≠ "java/lang/invoke/MethodHandle" ∧ yX0_init.cls ≠ "java/lang/invoke/VarHandle" ∧ (parseMethodDescriptor yX0_init.desc).map (fun d => d.parameters.length) = some 0 := by decide +kernel
theorem pd_yX1_init : yX1_init.cls ≠ "java/lang/invoke/MethodHandle" ∧ yX1_init.cls ≠ "java/lang/invoke/VarHandle" ∧ (parseMethodDescriptor yX1_init.desc).map (fun d => d.parameters.length) = some 2 := by decide +kernel
theorem pd_yX2_init : yX2_init.cls ≠ "java/lang/invoke/MethodHandle" ∧ yX2_init.cls ≠ "java/lang/invoke/VarHandle" ∧ (parseMethodDescriptor yX2_init.desc).map (fun d => d.parameters.length) = some 0 := by decide +kernel
theorem pd_yX3_init : yX3_init.cls ≠ "java/lang/invoke/MethodHandle" ∧ yX3_init.cls ≠ "java/lang/invoke/VarHandle" ∧ (parseMethodDescriptor yX3_init.desc).map (fun d => d.parameters.length) = some 0 := by decide +kernel
theorem pd_yX4_init : yX4_init.cls ≠ "java/lang/invoke/MethodHandle" ∧ yX4_init.cls ≠ "java/lang/invoke/VarHandle" ∧ (parseMethodDescriptor yX4_init.desc).map (fun d => d.parameters.length) = some 0 := by decide +kernel
theorem pd_yX5_init : yX5_init.cls ≠ "java/lang/invoke/MethodHandle" ∧ yX5_init.cls ≠ "java/lang/invoke/VarHandle" ∧ (parseMethodDescriptor yX5_init.desc).map (fun d => d.parameters.length) = some 1 := by decide +kernel
theorem pd_yX6_init : yX6_init.cls ≠ "java/lang/invoke/MethodHandle" ∧ yX6_init.cls ≠ "java/lang/invoke/VarHandle" ∧ (parseMethodDescriptor yX6_init.desc).map (fun d => d.parameters.length) = some 0 := by decide +kernel
theorem pd_yX7_init : yX7_init.cls ≠ "java/lang/invoke/MethodHandle" ∧ yX7_init.cls ≠ "java/lang/invoke/VarHandle" ∧ (parseMethodDescriptor yX7_init.desc).map (fun d => d.parameters.length) = some 0 := by decide +kernel
theorem pd_yX8_init : yX8_init.cls ≠ "java/lang/invoke/MethodHandle" ∧ yX8_init.cls ≠ "java/lang/invoke/VarHandle" ∧ (parseMethodDescriptor yX8_init.desc).map (fun d => d.parameters.length) = some 0 := by decide +kernel
theorem pd_yX9_init : yX9_init.cls ≠ "java/lang/invoke/MethodHandle" ∧ yX9_init.cls ≠ "java/lang/invoke/VarHandle" ∧ (parseMethodDescriptor yX9_init.desc).map (fun d => d.parameters.length) = some 1 := by decide +kernel
theorem pd_yX10_init : yX10_init.cls ≠ "java/lang/invoke/MethodHandle" ∧ yX10_init.cls ≠ "java/lang/invoke/VarHandle" ∧ (parseMethodDescriptor yX10_init.desc).map (fun d => d.parameters.length) = some 1 := by decide +kernel
theorem pd_yX11_init : yX11_init.cls ≠ "java/lang/invoke/MethodHandle" ∧ yX11_init.cls ≠ "java/lang/invoke/VarHandle" ∧ (parseMethodDescriptor yX11_init.desc).map (fun d => d.parameters.length) = some 0 := by decide +kernel
theorem pd_yX12_init : yX12_init.cls ≠ "java/lang/invoke/MethodHandle" ∧ yX12_init.cls ≠ "java/lang/invoke/VarHandle" ∧ (parseMethodDescriptor yX12_init.desc).map (fun d => d.parameters.length) = some 0 := by decide +kernel
theorem gw_143 : Cond.methodLink RX8 1 Lib.objectInit ∈ lwG := gw 143 (by decide +kernel) rfl
theorem gw_168 : Cond.arrayClass .char ∈ lwG := gw 168 (by decide +kernel) rfl
theorem gw_169 : Cond.arrayClass .int ∈ lwG := gw 169 (by decide +kernel) rfl
theorem gw_170 : Cond.arrayClass .long ∈ lwG := gw 170 (by decide +kernel) rfl
theorem gw_176 : Cond.methodLink RX7 3 Lib.objectInit ∈ lwG := gw 176 (by decide +kernel) rfl
theorem gw_208 : Cond.methodLink RX4 3 Lib.objectInit ∈ lwG := gw 208 (by decide +kernel) rfl
theorem gw_262 : Cond.methodLink RX0 3 Lib.objectInit ∈ lwG := gw 262 (by decide +kernel) rfl
theorem gw_263 : Cond.classLink RX0 11 "[[I" ∈ lwG := gw 263 (by decide +kernel) rfl
theorem gw_282 : Cond.methodLink RX3 3 Lib.objectInit ∈ lwG := gw 282 (by decide +kernel) rfl
theorem gw_340 : Cond.instantiable RX2 4 ∈ lwG := gw 340 (by decide +kernel) rfl
theorem gw_342 : Cond.instanceMethod yX2_init ∈ lwG := gw 342 (by decide +kernel) rfl
theorem gw_343 : Cond.code yX2_init cX2_init 1 none ∈ lwG := gw 343 (by decide +kernel) rfl
theorem gw_344 : Cond.methodLink RX2 3 Lib.objectInit ∈ lwG := gw 344 (by decide +kernel) rfl
theorem gw_377 : Cond.methodLink RX1 3 Lib.objectInit ∈ lwG := gw 377 (by decide +kernel) rfl
theorem gw_378 : Cond.classLink RX1 9 RX2 ∈ lwG := gw 378 (by decide +kernel) rfl
theorem gw_424 : Cond.methodLink RX10 3 Lib.objectInit ∈ lwG := gw 424 (by decide +kernel) rfl
theorem gw_459 : Cond.methodLink RX9 3 Lib.objectInit ∈ lwG := gw 459 (by decide +kernel) rfl
theorem gw_460 : Cond.classLink RX9 22 "[[I" ∈ lwG := gw 460 (by decide +kernel) rfl
theorem gw_514 : Cond.arrayClass .boolean ∈ lwG := gw 514 (by decide +kernel) rfl
theorem gw_520 : Cond.methodLink RX6 3 Lib.objectInit ∈ lwG := gw 520 (by decide +kernel) rfl
theorem gw_521 : Cond.classLink RX6 17 "[[I" ∈ lwG := gw 521 (by decide +kernel) rfl
def tbX3_init_0 : List (Nat × Instr × Nat) := [(0, .aload_n 0, 1), (1, .invokespecial 3, 3), (4, .aload_n 0, 1), (5, .bipush 22, 2), (7, .newarray .int, 2), (9, .putfield 9, 3), (12, .aload_n 0, 1), (13, .bipush 22, 2), (15, .newarray .int, 2), (17, .putfield 15, 3), (20, .return_, 1)]
theorem tkX3_init_0 : ∀ q ∈ tbX3_init_0, decode cX3_init q.1 = .ok q.2 := by decide +kernel
theorem dxX3_init_0 (i : Nat) {pc : Nat} {ins : Instr} {len : Nat} (h : tbX3_init_0[i]? = some (pc, ins, len)) : decode cX3_init pc = .ok (ins, len) := tkX3_init_0 (pc, ins, len) (List.mem_of_getElem? h)
def k3 (σ : PS) (o a : Nat) : PS := (sq (nK (sq (nK σ a (.inr (0, 22))) o 1 (some a)) (a + 1) (.inr (0, 22))) o 2 (some (a + 1)))
theorem ct_3 {g : GV} {d o a : Nat} {σ : PS} (ho : o < a) (ha : nx σ = a) (hk : kd σ o = some (.inl 3)) : CtI g yX3_init cX3_init 1 d 2 44 [.ref o] σ (fun s => s = k3 σ o a) := by
  refine x_entryI (a0 := a) (L := [some (.ref o)]) pn_3 rfl ha (Nat.le_of_ble_eq_true rfl) ⟨0, rfl⟩ ?_
  show X g (ZI g a 2 44 _) RX3 cX3_init 1 _ 2 44 0 0 0 _ [] σ
  refine x_aload_n (i := 0) (dxX3_init_0 0 rfl) rfl rfl ?_
  refine x_objI gw_282 (Nat.le_of_ble_eq_true rfl) (dxX3_init_0 1 rfl) ?_
  refine x_aload_n (i := 0) (dxX3_init_0 2 rfl) rfl rfl ?_
  refine x_bipush (v := 22) (dxX3_init_0 3 rfl) rfl ?_
  refine x_newA (atype := .int) (t := 0) (z := 22) (a := a) (Nat.le_of_ble_eq_true rfl) rfl gw_169 (by decide) (by decide) (Nat.le_of_ble_eq_true rfl) ha (dxX3_init_0 4 rfl) (Nat.le_of_ble_eq_true rfl) (Nat.le_of_ble_eq_true rfl) ?_
  replace hk := kN (a := a) (q := .inr (0, 22)) hk (by omega)
  refine x_putF (ci := 3) (fk := 1) (C := RX3) (T := TX3) (N := 3) ZI.nm rfl rfl (Nat.le_of_ble_eq_true rfl) lay_3 gw_284 rfl rfl tyX3 tyX3_ok nmX3 hk rfl rfl (fun _ => rfl) (dxX3_init_0 5 rfl) ?_
  replace hk := kQ (b := o) (i := 1) (v := some a) hk
  refine x_aload_n (i := 0) (dxX3_init_0 6 rfl) rfl rfl ?_
  refine x_bipush (v := 22) (dxX3_init_0 7 rfl) rfl ?_
  refine x_newA (atype := .int) (t := 0) (z := 22) (a := (a + 1)) (Nat.le_of_ble_eq_true rfl) rfl gw_169 (by decide) (by decide) (Nat.le_of_ble_eq_true rfl) rfl (dxX3_init_0 8 rfl) (Nat.le_of_ble_eq_true rfl) (Nat.le_of_ble_eq_true rfl) ?_
  replace hk := kN (a := (a + 1)) (q := .inr (0, 22)) hk (by omega)
  refine x_putF (ci := 3) (fk := 2) (C := RX3) (T := TX3) (N := 3) ZI.nm rfl rfl (Nat.le_of_ble_eq_true rfl) lay_3 gw_286 rfl rfl tyX3 tyX3_ok nmX3 hk rfl rfl (fun _ => rfl) (dxX3_init_0 9 rfl) ?_
  replace hk := kQ (b := o) (i := 2) (v := some (a + 1)) hk
  exact x_vretI (dxX3_init_0 10 rfl) rfl
theorem kk_3 {σ : PS} {o a b : Nat} {q : Option KD} (h : kd σ b = q) (hb : b < a) : kd (k3 σ o a) b = q := by
  exact (kQ (kN (kQ (kN h (by omega))) (by omega)))
def tbX4_init_0 : List (Nat × Instr × Nat) := [(0, .aload_n 0, 1), (1, .invokespecial 3, 3), (4, .aload_n 0, 1), (5, .bipush 16, 2), (7, .newarray .int, 2), (9, .putfield 11, 3), (12, .aload_n 0, 1), (13, .bipush 10, 2), (15, .newarray .int, 2), (17, .putfield 17, 3), (20, .aload_n 0, 1), (21, .bipush 10, 2), (23, .newarray .int, 2), (25, .putfield 20, 3), (28, .aload_n 0, 1), (29, .bipush 40, 2), (31, .newarray .int, 2), (33, .putfield 23, 3), (36, .aload_n 0, 1), (37, .bipush 40, 2), (39, .newarray .int, 2), (41, .putfield 26, 3), (44, .aload_n 0, 1), (45, .bipush 22, 2), (47, .newarray .int, 2), (49, .putfield 29, 3), (52, .aload_n 0, 1), (53, .bipush 22, 2), (55, .newarray .int, 2), (57, .putfield 32, 3), (60, .aload_n 0, 1), (61, .bipush 22, 2)]
theorem tkX4_init_0 : ∀ q ∈ tbX4_init_0, decode cX4_init q.1 = .ok q.2 := by decide +kernel
theorem dxX4_init_0 (i : Nat) {pc : Nat} {ins : Instr} {len : Nat} (h : tbX4_init_0[i]? = some (pc, ins, len)) : decode cX4_init pc = .ok (ins, len) := tkX4_init_0 (pc, ins, len) (List.mem_of_getElem? h)
def tbX4_init_1 : List (Nat × Instr × Nat) := [(63, .newarray .int, 2), (65, .putfield 35, 3), (68, .return_, 1)]
theorem tkX4_init_1 : ∀ q ∈ tbX4_init_1, decode cX4_init q.1 = .ok q.2 := by decide +kernel
theorem dxX4_init_1 (i : Nat) {pc : Nat} {ins : Instr} {len : Nat} (h : tbX4_init_1[i]? = some (pc, ins, len)) : decode cX4_init pc = .ok (ins, len) := tkX4_init_1 (pc, ins, len) (List.mem_of_getElem? h)
def k4 (σ : PS) (o a : Nat) : PS := (sq (nK (sq (nK (sq (nK (sq (nK (sq (nK (sq (nK (sq (nK (sq (nK σ a (.inr (0, 16))) o 0 (some a)) (a + 1) (.inr (0, 10))) o 1 (some (a + 1))) (a + 2) (.inr (0, 10))) o 2 (some (a + 2))) (a + 3) (.inr (0, 40))) o 4 (some (a + 3))) (a + 4) (.inr (0, 40))) o 5 (some (a + 4))) (a + 5) (.inr (0, 22))) o 7 (some (a + 5))) (a + 6) (.inr (0, 22))) o 8 (some (a + 6))) (a + 7) (.inr (0, 22))) o 9 (some (a + 7)))
theorem ct_4 {g : GV} {d o a : Nat} {σ : PS} (ho : o < a) (ha : nx σ = a) (hk : kd σ o = some (.inl 4)) : CtI g yX4_init cX4_init 1 d 8 182 [.ref o] σ (fun s => s = k4 σ o a) := by
  refine x_entryI (a0 := a) (L := [some (.ref o)]) pn_4 rfl ha (Nat.le_of_ble_eq_true rfl) ⟨0, rfl⟩ ?_
  show X g (ZI g a 8 182 _) RX4 cX4_init 1 _ 8 182 0 0 0 _ [] σ
  refine x_aload_n (i := 0) (dxX4_init_0 0 rfl) rfl rfl ?_
  refine x_objI gw_208 (Nat.le_of_ble_eq_true rfl) (dxX4_init_0 1 rfl) ?_
  refine x_aload_n (i := 0) (dxX4_init_0 2 rfl) rfl rfl ?_
  refine x_bipush (v := 16) (dxX4_init_0 3 rfl) rfl ?_
  refine x_newA (atype := .int) (t := 0) (z := 16) (a := a) (Nat.le_of_ble_eq_true rfl) rfl gw_169 (by decide) (by decide) (Nat.le_of_ble_eq_true rfl) ha (dxX4_init_0 4 rfl) (Nat.le_of_ble_eq_true rfl) (Nat.le_of_ble_eq_true rfl) ?_
  replace hk := kN (a := a) (q := .inr (0, 16)) hk (by omega)
  refine x_putF (ci := 4) (fk := 0) (C := RX4) (T := TX4) (N := 10) ZI.nm rfl rfl (Nat.le_of_ble_eq_true rfl) lay_4 gw_209 rfl rfl tyX4 tyX4_ok nmX4 hk rfl rfl (fun _ => rfl) (dxX4_init_0 5 rfl) ?_
  replace hk := kQ (b := o) (i := 0) (v := some a) hk
  refine x_aload_n (i := 0) (dxX4_init_0 6 rfl) rfl rfl ?_
  refine x_bipush (v := 10) (dxX4_init_0 7 rfl) rfl ?_
  refine x_newA (atype := .int) (t := 0) (z := 10) (a := (a + 1)) (Nat.le_of_ble_eq_true rfl) rfl gw_169 (by decide) (by decide) (Nat.le_of_ble_eq_true rfl) rfl (dxX4_init_0 8 rfl) (Nat.le_of_ble_eq_true rfl) (Nat.le_of_ble_eq_true rfl) ?_
  replace hk := kN (a := (a + 1)) (q := .inr (0, 10)) hk (by omega)
  refine x_putF (ci := 4) (fk := 1) (C := RX4) (T := TX4) (N := 10) ZI.nm rfl rfl (Nat.le_of_ble_eq_true rfl) lay_4 gw_211 rfl rfl tyX4 tyX4_ok nmX4 hk rfl rfl (fun _ => rfl) (dxX4_init_0 9 rfl) ?_
  replace hk := kQ (b := o) (i := 1) (v := some (a + 1)) hk
  refine x_aload_n (i := 0) (dxX4_init_0 10 rfl) rfl rfl ?_
  refine x_bipush (v := 10) (dxX4_init_0 11 rfl) rfl ?_
  refine x_newA (atype := .int) (t := 0) (z := 10) (a := (a + 2)) (Nat.le_of_ble_eq_true rfl) rfl gw_169 (by decide) (by decide) (Nat.le_of_ble_eq_true rfl) rfl (dxX4_init_0 12 rfl) (Nat.le_of_ble_eq_true rfl) (Nat.le_of_ble_eq_true rfl) ?_
  replace hk := kN (a := (a + 2)) (q := .inr (0, 10)) hk (by omega)
  refine x_putF (ci := 4) (fk := 2) (C := RX4) (T := TX4) (N := 10) ZI.nm rfl rfl (Nat.le_of_ble_eq_true rfl) lay_4 gw_213 rfl rfl tyX4 tyX4_ok nmX4 hk rfl rfl (fun _ => rfl) (dxX4_init_0 13 rfl) ?_
  replace hk := kQ (b := o) (i := 2) (v := some (a + 2)) hk
  refine x_aload_n (i := 0) (dxX4_init_0 14 rfl) rfl rfl ?_
  refine x_bipush (v := 40) (dxX4_init_0 15 rfl) rfl ?_
  refine x_newA (atype := .int) (t := 0) (z := 40) (a := (a + 3)) (Nat.le_of_ble_eq_true rfl) rfl gw_169 (by decide) (by decide) (Nat.le_of_ble_eq_true rfl) rfl (dxX4_init_0 16 rfl) (Nat.le_of_ble_eq_true rfl) (Nat.le_of_ble_eq_true rfl) ?_
  replace hk := kN (a := (a + 3)) (q := .inr (0, 40)) hk (by omega)
  refine x_putF (ci := 4) (fk := 4) (C := RX4) (T := TX4) (N := 10) ZI.nm rfl rfl (Nat.le_of_ble_eq_true rfl) lay_4 gw_218 rfl rfl tyX4 tyX4_ok nmX4 hk rfl rfl (fun _ => rfl) (dxX4_init_0 17 rfl) ?_
  replace hk := kQ (b := o) (i := 4) (v := some (a + 3)) hk
  refine x_aload_n (i := 0) (dxX4_init_0 18 rfl) rfl rfl ?_
  refine x_bipush (v := 40) (dxX4_init_0 19 rfl) rfl ?_
  refine x_newA (atype := .int) (t := 0) (z := 40) (a := (a + 4)) (Nat.le_of_ble_eq_true rfl) rfl gw_169 (by decide) (by decide) (Nat.le_of_ble_eq_true rfl) rfl (dxX4_init_0 20 rfl) (Nat.le_of_ble_eq_true rfl) (Nat.le_of_ble_eq_true rfl) ?_
  replace hk := kN (a := (a + 4)) (q := .inr (0, 40)) hk (by omega)
  refine x_putF (ci := 4) (fk := 5) (C := RX4) (T := TX4) (N := 10) ZI.nm rfl rfl (Nat.le_of_ble_eq_true rfl) lay_4 gw_220 rfl rfl tyX4 tyX4_ok nmX4 hk rfl rfl (fun _ => rfl) (dxX4_init_0 21 rfl) ?_
  replace hk := kQ (b := o) (i := 5) (v := some (a + 4)) hk
  refine x_aload_n (i := 0) (dxX4_init_0 22 rfl) rfl rfl ?_
  refine x_bipush (v := 22) (dxX4_init_0 23 rfl) rfl ?_
  refine x_newA (atype := .int) (t := 0) (z := 22) (a := (a + 5)) (Nat.le_of_ble_eq_true rfl) rfl gw_169 (by decide) (by decide) (Nat.le_of_ble_eq_true rfl) rfl (dxX4_init_0 24 rfl) (Nat.le_of_ble_eq_true rfl) (Nat.le_of_ble_eq_true rfl) ?_
  replace hk := kN (a := (a + 5)) (q := .inr (0, 22)) hk (by omega)
  refine x_putF (ci := 4) (fk := 7) (C := RX4) (T := TX4) (N := 10) ZI.nm rfl rfl (Nat.le_of_ble_eq_true rfl) lay_4 gw_227 rfl rfl tyX4 tyX4_ok nmX4 hk rfl rfl (fun _ => rfl) (dxX4_init_0 25 rfl) ?_
  replace hk := kQ (b := o) (i := 7) (v := some (a + 5)) hk
  refine x_aload_n (i := 0) (dxX4_init_0 26 rfl) rfl rfl ?_
  refine x_bipush (v := 22) (dxX4_init_0 27 rfl) rfl ?_
  refine x_newA (atype := .int) (t := 0) (z := 22) (a := (a + 6)) (Nat.le_of_ble_eq_true rfl) rfl gw_169 (by decide) (by decide) (Nat.le_of_ble_eq_true rfl) rfl (dxX4_init_0 28 rfl) (Nat.le_of_ble_eq_true rfl) (Nat.le_of_ble_eq_true rfl) ?_
  replace hk := kN (a := (a + 6)) (q := .inr (0, 22)) hk (by omega)
  refine x_putF (ci := 4) (fk := 8) (C := RX4) (T := TX4) (N := 10) ZI.nm rfl rfl (Nat.le_of_ble_eq_true rfl) lay_4 gw_230 rfl rfl tyX4 tyX4_ok nmX4 hk rfl rfl (fun _ => rfl) (dxX4_init_0 29 rfl) ?_
  replace hk := kQ (b := o) (i := 8) (v := some (a + 6)) hk
  refine x_aload_n (i := 0) (dxX4_init_0 30 rfl) rfl rfl ?_
  refine x_bipush (v := 22) (dxX4_init_0 31 rfl) rfl ?_
  refine x_newA (atype := .int) (t := 0) (z := 22) (a := (a + 7)) (Nat.le_of_ble_eq_true rfl) rfl gw_169 (by decide) (by decide) (Nat.le_of_ble_eq_true rfl) rfl (dxX4_init_1 0 rfl) (Nat.le_of_ble_eq_true rfl) (Nat.le_of_ble_eq_true rfl) ?_
  replace hk := kN (a := (a + 7)) (q := .inr (0, 22)) hk (by omega)
  refine x_putF (ci := 4) (fk := 9) (C := RX4) (T := TX4) (N := 10) ZI.nm rfl rfl (Nat.le_of_ble_eq_true rfl) lay_4 gw_233 rfl rfl tyX4 tyX4_ok nmX4 hk rfl rfl (fun _ => rfl) (dxX4_init_1 1 rfl) ?_
  replace hk := kQ (b := o) (i := 9) (v := some (a + 7)) hk
  exact x_vretI (dxX4_init_1 2 rfl) rfl
theorem kk_4 {σ : PS} {o a b : Nat} {q : Option KD} (h : kd σ b = q) (hb : b < a) : kd (k4 σ o a) b = q := by
  exact (kQ (kN (kQ (kN (kQ (kN (kQ (kN (kQ (kN (kQ (kN (kQ (kN (kQ (kN h (by omega))) (by omega))) (by omega))) (by omega))) (by omega))) (by omega))) (by omega))) (by omega)))
def tbX0_init_0 : List (Nat × Instr × Nat) := [(0, .aload_n 0, 1), (1, .invokespecial 3, 3), (4, .aload_n 0, 1), (5, .bipush 41, 2), (7, .bipush 22, 2), (9, .multianewarray 11 2, 4), (13, .putfield 13, 3), (16, .return_, 1)]
theorem tkX0_init_0 : ∀ q ∈ tbX0_init_0, decode cX0_init q.1 = .ok q.2 := by decide +kernel
theorem dxX0_init_0 (i : Nat) {pc : Nat} {ins : Instr} {len : Nat} (h : tbX0_init_0[i]? = some (pc, ins, len)) : decode cX0_init pc = .ok (ins, len) := tkX0_init_0 (pc, ins, len) (List.mem_of_getElem? h)
def k0 (σ : PS) (o a : Nat) : PS := (sq (nM σ a 41 22) o 0 (some a))
theorem ct_0 {g : GV} {d o a : Nat} {σ : PS} (ho : o < a) (ha : nx σ = a) (hk : kd σ o = some (.inl 0)) : CtI g yX0_init cX0_init 1 d 42 943 [.ref o] σ (fun s => s = k0 σ o a) := by
  refine x_entryI (a0 := a) (L := [some (.ref o)]) pn_0 rfl ha (Nat.le_of_ble_eq_true rfl) ⟨0, rfl⟩ ?_
  show X g (ZI g a 42 943 _) RX0 cX0_init 1 _ 42 943 0 0 0 _ [] σ
  refine x_aload_n (i := 0) (dxX0_init_0 0 rfl) rfl rfl ?_
  refine x_objI gw_262 (Nat.le_of_ble_eq_true rfl) (dxX0_init_0 1 rfl) ?_
  refine x_aload_n (i := 0) (dxX0_init_0 2 rfl) rfl rfl ?_
  refine x_bipush (v := 41) (dxX0_init_0 3 rfl) rfl ?_
  refine x_bipush (v := 22) (dxX0_init_0 4 rfl) rfl ?_
  refine x_mna (z := 41) (y := 22) (a := a) gw_263 (by decide) (by decide) (by decide) (by decide) (Nat.le_of_ble_eq_true rfl) (Nat.le_of_ble_eq_true rfl) ha (dxX0_init_0 5 rfl) (Nat.le_of_ble_eq_true rfl) (Nat.le_of_ble_eq_true rfl) ?_
  replace hk := kM (a := a) (z := 41) (y := 22) hk (by omega)
  refine x_putF (ci := 0) (fk := 0) (C := RX0) (T := TX0) (N := 3) ZI.nm rfl rfl (Nat.le_of_ble_eq_true rfl) lay_0 gw_265 rfl rfl tyX0 tyX0_ok nmX0 hk rfl rfl (fun _ => rfl) (dxX0_init_0 6 rfl) ?_
  replace hk := kQ (b := o) (i := 0) (v := some a) hk
  exact x_vretI (dxX0_init_0 7 rfl) rfl
theorem kk_0 {σ : PS} {o a b : Nat} {q : Option KD} (h : kd σ b = q) (hb : b < a) : kd (k0 σ o a) b = q := by
  exact (kQ (kM h (by omega)))
def tbX2_init_0 : List (Nat × Instr × Nat) := [(0, .aload_n 0, 1), (1, .invokespecial 3, 3), (4, .aload_n 0, 1), (5, .bipush 40, 2), (7, .newarray .int, 2), (9, .putfield 9, 3), (12, .aload_n 0, 1), (13, .bipush 40, 2), (15, .newarray .int, 2), (17, .putfield 15, 3), (20, .aload_n 0, 1), (21, .bipush 40, 2), (23, .newarray .int, 2), (25, .putfield 18, 3), (28, .return_, 1)]
theorem tkX2_init_0 : ∀ q ∈ tbX2_init_0, decode cX2_init q.1 = .ok q.2 := by decide +kernel
theorem dxX2_init_0 (i : Nat) {pc : Nat} {ins : Instr} {len : Nat} (h : tbX2_init_0[i]? = some (pc, ins, len)) : decode cX2_init pc = .ok (ins, len) := tkX2_init_0 (pc, ins, len) (List.mem_of_getElem? h)
def k2 (σ : PS) (o a : Nat) : PS := (sq (nK (sq (nK (sq (nK σ a (.inr (0, 40))) o 1 (some a)) (a + 1) (.inr (0, 40))) o 2 (some (a + 1))) (a + 2) (.inr (0, 40))) o 3 (some (a + 2)))
theorem ct_2 {g : GV} {d o a : Nat} {σ : PS} (ho : o < a) (ha : nx σ = a) (hk : kd σ o = some (.inl 2)) : CtI g yX2_init cX2_init 1 d 3 120 [.ref o] σ (fun s => s = k2 σ o a) := by
  refine x_entryI (a0 := a) (L := [some (.ref o)]) pn_2 rfl ha (Nat.le_of_ble_eq_true rfl) ⟨0, rfl⟩ ?_
  show X g (ZI g a 3 120 _) RX2 cX2_init 1 _ 3 120 0 0 0 _ [] σ
  refine x_aload_n (i := 0) (dxX2_init_0 0 rfl) rfl rfl ?_
  refine x_objI gw_344 (Nat.le_of_ble_eq_true rfl) (dxX2_init_0 1 rfl) ?_
  refine x_aload_n (i := 0) (dxX2_init_0 2 rfl) rfl rfl ?_
  refine x_bipush (v := 40) (dxX2_init_0 3 rfl) rfl ?_
  refine x_newA (atype := .int) (t := 0) (z := 40) (a := a) (Nat.le_of_ble_eq_true rfl) rfl gw_169 (by decide) (by decide) (Nat.le_of_ble_eq_true rfl) ha (dxX2_init_0 4 rfl) (Nat.le_of_ble_eq_true rfl) (Nat.le_of_ble_eq_true rfl) ?_
  replace hk := kN (a := a) (q := .inr (0, 40)) hk (by omega)
  refine x_putF (ci := 2) (fk := 1) (C := RX2) (T := TX2) (N := 4) ZI.nm rfl rfl (Nat.le_of_ble_eq_true rfl) lay_2 gw_350 rfl rfl tyX2 tyX2_ok nmX2 hk rfl rfl (fun _ => rfl) (dxX2_init_0 5 rfl) ?_
  replace hk := kQ (b := o) (i := 1) (v := some a) hk
  refine x_aload_n (i := 0) (dxX2_init_0 6 rfl) rfl rfl ?_
  refine x_bipush (v := 40) (dxX2_init_0 7 rfl) rfl ?_
  refine x_newA (atype := .int) (t := 0) (z := 40) (a := (a + 1)) (Nat.le_of_ble_eq_true rfl) rfl gw_169 (by decide) (by decide) (Nat.le_of_ble_eq_true rfl) rfl (dxX2_init_0 8 rfl) (Nat.le_of_ble_eq_true rfl) (Nat.le_of_ble_eq_true rfl) ?_
  replace hk := kN (a := (a + 1)) (q := .inr (0, 40)) hk (by omega)
  refine x_putF (ci := 2) (fk := 2) (C := RX2) (T := TX2) (N := 4) ZI.nm rfl rfl (Nat.le_of_ble_eq_true rfl) lay_2 gw_355 rfl rfl tyX2 tyX2_ok nmX2 hk rfl rfl (fun _ => rfl) (dxX2_init_0 9 rfl) ?_
  replace hk := kQ (b := o) (i := 2) (v := some (a + 1)) hk
  refine x_aload_n (i := 0) (dxX2_init_0 10 rfl) rfl rfl ?_
  refine x_bipush (v := 40) (dxX2_init_0 11 rfl) rfl ?_
  refine x_newA (atype := .int) (t := 0) (z := 40) (a := (a + 2)) (Nat.le_of_ble_eq_true rfl) rfl gw_169 (by decide) (by decide) (Nat.le_of_ble_eq_true rfl) rfl (dxX2_init_0 12 rfl) (Nat.le_of_ble_eq_true rfl) (Nat.le_of_ble_eq_true rfl) ?_
  replace hk := kN (a := (a + 2)) (q := .inr (0, 40)) hk (by omega)
  refine x_putF (ci := 2) (fk := 3) (C := RX2) (T := TX2) (N := 4) ZI.nm rfl rfl (Nat.le_of_ble_eq_true rfl) lay_2 gw_360 rfl rfl tyX2 tyX2_ok nmX2 hk rfl rfl (fun _ => rfl) (dxX2_init_0 13 rfl) ?_
  replace hk := kQ (b := o) (i := 3) (v := some (a + 2)) hk
  exact x_vretI (dxX2_init_0 14 rfl) rfl
theorem kk_2 {σ : PS} {o a b : Nat} {q : Option KD} (h : kd σ b = q) (hb : b < a) : kd (k2 σ o a) b = q := by
  exact (kQ (kN (kQ (kN (kQ (kN h (by omega))) (by omega))) (by omega)))
def tbX6_init_0 : List (Nat × Instr × Nat) := [(0, .aload_n 0, 1), (1, .invokespecial 3, 3), (4, .aload_n 0, 1), (5, .iconst 4, 1), (6, .newarray .boolean, 2), (8, .putfield 11, 3), (11, .aload_n 0, 1), (12, .iconst 4, 1), (13, .bipush 16, 2), (15, .multianewarray 17 2, 4), (19, .putfield 19, 3), (22, .aload_n 0, 1), (23, .iconst 4, 1), (24, .bipush 22, 2), (26, .multianewarray 17 2, 4), (30, .putfield 22, 3), (33, .return_, 1)]
theorem tkX6_init_0 : ∀ q ∈ tbX6_init_0, decode cX6_init q.1 = .ok q.2 := by decide +kernel
theorem dxX6_init_0 (i : Nat) {pc : Nat} {ins : Instr} {len : Nat} (h : tbX6_init_0[i]? = some (pc, ins, len)) : decode cX6_init pc = .ok (ins, len) := tkX6_init_0 (pc, ins, len) (List.mem_of_getElem? h)
def k6 (σ : PS) (o a : Nat) : PS := (sq (nM (sq (nM (sq (nK σ a (.inr (4, 4))) o 0 (some a)) (a + 1) 4 16) o 1 (some (a + 1))) (a + 6) 4 22) o 2 (some (a + 6)))
theorem ct_6 {g : GV} {d o a : Nat} {σ : PS} (ho : o < a) (ha : nx σ = a) (hk : kd σ o = some (.inl 6)) : CtI g yX6_init cX6_init 1 d 11 164 [.ref o] σ (fun s => s = k6 σ o a) := by
  refine x_entryI (a0 := a) (L := [some (.ref o)]) pn_6 rfl ha (Nat.le_of_ble_eq_true rfl) ⟨0, rfl⟩ ?_
  show X g (ZI g a 11 164 _) RX6 cX6_init 1 _ 11 164 0 0 0 _ [] σ
  refine x_aload_n (i := 0) (dxX6_init_0 0 rfl) rfl rfl ?_
  refine x_objI gw_520 (Nat.le_of_ble_eq_true rfl) (dxX6_init_0 1 rfl) ?_
  refine x_aload_n (i := 0) (dxX6_init_0 2 rfl) rfl rfl ?_
  refine x_iconst (v := 4) (dxX6_init_0 3 rfl) rfl ?_
  refine x_newA (atype := .boolean) (t := 4) (z := 4) (a := a) (Nat.le_of_ble_eq_true rfl) rfl gw_514 (by decide) (by decide) (Nat.le_of_ble_eq_true rfl) ha (dxX6_init_0 4 rfl) (Nat.le_of_ble_eq_true rfl) (Nat.le_of_ble_eq_true rfl) ?_
  replace hk := kN (a := a) (q := .inr (4, 4)) hk (by omega)
  refine x_putF (ci := 6) (fk := 0) (C := RX6) (T := TX6) (N := 3) ZI.nm rfl rfl (Nat.le_of_ble_eq_true rfl) lay_6 gw_522 rfl rfl tyX6 tyX6_ok nmX6 hk rfl rfl (fun _ => rfl) (dxX6_init_0 5 rfl) ?_
  replace hk := kQ (b := o) (i := 0) (v := some a) hk
  refine x_aload_n (i := 0) (dxX6_init_0 6 rfl) rfl rfl ?_
  refine x_iconst (v := 4) (dxX6_init_0 7 rfl) rfl ?_
  refine x_bipush (v := 16) (dxX6_init_0 8 rfl) rfl ?_
  refine x_mna (z := 4) (y := 16) (a := (a + 1)) gw_521 (by decide) (by decide) (by decide) (by decide) (Nat.le_of_ble_eq_true rfl) (Nat.le_of_ble_eq_true rfl) rfl (dxX6_init_0 9 rfl) (Nat.le_of_ble_eq_true rfl) (Nat.le_of_ble_eq_true rfl) ?_
  replace hk := kM (a := (a + 1)) (z := 4) (y := 16) hk (by omega)
  refine x_putF (ci := 6) (fk := 1) (C := RX6) (T := TX6) (N := 3) ZI.nm rfl rfl (Nat.le_of_ble_eq_true rfl) lay_6 gw_524 rfl rfl tyX6 tyX6_ok nmX6 hk rfl rfl (fun _ => rfl) (dxX6_init_0 10 rfl) ?_
  replace hk := kQ (b := o) (i := 1) (v := some (a + 1)) hk
  refine x_aload_n (i := 0) (dxX6_init_0 11 rfl) rfl rfl ?_
  refine x_iconst (v := 4) (dxX6_init_0 12 rfl) rfl ?_
  refine x_bipush (v := 22) (dxX6_init_0 13 rfl) rfl ?_
  refine x_mna (z := 4) (y := 22) (a := (a + 6)) gw_521 (by decide) (by decide) (by decide) (by decide) (Nat.le_of_ble_eq_true rfl) (Nat.le_of_ble_eq_true rfl) rfl (dxX6_init_0 14 rfl) (Nat.le_of_ble_eq_true rfl) (Nat.le_of_ble_eq_true rfl) ?_
  replace hk := kM (a := (a + 6)) (z := 4) (y := 22) hk (by omega)
  refine x_putF (ci := 6) (fk := 2) (C := RX6) (T := TX6) (N := 3) ZI.nm rfl rfl (Nat.le_of_ble_eq_true rfl) lay_6 gw_526 rfl rfl tyX6 tyX6_ok nmX6 hk rfl rfl (fun _ => rfl) (dxX6_init_0 15 rfl) ?_
  replace hk := kQ (b := o) (i := 2) (v := some (a + 6)) hk
  exact x_vretI (dxX6_init_0 16 rfl) rfl
theorem kk_6 {σ : PS} {o a b : Nat} {q : Option KD} (h : kd σ b = q) (hb : b < a) : kd (k6 σ o a) b = q := by
  exact (kQ (kM (kQ (kM (kQ (kN h (by omega))) (by omega))) (by omega)))
def tbX7_init_0 : List (Nat × Instr × Nat) := [(0, .aload_n 0, 1), (1, .invokespecial 3, 3), (4, .aload_n 0, 1), (5, .bipush 16, 2), (7, .newarray .int, 2), (9, .putfield 11, 3), (12, .aload_n 0, 1), (13, .bipush 8, 2), (15, .newarray .long, 2), (17, .putfield 15, 3), (20, .aload_n 0, 1), (21, .bipush 8, 2), (23, .newarray .int, 2), (25, .putfield 19, 3), (28, .return_, 1)]
theorem tkX7_init_0 : ∀ q ∈ tbX7_init_0, decode cX7_init q.1 = .ok q.2 := by decide +kernel
theorem dxX7_init_0 (i : Nat) {pc : Nat} {ins : Instr} {len : Nat} (h : tbX7_init_0[i]? = some (pc, ins, len)) : decode cX7_init pc = .ok (ins, len) := tkX7_init_0 (pc, ins, len) (List.mem_of_getElem? h)
def k7 (σ : PS) (o a : Nat) : PS := (sq (nK (sq (nK (sq (nK σ a (.inr (0, 16))) o 0 (some a)) (a + 1) (.inr (1, 8))) o 1 (some (a + 1))) (a + 2) (.inr (0, 8))) o 2 (some (a + 2)))
theorem ct_7 {g : GV} {d o a : Nat} {σ : PS} (ho : o < a) (ha : nx σ = a) (hk : kd σ o = some (.inl 7)) : CtI g yX7_init cX7_init 1 d 3 32 [.ref o] σ (fun s => s = k7 σ o a) := by
  refine x_entryI (a0 := a) (L := [some (.ref o)]) pn_7 rfl ha (Nat.le_of_ble_eq_true rfl) ⟨0, rfl⟩ ?_
  show X g (ZI g a 3 32 _) RX7 cX7_init 1 _ 3 32 0 0 0 _ [] σ
  refine x_aload_n (i := 0) (dxX7_init_0 0 rfl) rfl rfl ?_
  refine x_objI gw_176 (Nat.le_of_ble_eq_true rfl) (dxX7_init_0 1 rfl) ?_
  refine x_aload_n (i := 0) (dxX7_init_0 2 rfl) rfl rfl ?_
  refine x_bipush (v := 16) (dxX7_init_0 3 rfl) rfl ?_
  refine x_newA (atype := .int) (t := 0) (z := 16) (a := a) (Nat.le_of_ble_eq_true rfl) rfl gw_169 (by decide) (by decide) (Nat.le_of_ble_eq_true rfl) ha (dxX7_init_0 4 rfl) (Nat.le_of_ble_eq_true rfl) (Nat.le_of_ble_eq_true rfl) ?_
  replace hk := kN (a := a) (q := .inr (0, 16)) hk (by omega)
  refine x_putF (ci := 7) (fk := 0) (C := RX7) (T := TX7) (N := 8) ZI.nm rfl rfl (Nat.le_of_ble_eq_true rfl) lay_7 gw_177 rfl rfl tyX7 tyX7_ok nmX7 hk rfl rfl (fun _ => rfl) (dxX7_init_0 5 rfl) ?_
  replace hk := kQ (b := o) (i := 0) (v := some a) hk
  refine x_aload_n (i := 0) (dxX7_init_0 6 rfl) rfl rfl ?_
  refine x_bipush (v := 8) (dxX7_init_0 7 rfl) rfl ?_
  refine x_newA (atype := .long) (t := 1) (z := 8) (a := (a + 1)) (Nat.le_of_ble_eq_true rfl) rfl gw_170 (by decide) (by decide) (Nat.le_of_ble_eq_true rfl) rfl (dxX7_init_0 8 rfl) (Nat.le_of_ble_eq_true rfl) (Nat.le_of_ble_eq_true rfl) ?_
  replace hk := kN (a := (a + 1)) (q := .inr (1, 8)) hk (by omega)
  refine x_putF (ci := 7) (fk := 1) (C := RX7) (T := TX7) (N := 8) ZI.nm rfl rfl (Nat.le_of_ble_eq_true rfl) lay_7 gw_179 rfl rfl tyX7 tyX7_ok nmX7 hk rfl rfl (fun _ => rfl) (dxX7_init_0 9 rfl) ?_
  replace hk := kQ (b := o) (i := 1) (v := some (a + 1)) hk
  refine x_aload_n (i := 0) (dxX7_init_0 10 rfl) rfl rfl ?_
  refine x_bipush (v := 8) (dxX7_init_0 11 rfl) rfl ?_
  refine x_newA (atype := .int) (t := 0) (z := 8) (a := (a + 2)) (Nat.le_of_ble_eq_true rfl) rfl gw_169 (by decide) (by decide) (Nat.le_of_ble_eq_true rfl) rfl (dxX7_init_0 12 rfl) (Nat.le_of_ble_eq_true rfl) (Nat.le_of_ble_eq_true rfl) ?_
  replace hk := kN (a := (a + 2)) (q := .inr (0, 8)) hk (by omega)
  refine x_putF (ci := 7) (fk := 2) (C := RX7) (T := TX7) (N := 8) ZI.nm rfl rfl (Nat.le_of_ble_eq_true rfl) lay_7 gw_180 rfl rfl tyX7 tyX7_ok nmX7 hk rfl rfl (fun _ => rfl) (dxX7_init_0 13 rfl) ?_
  replace hk := kQ (b := o) (i := 2) (v := some (a + 2)) hk
  exact x_vretI (dxX7_init_0 14 rfl) rfl
theorem kk_7 {σ : PS} {o a b : Nat} {q : Option KD} (h : kd σ b = q) (hb : b < a) : kd (k7 σ o a) b = q := by
  exact (kQ (kN (kQ (kN (kQ (kN h (by omega))) (by omega))) (by omega)))
def tbX8_init_0 : List (Nat × Instr × Nat) := [(0, .aload_n 0, 1), (1, .invokespecial 1, 3), (4, .aload_n 0, 1), (5, .sipush 1000, 3), (8, .newarray .char, 2), (10, .putfield 9, 3), (13, .aload_n 0, 1), (14, .iconst 0, 1), (15, .putfield 13, 3), (18, .aload_n 0, 1), (19, .sipush 1001, 3), (22, .newarray .int, 2), (24, .putfield 17, 3), (27, .aload_n 0, 1), (28, .sipush 1001, 3), (31, .newarray .int, 2), (33, .putfield 21, 3), (36, .aload_n 0, 1), (37, .sipush 1001, 3), (40, .newarray .long, 2), (42, .putfield 24, 3), (45, .aload_n 0, 1), (46, .iconst 0, 1), (47, .putfield 28, 3), (50, .return_, 1)]
theorem tkX8_init_0 : ∀ q ∈ tbX8_init_0, decode cX8_init q.1 = .ok q.2 := by decide +kernel
theorem dxX8_init_0 (i : Nat) {pc : Nat} {ins : Instr} {len : Nat} (h : tbX8_init_0[i]? = some (pc, ins, len)) : decode cX8_init pc = .ok (ins, len) := tkX8_init_0 (pc, ins, len) (List.mem_of_getElem? h)
def k8 (σ : PS) (o a : Nat) : PS := (si (sq (nK (sq (nK (sq (nK (si (sq (nK σ a (.inr (3, 1000))) o 0 (some a)) o 1 0) (a + 1) (.inr (0, 1001))) o 2 (some (a + 1))) (a + 2) (.inr (0, 1001))) o 3 (some (a + 2))) (a + 3) (.inr (1, 1001))) o 4 (some (a + 3))) o 5 0)
theorem ct_8 {g : GV} {d o a : Nat} {σ : PS} (ho : o < a) (ha : nx σ = a) (hk : kd σ o = some (.inl 8)) : CtI g yX8_init cX8_init 1 d 4 4003 [.ref o] σ (fun s => s = k8 σ o a) := by
  refine x_entryI (a0 := a) (L := [some (.ref o)]) pn_8 rfl ha (Nat.le_of_ble_eq_true rfl) ⟨0, rfl⟩ ?_
  show X g (ZI g a 4 4003 _) RX8 cX8_init 1 _ 4 4003 0 0 0 _ [] σ
  refine x_aload_n (i := 0) (dxX8_init_0 0 rfl) rfl rfl ?_
  refine x_objI gw_143 (Nat.le_of_ble_eq_true rfl) (dxX8_init_0 1 rfl) ?_
  refine x_aload_n (i := 0) (dxX8_init_0 2 rfl) rfl rfl ?_
  refine x_sipush (v := 1000) (dxX8_init_0 3 rfl) rfl ?_
  refine x_newA (atype := .char) (t := 3) (z := 1000) (a := a) (Nat.le_of_ble_eq_true rfl) rfl gw_168 (by decide) (by decide) (Nat.le_of_ble_eq_true rfl) ha (dxX8_init_0 4 rfl) (Nat.le_of_ble_eq_true rfl) (Nat.le_of_ble_eq_true rfl) ?_
  replace hk := kN (a := a) (q := .inr (3, 1000)) hk (by omega)
  refine x_putF (ci := 8) (fk := 0) (C := RX8) (T := TX8) (N := 6) ZI.nm rfl rfl (Nat.le_of_ble_eq_true rfl) lay_8 gw_144 rfl rfl tyX8 tyX8_ok nmX8 hk rfl rfl (fun _ => rfl) (dxX8_init_0 5 rfl) ?_
  replace hk := kQ (b := o) (i := 0) (v := some a) hk
  refine x_aload_n (i := 0) (dxX8_init_0 6 rfl) rfl rfl ?_
  refine x_iconst (v := 0) (dxX8_init_0 7 rfl) rfl ?_
  refine x_putI (ci := 8) (fk := 1) (C := RX8) (T := TX8) (N := 6) rfl (Nat.le_of_ble_eq_true rfl) lay_8 gw_145 rfl rfl tyX8 tyX8_ok nmX8 hk rfl rfl (fun _ => rfl) (dxX8_init_0 8 rfl) ?_
  replace hk := kI (b := o) (i := 1) (v := 0) hk
  refine x_aload_n (i := 0) (dxX8_init_0 9 rfl) rfl rfl ?_
  refine x_sipush (v := 1001) (dxX8_init_0 10 rfl) rfl ?_
  refine x_newA (atype := .int) (t := 0) (z := 1001) (a := (a + 1)) (Nat.le_of_ble_eq_true rfl) rfl gw_169 (by decide) (by decide) (Nat.le_of_ble_eq_true rfl) rfl (dxX8_init_0 11 rfl) (Nat.le_of_ble_eq_true rfl) (Nat.le_of_ble_eq_true rfl) ?_
  replace hk := kN (a := (a + 1)) (q := .inr (0, 1001)) hk (by omega)
  refine x_putF (ci := 8) (fk := 2) (C := RX8) (T := TX8) (N := 6) ZI.nm rfl rfl (Nat.le_of_ble_eq_true rfl) lay_8 gw_147 rfl rfl tyX8 tyX8_ok nmX8 hk rfl rfl (fun _ => rfl) (dxX8_init_0 12 rfl) ?_
  replace hk := kQ (b := o) (i := 2) (v := some (a + 1)) hk
  refine x_aload_n (i := 0) (dxX8_init_0 13 rfl) rfl rfl ?_
  refine x_sipush (v := 1001) (dxX8_init_0 14 rfl) rfl ?_
  refine x_newA (atype := .int) (t := 0) (z := 1001) (a := (a + 2)) (Nat.le_of_ble_eq_true rfl) rfl gw_169 (by decide) (by decide) (Nat.le_of_ble_eq_true rfl) rfl (dxX8_init_0 15 rfl) (Nat.le_of_ble_eq_true rfl) (Nat.le_of_ble_eq_true rfl) ?_
  replace hk := kN (a := (a + 2)) (q := .inr (0, 1001)) hk (by omega)
  refine x_putF (ci := 8) (fk := 3) (C := RX8) (T := TX8) (N := 6) ZI.nm rfl rfl (Nat.le_of_ble_eq_true rfl) lay_8 gw_149 rfl rfl tyX8 tyX8_ok nmX8 hk rfl rfl (fun _ => rfl) (dxX8_init_0 16 rfl) ?_
  replace hk := kQ (b := o) (i := 3) (v := some (a + 2)) hk
  refine x_aload_n (i := 0) (dxX8_init_0 17 rfl) rfl rfl ?_
  refine x_sipush (v := 1001) (dxX8_init_0 18 rfl) rfl ?_
  refine x_newA (atype := .long) (t := 1) (z := 1001) (a := (a + 3)) (Nat.le_of_ble_eq_true rfl) rfl gw_170 (by decide) (by decide) (Nat.le_of_ble_eq_true rfl) rfl (dxX8_init_0 19 rfl) (Nat.le_of_ble_eq_true rfl) (Nat.le_of_ble_eq_true rfl) ?_
  replace hk := kN (a := (a + 3)) (q := .inr (1, 1001)) hk (by omega)
  refine x_putF (ci := 8) (fk := 4) (C := RX8) (T := TX8) (N := 6) ZI.nm rfl rfl (Nat.le_of_ble_eq_true rfl) lay_8 gw_151 rfl rfl tyX8 tyX8_ok nmX8 hk rfl rfl (fun _ => rfl) (dxX8_init_0 20 rfl) ?_
  replace hk := kQ (b := o) (i := 4) (v := some (a + 3)) hk
  refine x_aload_n (i := 0) (dxX8_init_0 21 rfl) rfl rfl ?_
  refine x_iconst (v := 0) (dxX8_init_0 22 rfl) rfl ?_
  refine x_putI (ci := 8) (fk := 5) (C := RX8) (T := TX8) (N := 6) rfl (Nat.le_of_ble_eq_true rfl) lay_8 gw_153 rfl rfl tyX8 tyX8_ok nmX8 hk rfl rfl (fun _ => rfl) (dxX8_init_0 23 rfl) ?_
  replace hk := kI (b := o) (i := 5) (v := 0) hk
  exact x_vretI (dxX8_init_0 24 rfl) rfl
theorem kk_8 {σ : PS} {o a b : Nat} {q : Option KD} (h : kd σ b = q) (hb : b < a) : kd (k8 σ o a) b = q := by
  exact (kI (kQ (kN (kQ (kN (kQ (kN (kI (kQ (kN h (by omega)))) (by omega))) (by omega))) (by omega))))
def tbX1_init_0 : List (Nat × Instr × Nat) := [(0, .aload_n 0, 1), (1, .invokespecial 3, 3), (4, .aload_n 0, 1), (5, .new 9, 3), (8, .dup, 1), (9, .invokespecial 11, 3), (12, .putfield 12, 3), (15, .aload_n 0, 1), (16, .bipush 10, 2), (18, .newarray .int, 2), (20, .putfield 18, 3), (23, .aload_n 0, 1), (24, .bipush 10, 2), (26, .newarray .int, 2), (28, .putfield 22, 3), (31, .aload_n 0, 1), (32, .bipush 10, 2), (34, .newarray .int, 2), (36, .putfield 25, 3), (39, .aload_n 0, 1), (40, .bipush 40, 2), (42, .newarray .int, 2), (44, .putfield 28, 3), (47, .aload_n 0, 1), (48, .sipush 1208, 3), (51, .newarray .long, 2), (53, .putfield 31, 3), (56, .aload_n 0, 1), (57, .sipush 300, 3), (60, .newarray .int, 2), (62, .putfield 35, 3), (65, .aload_n 0, 1)]
theorem tkX1_init_0 : ∀ q ∈ tbX1_init_0, decode cX1_init q.1 = .ok q.2 := by decide +kernel
theorem dxX1_init_0 (i : Nat) {pc : Nat} {ins : Instr} {len : Nat} (h : tbX1_init_0[i]? = some (pc, ins, len)) : decode cX1_init pc = .ok (ins, len) := tkX1_init_0 (pc, ins, len) (List.mem_of_getElem? h)
def tbX1_init_1 : List (Nat × Instr × Nat) := [(66, .aload_n 1, 1), (67, .putfield 38, 3), (70, .aload_n 0, 1), (71, .aload_n 2, 1), (72, .putfield 42, 3), (75, .return_, 1)]
theorem tkX1_init_1 : ∀ q ∈ tbX1_init_1, decode cX1_init q.1 = .ok q.2 := by decide +kernel
theorem dxX1_init_1 (i : Nat) {pc : Nat} {ins : Instr} {len : Nat} (h : tbX1_init_1[i]? = some (pc, ins, len)) : decode cX1_init pc = .ok (ins, len) := tkX1_init_1 (pc, ins, len) (List.mem_of_getElem? h)
def k1 (σ : PS) (o a : Nat) (p0 : Nat) (p1 : Nat) : PS := (sq (sq (sq (nK (sq (nK (sq (nK (sq (nK (sq (nK (sq (nK (sq (k2 (nK σ a (.inl 2)) a (a + 1)) o 2 (some a)) (a + 4) (.inr (0, 10))) o 3 (some (a + 4))) (a + 5) (.inr (0, 10))) o 4 (some (a + 5))) (a + 6) (.inr (0, 10))) o 5 (some (a + 6))) (a + 7) (.inr (0, 40))) o 6 (some (a + 7))) (a + 8) (.inr (1, 1208))) o 7 (some (a + 8))) (a + 9) (.inr (0, 300))) o 8 (some (a + 9))) o 0 (some p0)) o 1 (some p1))
theorem ct_1 {g : GV} {d o a p0 p1 : Nat} {σ : PS} (ho : o < a) (ha : nx σ = a) (hk : kd σ o = some (.inl 1)) : CtI g yX1_init cX1_init 3 (d + 1) 10 1702 [.ref o, .ref p0, .ref p1] σ (fun s => s = k1 σ o a p0 p1) := by
  refine x_entryI (a0 := a) (L := [some (.ref o), some (.ref p0), some (.ref p1)]) pn_1 rfl ha (Nat.le_of_ble_eq_true rfl) ⟨0, rfl⟩ ?_
  show X g (ZI g a 10 1702 _) RX1 cX1_init 3 _ 10 1702 0 0 0 _ [] σ
  refine x_aload_n (i := 0) (dxX1_init_0 0 rfl) rfl rfl ?_
  refine x_objI gw_377 (Nat.le_of_ble_eq_true rfl) (dxX1_init_0 1 rfl) ?_
  refine x_aload_n (i := 0) (dxX1_init_0 2 rfl) rfl rfl ?_
  refine x_newO (ci := 2) (C := RX2) (T := TX2) (N := 4) (a := a) rfl lay_2 tyX2 tyX2_ok gw_378 gw_340 gw_110 zv_2 ha (dxX1_init_0 3 rfl) (Nat.le_of_ble_eq_true rfl) (Nat.le_of_ble_eq_true rfl) ?_
  replace hk := kN (a := a) (q := .inl 2) hk (by omega)
  have hk1 : kd (nK σ a (.inl 2)) a = some (.inl 2) := kS _ _ _
  refine x_dup (dxX1_init_0 4 rfl) rfl ?_
  refine x_callIN (As := []) ZI.ao (dxX1_init_0 5 rfl) (host := "GluedPaper") (List.mem_of_getElem? (i := 7) rfl) gw_342 gw_110 gw_343 rfl pd_yX2_init (Nat.le_of_ble_eq_true rfl) (Nat.le_of_ble_eq_true rfl) (Nat.le_of_ble_eq_true rfl) (Nat.le_of_ble_eq_true rfl) rfl (ct_2 (d := d) (o := a) (a := (a + 1)) (by omega) rfl hk1) (fun s1 e1 => ?_)
  subst e1
  replace hk := kk_2 (o := a) (a := (a + 1)) hk (by omega)
  replace hk1 := kk_2 (o := a) (a := (a + 1)) hk1 (by omega)
  refine x_putF (ci := 1) (fk := 2) (C := RX1) (T := TX1) (N := 12) ZI.nm rfl rfl (Nat.le_of_ble_eq_true rfl) lay_1 gw_382 rfl rfl tyX1 tyX1_ok nmX1 hk rfl rfl (fun _ => rfl) (dxX1_init_0 6 rfl) ?_
  replace hk := kQ (b := o) (i := 2) (v := some a) hk
  replace hk1 := kQ (b := o) (i := 2) (v := some a) hk1
  refine x_aload_n (i := 0) (dxX1_init_0 7 rfl) rfl rfl ?_
  refine x_bipush (v := 10) (dxX1_init_0 8 rfl) rfl ?_
  refine x_newA (atype := .int) (t := 0) (z := 10) (a := (a + 4)) (Nat.le_of_ble_eq_true rfl) rfl gw_169 (by decide) (by decide) (Nat.le_of_ble_eq_true rfl) rfl (dxX1_init_0 9 rfl) (Nat.le_of_ble_eq_true rfl) (Nat.le_of_ble_eq_true rfl) ?_
  replace hk := kN (a := (a + 4)) (q := .inr (0, 10)) hk (by omega)
  replace hk1 := kN (a := (a + 4)) (q := .inr (0, 10)) hk1 (by omega)
  refine x_putF (ci := 1) (fk := 3) (C := RX1) (T := TX1) (N := 12) ZI.nm rfl rfl (Nat.le_of_ble_eq_true rfl) lay_1 gw_383 rfl rfl tyX1 tyX1_ok nmX1 hk rfl rfl (fun _ => rfl) (dxX1_init_0 10 rfl) ?_
  replace hk := kQ (b := o) (i := 3) (v := some (a + 4)) hk
  replace hk1 := kQ (b := o) (i := 3) (v := some (a + 4)) hk1
  refine x_aload_n (i := 0) (dxX1_init_0 11 rfl) rfl rfl ?_
  refine x_bipush (v := 10) (dxX1_init_0 12 rfl) rfl ?_
  refine x_newA (atype := .int) (t := 0) (z := 10) (a := (a + 5)) (Nat.le_of_ble_eq_true rfl) rfl gw_169 (by decide) (by decide) (Nat.le_of_ble_eq_true rfl) rfl (dxX1_init_0 13 rfl) (Nat.le_of_ble_eq_true rfl) (Nat.le_of_ble_eq_true rfl) ?_
  replace hk := kN (a := (a + 5)) (q := .inr (0, 10)) hk (by omega)
  replace hk1 := kN (a := (a + 5)) (q := .inr (0, 10)) hk1 (by omega)
  refine x_putF (ci := 1) (fk := 4) (C := RX1) (T := TX1) (N := 12) ZI.nm rfl rfl (Nat.le_of_ble_eq_true rfl) lay_1 gw_384 rfl rfl tyX1 tyX1_ok nmX1 hk rfl rfl (fun _ => rfl) (dxX1_init_0 14 rfl) ?_
  replace hk := kQ (b := o) (i := 4) (v := some (a + 5)) hk
  replace hk1 := kQ (b := o) (i := 4) (v := some (a + 5)) hk1
  refine x_aload_n (i := 0) (dxX1_init_0 15 rfl) rfl rfl ?_
  refine x_bipush (v := 10) (dxX1_init_0 16 rfl) rfl ?_
  refine x_newA (atype := .int) (t := 0) (z := 10) (a := (a + 6)) (Nat.le_of_ble_eq_true rfl) rfl gw_169 (by decide) (by decide) (Nat.le_of_ble_eq_true rfl) rfl (dxX1_init_0 17 rfl) (Nat.le_of_ble_eq_true rfl) (Nat.le_of_ble_eq_true rfl) ?_
  replace hk := kN (a := (a + 6)) (q := .inr (0, 10)) hk (by omega)
  replace hk1 := kN (a := (a + 6)) (q := .inr (0, 10)) hk1 (by omega)
  refine x_putF (ci := 1) (fk := 5) (C := RX1) (T := TX1) (N := 12) ZI.nm rfl rfl (Nat.le_of_ble_eq_true rfl) lay_1 gw_385 rfl rfl tyX1 tyX1_ok nmX1 hk rfl rfl (fun _ => rfl) (dxX1_init_0 18 rfl) ?_
  replace hk := kQ (b := o) (i := 5) (v := some (a + 6)) hk
  replace hk1 := kQ (b := o) (i := 5) (v := some (a + 6)) hk1
  refine x_aload_n (i := 0) (dxX1_init_0 19 rfl) rfl rfl ?_
  refine x_bipush (v := 40) (dxX1_init_0 20 rfl) rfl ?_
  refine x_newA (atype := .int) (t := 0) (z := 40) (a := (a + 7)) (Nat.le_of_ble_eq_true rfl) rfl gw_169 (by decide) (by decide) (Nat.le_of_ble_eq_true rfl) rfl (dxX1_init_0 21 rfl) (Nat.le_of_ble_eq_true rfl) (Nat.le_of_ble_eq_true rfl) ?_
  replace hk := kN (a := (a + 7)) (q := .inr (0, 40)) hk (by omega)
  replace hk1 := kN (a := (a + 7)) (q := .inr (0, 40)) hk1 (by omega)
  refine x_putF (ci := 1) (fk := 6) (C := RX1) (T := TX1) (N := 12) ZI.nm rfl rfl (Nat.le_of_ble_eq_true rfl) lay_1 gw_386 rfl rfl tyX1 tyX1_ok nmX1 hk rfl rfl (fun _ => rfl) (dxX1_init_0 22 rfl) ?_
  replace hk := kQ (b := o) (i := 6) (v := some (a + 7)) hk
  replace hk1 := kQ (b := o) (i := 6) (v := some (a + 7)) hk1
  refine x_aload_n (i := 0) (dxX1_init_0 23 rfl) rfl rfl ?_
  refine x_sipush (v := 1208) (dxX1_init_0 24 rfl) rfl ?_
  refine x_newA (atype := .long) (t := 1) (z := 1208) (a := (a + 8)) (Nat.le_of_ble_eq_true rfl) rfl gw_170 (by decide) (by decide) (Nat.le_of_ble_eq_true rfl) rfl (dxX1_init_0 25 rfl) (Nat.le_of_ble_eq_true rfl) (Nat.le_of_ble_eq_true rfl) ?_
  replace hk := kN (a := (a + 8)) (q := .inr (1, 1208)) hk (by omega)
  replace hk1 := kN (a := (a + 8)) (q := .inr (1, 1208)) hk1 (by omega)
  refine x_putF (ci := 1) (fk := 7) (C := RX1) (T := TX1) (N := 12) ZI.nm rfl rfl (Nat.le_of_ble_eq_true rfl) lay_1 gw_387 rfl rfl tyX1 tyX1_ok nmX1 hk rfl rfl (fun _ => rfl) (dxX1_init_0 26 rfl) ?_
  replace hk := kQ (b := o) (i := 7) (v := some (a + 8)) hk
  replace hk1 := kQ (b := o) (i := 7) (v := some (a + 8)) hk1
  refine x_aload_n (i := 0) (dxX1_init_0 27 rfl) rfl rfl ?_
  refine x_sipush (v := 300) (dxX1_init_0 28 rfl) rfl ?_
  refine x_newA (atype := .int) (t := 0) (z := 300) (a := (a + 9)) (Nat.le_of_ble_eq_true rfl) rfl gw_169 (by decide) (by decide) (Nat.le_of_ble_eq_true rfl) rfl (dxX1_init_0 29 rfl) (Nat.le_of_ble_eq_true rfl) (Nat.le_of_ble_eq_true rfl) ?_
  replace hk := kN (a := (a + 9)) (q := .inr (0, 300)) hk (by omega)
  replace hk1 := kN (a := (a + 9)) (q := .inr (0, 300)) hk1 (by omega)
  refine x_putF (ci := 1) (fk := 8) (C := RX1) (T := TX1) (N := 12) ZI.nm rfl rfl (Nat.le_of_ble_eq_true rfl) lay_1 gw_388 rfl rfl tyX1 tyX1_ok nmX1 hk rfl rfl (fun _ => rfl) (dxX1_init_0 30 rfl) ?_
  replace hk := kQ (b := o) (i := 8) (v := some (a + 9)) hk
  replace hk1 := kQ (b := o) (i := 8) (v := some (a + 9)) hk1
  refine x_aload_n (i := 0) (dxX1_init_0 31 rfl) rfl rfl ?_
  refine x_aload_n (i := 1) (dxX1_init_1 0 rfl) rfl rfl ?_
  refine x_putF (ci := 1) (fk := 0) (C := RX1) (T := TX1) (N := 12) ZI.nm rfl rfl (Nat.le_of_ble_eq_true rfl) lay_1 gw_380 rfl rfl tyX1 tyX1_ok nmX1 hk rfl rfl (fun _ => rfl) (dxX1_init_1 1 rfl) ?_
  replace hk := kQ (b := o) (i := 0) (v := some p0) hk
  replace hk1 := kQ (b := o) (i := 0) (v := some p0) hk1
  refine x_aload_n (i := 0) (dxX1_init_1 2 rfl) rfl rfl ?_
  refine x_aload_n (i := 2) (dxX1_init_1 3 rfl) rfl rfl ?_
  refine x_putF (ci := 1) (fk := 1) (C := RX1) (T := TX1) (N := 12) ZI.nm rfl rfl (Nat.le_of_ble_eq_true rfl) lay_1 gw_381 rfl rfl tyX1 tyX1_ok nmX1 hk rfl rfl (fun _ => rfl) (dxX1_init_1 4 rfl) ?_
  replace hk := kQ (b := o) (i := 1) (v := some p1) hk
  replace hk1 := kQ (b := o) (i := 1) (v := some p1) hk1
  exact x_vretI (dxX1_init_1 5 rfl) rfl
theorem kk_1 {σ : PS} {o a b p0 p1 : Nat} {q : Option KD} (h : kd σ b = q) (hb : b < a) : kd (k1 σ o a p0 p1) b = q := by
  exact (kQ (kQ (kQ (kN (kQ (kN (kQ (kN (kQ (kN (kQ (kN (kQ (kN (kQ (kk_2 (kN h (by omega)) (by omega))) (by omega))) (by omega))) (by omega))) (by omega))) (by omega))) (by omega)))))
def tbX10_init_0 : List (Nat × Instr × Nat) := [(0, .aload_n 0, 1), (1, .invokespecial 3, 3), (4, .aload_n 0, 1), (5, .iconst (-1), 1), (6, .putfield 9, 3), (9, .aload_n 0, 1), (10, .bipush 11, 2), (12, .newarray .int, 2), (14, .putfield 15, 3), (17, .aload_n 0, 1), (18, .bipush 11, 2), (20, .newarray .int, 2), (22, .putfield 19, 3), (25, .aload_n 0, 1), (26, .bipush 11, 2), (28, .newarray .int, 2), (30, .putfield 22, 3), (33, .aload_n 0, 1), (34, .bipush 11, 2), (36, .newarray .int, 2), (38, .putfield 25, 3), (41, .aload_n 0, 1), (42, .aload_n 1, 1), (43, .putfield 28, 3), (46, .return_, 1)]
theorem tkX10_init_0 : ∀ q ∈ tbX10_init_0, decode cX10_init q.1 = .ok q.2 := by decide +kernel
theorem dxX10_init_0 (i : Nat) {pc : Nat} {ins : Instr} {len : Nat} (h : tbX10_init_0[i]? = some (pc, ins, len)) : decode cX10_init pc = .ok (ins, len) := tkX10_init_0 (pc, ins, len) (List.mem_of_getElem? h)
def k10 (σ : PS) (o a : Nat) (p0 : Nat) : PS := (sq (sq (nK (sq (nK (sq (nK (sq (nK (si σ o 3 (-1)) a (.inr (0, 11))) o 4 (some a)) (a + 1) (.inr (0, 11))) o 5 (some (a + 1))) (a + 2) (.inr (0, 11))) o 6 (some (a + 2))) (a + 3) (.inr (0, 11))) o 7 (some (a + 3))) o 0 (some p0))
theorem ct_10 {g : GV} {d o a p0 : Nat} {σ : PS} (ho : o < a) (ha : nx σ = a) (hk : kd σ o = some (.inl 10)) : CtI g yX10_init cX10_init 2 d 4 44 [.ref o, .ref p0] σ (fun s => s = k10 σ o a p0) := by
  refine x_entryI (a0 := a) (L := [some (.ref o), some (.ref p0)]) pn_10 rfl ha (Nat.le_of_ble_eq_true rfl) ⟨0, rfl⟩ ?_
  show X g (ZI g a 4 44 _) RX10 cX10_init 2 _ 4 44 0 0 0 _ [] σ
  refine x_aload_n (i := 0) (dxX10_init_0 0 rfl) rfl rfl ?_
  refine x_objI gw_424 (Nat.le_of_ble_eq_true rfl) (dxX10_init_0 1 rfl) ?_
  refine x_aload_n (i := 0) (dxX10_init_0 2 rfl) rfl rfl ?_
  refine x_iconst (v := (-1)) (dxX10_init_0 3 rfl) rfl ?_
  refine x_putI (ci := 10) (fk := 3) (C := RX10) (T := TX10) (N := 8) rfl (Nat.le_of_ble_eq_true rfl) lay_10 gw_430 rfl rfl tyX10 tyX10_ok nmX10 hk rfl rfl (fun _ => rfl) (dxX10_init_0 4 rfl) ?_
  replace hk := kI (b := o) (i := 3) (v := (-1)) hk
  refine x_aload_n (i := 0) (dxX10_init_0 5 rfl) rfl rfl ?_
  refine x_bipush (v := 11) (dxX10_init_0 6 rfl) rfl ?_
  refine x_newA (atype := .int) (t := 0) (z := 11) (a := a) (Nat.le_of_ble_eq_true rfl) rfl gw_169 (by decide) (by decide) (Nat.le_of_ble_eq_true rfl) ha (dxX10_init_0 7 rfl) (Nat.le_of_ble_eq_true rfl) (Nat.le_of_ble_eq_true rfl) ?_
  replace hk := kN (a := a) (q := .inr (0, 11)) hk (by omega)
  refine x_putF (ci := 10) (fk := 4) (C := RX10) (T := TX10) (N := 8) ZI.nm rfl rfl (Nat.le_of_ble_eq_true rfl) lay_10 gw_432 rfl rfl tyX10 tyX10_ok nmX10 hk rfl rfl (fun _ => rfl) (dxX10_init_0 8 rfl) ?_
  replace hk := kQ (b := o) (i := 4) (v := some a) hk
  refine x_aload_n (i := 0) (dxX10_init_0 9 rfl) rfl rfl ?_
  refine x_bipush (v := 11) (dxX10_init_0 10 rfl) rfl ?_
  refine x_newA (atype := .int) (t := 0) (z := 11) (a := (a + 1)) (Nat.le_of_ble_eq_true rfl) rfl gw_169 (by decide) (by decide) (Nat.le_of_ble_eq_true rfl) rfl (dxX10_init_0 11 rfl) (Nat.le_of_ble_eq_true rfl) (Nat.le_of_ble_eq_true rfl) ?_
  replace hk := kN (a := (a + 1)) (q := .inr (0, 11)) hk (by omega)
  refine x_putF (ci := 10) (fk := 5) (C := RX10) (T := TX10) (N := 8) ZI.nm rfl rfl (Nat.le_of_ble_eq_true rfl) lay_10 gw_433 rfl rfl tyX10 tyX10_ok nmX10 hk rfl rfl (fun _ => rfl) (dxX10_init_0 12 rfl) ?_
  replace hk := kQ (b := o) (i := 5) (v := some (a + 1)) hk
  refine x_aload_n (i := 0) (dxX10_init_0 13 rfl) rfl rfl ?_
  refine x_bipush (v := 11) (dxX10_init_0 14 rfl) rfl ?_
  refine x_newA (atype := .int) (t := 0) (z := 11) (a := (a + 2)) (Nat.le_of_ble_eq_true rfl) rfl gw_169 (by decide) (by decide) (Nat.le_of_ble_eq_true rfl) rfl (dxX10_init_0 15 rfl) (Nat.le_of_ble_eq_true rfl) (Nat.le_of_ble_eq_true rfl) ?_
  replace hk := kN (a := (a + 2)) (q := .inr (0, 11)) hk (by omega)
  refine x_putF (ci := 10) (fk := 6) (C := RX10) (T := TX10) (N := 8) ZI.nm rfl rfl (Nat.le_of_ble_eq_true rfl) lay_10 gw_435 rfl rfl tyX10 tyX10_ok nmX10 hk rfl rfl (fun _ => rfl) (dxX10_init_0 16 rfl) ?_
  replace hk := kQ (b := o) (i := 6) (v := some (a + 2)) hk
  refine x_aload_n (i := 0) (dxX10_init_0 17 rfl) rfl rfl ?_
  refine x_bipush (v := 11) (dxX10_init_0 18 rfl) rfl ?_
  refine x_newA (atype := .int) (t := 0) (z := 11) (a := (a + 3)) (Nat.le_of_ble_eq_true rfl) rfl gw_169 (by decide) (by decide) (Nat.le_of_ble_eq_true rfl) rfl (dxX10_init_0 19 rfl) (Nat.le_of_ble_eq_true rfl) (Nat.le_of_ble_eq_true rfl) ?_
  replace hk := kN (a := (a + 3)) (q := .inr (0, 11)) hk (by omega)
  refine x_putF (ci := 10) (fk := 7) (C := RX10) (T := TX10) (N := 8) ZI.nm rfl rfl (Nat.le_of_ble_eq_true rfl) lay_10 gw_436 rfl rfl tyX10 tyX10_ok nmX10 hk rfl rfl (fun _ => rfl) (dxX10_init_0 20 rfl) ?_
  replace hk := kQ (b := o) (i := 7) (v := some (a + 3)) hk
  refine x_aload_n (i := 0) (dxX10_init_0 21 rfl) rfl rfl ?_
  refine x_aload_n (i := 1) (dxX10_init_0 22 rfl) rfl rfl ?_
  refine x_putF (ci := 10) (fk := 0) (C := RX10) (T := TX10) (N := 8) ZI.nm rfl rfl (Nat.le_of_ble_eq_true rfl) lay_10 gw_425 rfl rfl tyX10 tyX10_ok nmX10 hk rfl rfl (fun _ => rfl) (dxX10_init_0 23 rfl) ?_
  replace hk := kQ (b := o) (i := 0) (v := some p0) hk
  exact x_vretI (dxX10_init_0 24 rfl) rfl
theorem kk_10 {σ : PS} {o a b p0 : Nat} {q : Option KD} (h : kd σ b = q) (hb : b < a) : kd (k10 σ o a p0) b = q := by
  exact (kQ (kQ (kN (kQ (kN (kQ (kN (kQ (kN (kI h) (by omega))) (by omega))) (by omega))) (by omega))))
def tbX9_init_0 : List (Nat × Instr × Nat) := [(0, .aload_n 0, 1), (1, .invokespecial 3, 3), (4, .aload_n 0, 1), (5, .bipush 16, 2), (7, .newarray .int, 2), (9, .putfield 11, 3), (12, .aload_n 0, 1), (13, .bipush 16, 2), (15, .newarray .int, 2), (17, .putfield 15, 3), (20, .aload_n 0, 1), (21, .bipush 32, 2), (23, .newarray .boolean, 2), (25, .putfield 18, 3), (28, .aload_n 0, 1), (29, .bipush 8, 2), (31, .bipush 8, 2), (33, .multianewarray 22 2, 4), (37, .putfield 24, 3), (40, .aload_n 0, 1), (41, .bipush 8, 2), (43, .newarray .int, 2), (45, .putfield 27, 3), (48, .aload_n 0, 1), (49, .bipush 8, 2), (51, .newarray .int, 2), (53, .putfield 30, 3), (56, .aload_n 0, 1), (57, .bipush 8, 2), (59, .newarray .int, 2), (61, .putfield 33, 3), (64, .aload_n 0, 1)]
theorem tkX9_init_0 : ∀ q ∈ tbX9_init_0, decode cX9_init q.1 = .ok q.2 := by decide +kernel
theorem dxX9_init_0 (i : Nat) {pc : Nat} {ins : Instr} {len : Nat} (h : tbX9_init_0[i]? = some (pc, ins, len)) : decode cX9_init pc = .ok (ins, len) := tkX9_init_0 (pc, ins, len) (List.mem_of_getElem? h)
def tbX9_init_1 : List (Nat × Instr × Nat) := [(65, .bipush 8, 2), (67, .newarray .int, 2), (69, .putfield 36, 3), (72, .aload_n 0, 1), (73, .sipush 512, 3), (76, .newarray .long, 2), (78, .putfield 39, 3), (81, .aload_n 0, 1), (82, .aload_n 1, 1), (83, .putfield 43, 3), (86, .return_, 1)]
theorem tkX9_init_1 : ∀ q ∈ tbX9_init_1, decode cX9_init q.1 = .ok q.2 := by decide +kernel
theorem dxX9_init_1 (i : Nat) {pc : Nat} {ins : Instr} {len : Nat} (h : tbX9_init_1[i]? = some (pc, ins, len)) : decode cX9_init pc = .ok (ins, len) := tkX9_init_1 (pc, ins, len) (List.mem_of_getElem? h)
def k9 (σ : PS) (o a : Nat) (p0 : Nat) : PS := (sq (sq (nK (sq (nK (sq (nK (sq (nK (sq (nK (sq (nM (sq (nK (sq (nK (sq (nK σ a (.inr (0, 16))) o 5 (some a)) (a + 1) (.inr (0, 16))) o 6 (some (a + 1))) (a + 2) (.inr (4, 32))) o 8 (some (a + 2))) (a + 3) 8 8) o 9 (some (a + 3))) (a + 12) (.inr (0, 8))) o 10 (some (a + 12))) (a + 13) (.inr (0, 8))) o 11 (some (a + 13))) (a + 14) (.inr (0, 8))) o 12 (some (a + 14))) (a + 15) (.inr (0, 8))) o 13 (some (a + 15))) (a + 16) (.inr (1, 512))) o 15 (some (a + 16))) o 0 (some p0))
theorem ct_9 {g : GV} {d o a p0 : Nat} {σ : PS} (ho : o < a) (ha : nx σ = a) (hk : kd σ o = some (.inl 9)) : CtI g yX9_init cX9_init 2 d 17 680 [.ref o, .ref p0] σ (fun s => s = k9 σ o a p0) := by
  refine x_entryI (a0 := a) (L := [some (.ref o), some (.ref p0)]) pn_9 rfl ha (Nat.le_of_ble_eq_true rfl) ⟨0, rfl⟩ ?_
  show X g (ZI g a 17 680 _) RX9 cX9_init 2 _ 17 680 0 0 0 _ [] σ
  refine x_aload_n (i := 0) (dxX9_init_0 0 rfl) rfl rfl ?_
  refine x_objI gw_459 (Nat.le_of_ble_eq_true rfl) (dxX9_init_0 1 rfl) ?_
  refine x_aload_n (i := 0) (dxX9_init_0 2 rfl) rfl rfl ?_
  refine x_bipush (v := 16) (dxX9_init_0 3 rfl) rfl ?_
  refine x_newA (atype := .int) (t := 0) (z := 16) (a := a) (Nat.le_of_ble_eq_true rfl) rfl gw_169 (by decide) (by decide) (Nat.le_of_ble_eq_true rfl) ha (dxX9_init_0 4 rfl) (Nat.le_of_ble_eq_true rfl) (Nat.le_of_ble_eq_true rfl) ?_
  replace hk := kN (a := a) (q := .inr (0, 16)) hk (by omega)
  refine x_putF (ci := 9) (fk := 5) (C := RX9) (T := TX9) (N := 16) ZI.nm rfl rfl (Nat.le_of_ble_eq_true rfl) lay_9 gw_470 rfl rfl tyX9 tyX9_ok nmX9 hk rfl rfl (fun _ => rfl) (dxX9_init_0 5 rfl) ?_
  replace hk := kQ (b := o) (i := 5) (v := some a) hk
  refine x_aload_n (i := 0) (dxX9_init_0 6 rfl) rfl rfl ?_
  refine x_bipush (v := 16) (dxX9_init_0 7 rfl) rfl ?_
  refine x_newA (atype := .int) (t := 0) (z := 16) (a := (a + 1)) (Nat.le_of_ble_eq_true rfl) rfl gw_169 (by decide) (by decide) (Nat.le_of_ble_eq_true rfl) rfl (dxX9_init_0 8 rfl) (Nat.le_of_ble_eq_true rfl) (Nat.le_of_ble_eq_true rfl) ?_
  replace hk := kN (a := (a + 1)) (q := .inr (0, 16)) hk (by omega)
  refine x_putF (ci := 9) (fk := 6) (C := RX9) (T := TX9) (N := 16) ZI.nm rfl rfl (Nat.le_of_ble_eq_true rfl) lay_9 gw_471 rfl rfl tyX9 tyX9_ok nmX9 hk rfl rfl (fun _ => rfl) (dxX9_init_0 9 rfl) ?_
  replace hk := kQ (b := o) (i := 6) (v := some (a + 1)) hk
  refine x_aload_n (i := 0) (dxX9_init_0 10 rfl) rfl rfl ?_
  refine x_bipush (v := 32) (dxX9_init_0 11 rfl) rfl ?_
  refine x_newA (atype := .boolean) (t := 4) (z := 32) (a := (a + 2)) (Nat.le_of_ble_eq_true rfl) rfl gw_514 (by decide) (by decide) (Nat.le_of_ble_eq_true rfl) rfl (dxX9_init_0 12 rfl) (Nat.le_of_ble_eq_true rfl) (Nat.le_of_ble_eq_true rfl) ?_
  replace hk := kN (a := (a + 2)) (q := .inr (4, 32)) hk (by omega)
  refine x_putF (ci := 9) (fk := 8) (C := RX9) (T := TX9) (N := 16) ZI.nm rfl rfl (Nat.le_of_ble_eq_true rfl) lay_9 gw_473 rfl rfl tyX9 tyX9_ok nmX9 hk rfl rfl (fun _ => rfl) (dxX9_init_0 13 rfl) ?_
  replace hk := kQ (b := o) (i := 8) (v := some (a + 2)) hk
  refine x_aload_n (i := 0) (dxX9_init_0 14 rfl) rfl rfl ?_
  refine x_bipush (v := 8) (dxX9_init_0 15 rfl) rfl ?_
  refine x_bipush (v := 8) (dxX9_init_0 16 rfl) rfl ?_
  refine x_mna (z := 8) (y := 8) (a := (a + 3)) gw_460 (by decide) (by decide) (by decide) (by decide) (Nat.le_of_ble_eq_true rfl) (Nat.le_of_ble_eq_true rfl) rfl (dxX9_init_0 17 rfl) (Nat.le_of_ble_eq_true rfl) (Nat.le_of_ble_eq_true rfl) ?_
  replace hk := kM (a := (a + 3)) (z := 8) (y := 8) hk (by omega)
  refine x_putF (ci := 9) (fk := 9) (C := RX9) (T := TX9) (N := 16) ZI.nm rfl rfl (Nat.le_of_ble_eq_true rfl) lay_9 gw_474 rfl rfl tyX9 tyX9_ok nmX9 hk rfl rfl (fun _ => rfl) (dxX9_init_0 18 rfl) ?_
  replace hk := kQ (b := o) (i := 9) (v := some (a + 3)) hk
  refine x_aload_n (i := 0) (dxX9_init_0 19 rfl) rfl rfl ?_
  refine x_bipush (v := 8) (dxX9_init_0 20 rfl) rfl ?_
  refine x_newA (atype := .int) (t := 0) (z := 8) (a := (a + 12)) (Nat.le_of_ble_eq_true rfl) rfl gw_169 (by decide) (by decide) (Nat.le_of_ble_eq_true rfl) rfl (dxX9_init_0 21 rfl) (Nat.le_of_ble_eq_true rfl) (Nat.le_of_ble_eq_true rfl) ?_
  replace hk := kN (a := (a + 12)) (q := .inr (0, 8)) hk (by omega)
  refine x_putF (ci := 9) (fk := 10) (C := RX9) (T := TX9) (N := 16) ZI.nm rfl rfl (Nat.le_of_ble_eq_true rfl) lay_9 gw_475 rfl rfl tyX9 tyX9_ok nmX9 hk rfl rfl (fun _ => rfl) (dxX9_init_0 22 rfl) ?_
  replace hk := kQ (b := o) (i := 10) (v := some (a + 12)) hk
  refine x_aload_n (i := 0) (dxX9_init_0 23 rfl) rfl rfl ?_
  refine x_bipush (v := 8) (dxX9_init_0 24 rfl) rfl ?_
  refine x_newA (atype := .int) (t := 0) (z := 8) (a := (a + 13)) (Nat.le_of_ble_eq_true rfl) rfl gw_169 (by decide) (by decide) (Nat.le_of_ble_eq_true rfl) rfl (dxX9_init_0 25 rfl) (Nat.le_of_ble_eq_true rfl) (Nat.le_of_ble_eq_true rfl) ?_
  replace hk := kN (a := (a + 13)) (q := .inr (0, 8)) hk (by omega)
  refine x_putF (ci := 9) (fk := 11) (C := RX9) (T := TX9) (N := 16) ZI.nm rfl rfl (Nat.le_of_ble_eq_true rfl) lay_9 gw_476 rfl rfl tyX9 tyX9_ok nmX9 hk rfl rfl (fun _ => rfl) (dxX9_init_0 26 rfl) ?_
  replace hk := kQ (b := o) (i := 11) (v := some (a + 13)) hk
  refine x_aload_n (i := 0) (dxX9_init_0 27 rfl) rfl rfl ?_
  refine x_bipush (v := 8) (dxX9_init_0 28 rfl) rfl ?_
  refine x_newA (atype := .int) (t := 0) (z := 8) (a := (a + 14)) (Nat.le_of_ble_eq_true rfl) rfl gw_169 (by decide) (by decide) (Nat.le_of_ble_eq_true rfl) rfl (dxX9_init_0 29 rfl) (Nat.le_of_ble_eq_true rfl) (Nat.le_of_ble_eq_true rfl) ?_
  replace hk := kN (a := (a + 14)) (q := .inr (0, 8)) hk (by omega)
  refine x_putF (ci := 9) (fk := 12) (C := RX9) (T := TX9) (N := 16) ZI.nm rfl rfl (Nat.le_of_ble_eq_true rfl) lay_9 gw_477 rfl rfl tyX9 tyX9_ok nmX9 hk rfl rfl (fun _ => rfl) (dxX9_init_0 30 rfl) ?_
  replace hk := kQ (b := o) (i := 12) (v := some (a + 14)) hk
  refine x_aload_n (i := 0) (dxX9_init_0 31 rfl) rfl rfl ?_
  refine x_bipush (v := 8) (dxX9_init_1 0 rfl) rfl ?_
  refine x_newA (atype := .int) (t := 0) (z := 8) (a := (a + 15)) (Nat.le_of_ble_eq_true rfl) rfl gw_169 (by decide) (by decide) (Nat.le_of_ble_eq_true rfl) rfl (dxX9_init_1 1 rfl) (Nat.le_of_ble_eq_true rfl) (Nat.le_of_ble_eq_true rfl) ?_
  replace hk := kN (a := (a + 15)) (q := .inr (0, 8)) hk (by omega)
  refine x_putF (ci := 9) (fk := 13) (C := RX9) (T := TX9) (N := 16) ZI.nm rfl rfl (Nat.le_of_ble_eq_true rfl) lay_9 gw_478 rfl rfl tyX9 tyX9_ok nmX9 hk rfl rfl (fun _ => rfl) (dxX9_init_1 2 rfl) ?_
  replace hk := kQ (b := o) (i := 13) (v := some (a + 15)) hk
  refine x_aload_n (i := 0) (dxX9_init_1 3 rfl) rfl rfl ?_
  refine x_sipush (v := 512) (dxX9_init_1 4 rfl) rfl ?_
  refine x_newA (atype := .long) (t := 1) (z := 512) (a := (a + 16)) (Nat.le_of_ble_eq_true rfl) rfl gw_170 (by decide) (by decide) (Nat.le_of_ble_eq_true rfl) rfl (dxX9_init_1 5 rfl) (Nat.le_of_ble_eq_true rfl) (Nat.le_of_ble_eq_true rfl) ?_
  replace hk := kN (a := (a + 16)) (q := .inr (1, 512)) hk (by omega)
  refine x_putF (ci := 9) (fk := 15) (C := RX9) (T := TX9) (N := 16) ZI.nm rfl rfl (Nat.le_of_ble_eq_true rfl) lay_9 gw_480 rfl rfl tyX9 tyX9_ok nmX9 hk rfl rfl (fun _ => rfl) (dxX9_init_1 6 rfl) ?_
  replace hk := kQ (b := o) (i := 15) (v := some (a + 16)) hk
  refine x_aload_n (i := 0) (dxX9_init_1 7 rfl) rfl rfl ?_
  refine x_aload_n (i := 1) (dxX9_init_1 8 rfl) rfl rfl ?_
  refine x_putF (ci := 9) (fk := 0) (C := RX9) (T := TX9) (N := 16) ZI.nm rfl rfl (Nat.le_of_ble_eq_true rfl) lay_9 gw_461 rfl rfl tyX9 tyX9_ok nmX9 hk rfl rfl (fun _ => rfl) (dxX9_init_1 9 rfl) ?_
  replace hk := kQ (b := o) (i := 0) (v := some p0) hk
  exact x_vretI (dxX9_init_1 10 rfl) rfl
theorem kk_9 {σ : PS} {o a b p0 : Nat} {q : Option KD} (h : kd σ b = q) (hb : b < a) : kd (k9 σ o a p0) b = q := by
  exact (kQ (kQ (kN (kQ (kN (kQ (kN (kQ (kN (kQ (kN (kQ (kM (kQ (kN (kQ (kN (kQ (kN h (by omega))) (by omega))) (by omega))) (by omega))) (by omega))) (by omega))) (by omega))) (by omega))) (by omega))))
