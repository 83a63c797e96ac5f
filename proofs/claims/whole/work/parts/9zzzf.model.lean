/-! ===== the two big constructors (written by wip/gen/vci.py) ===== -/
theorem gw_857 : Cond.arrayClass .byte ∈ lwG := gw 857 (by decide +kernel) rfl
theorem gw_1206 : Cond.methodLink RX12 1 Lib.objectInit ∈ lwG := gw 1206 (by decide +kernel) rfl
def tbX12_init_0 : List (Nat × Instr × Nat) := [(0, .aload_n 0, 1), (1, .invokespecial 1, 3), (4, .aload_n 0, 1), (5, .sipush 1000, 3), (8, .newarray .int, 2), (10, .putfield 7, 3), (13, .aload_n 0, 1), (14, .sipush 200, 3), (17, .newarray .int, 2), (19, .putfield 13, 3), (22, .aload_n 0, 1), (23, .sipush 200, 3), (26, .newarray .int, 2), (28, .putfield 16, 3), (31, .aload_n 0, 1), (32, .sipush 200, 3), (35, .newarray .int, 2), (37, .putfield 19, 3), (40, .aload_n 0, 1), (41, .sipush 200, 3), (44, .newarray .int, 2), (46, .putfield 22, 3), (49, .aload_n 0, 1), (50, .sipush 200, 3), (53, .newarray .int, 2), (55, .putfield 25, 3), (58, .aload_n 0, 1), (59, .sipush 1200, 3), (62, .newarray .int, 2), (64, .putfield 28, 3), (67, .aload_n 0, 1), (68, .sipush 1200, 3)]
theorem tkX12_init_0 : ∀ q ∈ tbX12_init_0, decode cX12_init q.1 = .ok q.2 := by decide +kernel
theorem dxX12_init_0 (i : Nat) {pc : Nat} {ins : Instr} {len : Nat} (h : tbX12_init_0[i]? = some (pc, ins, len)) : decode cX12_init pc = .ok (ins, len) := tkX12_init_0 (pc, ins, len) (List.mem_of_getElem? h)
def tbX12_init_1 : List (Nat × Instr × Nat) := [(71, .newarray .int, 2), (73, .putfield 31, 3), (76, .aload_n 0, 1), (77, .sipush 1000, 3), (80, .newarray .int, 2), (82, .putfield 34, 3), (85, .aload_n 0, 1), (86, .bipush 8, 2), (88, .newarray .long, 2), (90, .putfield 37, 3), (93, .aload_n 0, 1), (94, .bipush 7, 2), (96, .newarray .int, 2), (98, .putfield 41, 3), (101, .aload_n 0, 1), (102, .bipush 7, 2), (104, .newarray .int, 2), (106, .putfield 44, 3), (109, .aload_n 0, 1), (110, .bipush 7, 2), (112, .newarray .int, 2), (114, .putfield 47, 3), (117, .aload_n 0, 1), (118, .bipush 7, 2), (120, .newarray .int, 2), (122, .putfield 50, 3), (125, .aload_n 0, 1), (126, .bipush 7, 2), (128, .newarray .int, 2), (130, .putfield 53, 3), (133, .aload_n 0, 1), (134, .bipush 7, 2)]
theorem tkX12_init_1 : ∀ q ∈ tbX12_init_1, decode cX12_init q.1 = .ok q.2 := by decide +kernel
theorem dxX12_init_1 (i : Nat) {pc : Nat} {ins : Instr} {len : Nat} (h : tbX12_init_1[i]? = some (pc, ins, len)) : decode cX12_init pc = .ok (ins, len) := tkX12_init_1 (pc, ins, len) (List.mem_of_getElem? h)
def tbX12_init_2 : List (Nat × Instr × Nat) := [(136, .newarray .int, 2), (138, .putfield 56, 3), (141, .aload_n 0, 1), (142, .bipush 7, 2), (144, .newarray .int, 2), (146, .putfield 59, 3), (149, .aload_n 0, 1), (150, .bipush 7, 2), (152, .newarray .int, 2), (154, .putfield 62, 3), (157, .aload_n 0, 1), (158, .bipush 7, 2), (160, .newarray .int, 2), (162, .putfield 65, 3), (165, .aload_n 0, 1), (166, .bipush 20, 2), (168, .newarray .int, 2), (170, .putfield 68, 3), (173, .aload_n 0, 1), (174, .sipush 256, 3), (177, .newarray .boolean, 2), (179, .putfield 71, 3), (182, .aload_n 0, 1), (183, .bipush 10, 2), (185, .newarray .int, 2), (187, .putfield 75, 3), (190, .aload_n 0, 1), (191, .bipush 10, 2), (193, .newarray .int, 2), (195, .putfield 78, 3), (198, .aload_n 0, 1), (199, .bipush 24, 2)]
theorem tkX12_init_2 : ∀ q ∈ tbX12_init_2, decode cX12_init q.1 = .ok q.2 := by decide +kernel
theorem dxX12_init_2 (i : Nat) {pc : Nat} {ins : Instr} {len : Nat} (h : tbX12_init_2[i]? = some (pc, ins, len)) : decode cX12_init pc = .ok (ins, len) := tkX12_init_2 (pc, ins, len) (List.mem_of_getElem? h)
def tbX12_init_3 : List (Nat × Instr × Nat) := [(201, .newarray .int, 2), (203, .putfield 81, 3), (206, .aload_n 0, 1), (207, .bipush 24, 2), (209, .newarray .int, 2), (211, .putfield 84, 3), (214, .aload_n 0, 1), (215, .bipush 24, 2), (217, .newarray .int, 2), (219, .putfield 87, 3), (222, .aload_n 0, 1), (223, .bipush 40, 2), (225, .newarray .int, 2), (227, .putfield 90, 3), (230, .aload_n 0, 1), (231, .bipush 10, 2), (233, .newarray .int, 2), (235, .putfield 93, 3), (238, .aload_n 0, 1), (239, .bipush 10, 2), (241, .newarray .int, 2), (243, .putfield 96, 3), (246, .aload_n 0, 1), (247, .bipush 24, 2), (249, .newarray .int, 2), (251, .putfield 99, 3), (254, .aload_n 0, 1), (255, .bipush 24, 2), (257, .newarray .int, 2), (259, .putfield 102, 3), (262, .aload_n 0, 1), (263, .ldc 105, 2)]
theorem tkX12_init_3 : ∀ q ∈ tbX12_init_3, decode cX12_init q.1 = .ok q.2 := by decide +kernel
theorem dxX12_init_3 (i : Nat) {pc : Nat} {ins : Instr} {len : Nat} (h : tbX12_init_3[i]? = some (pc, ins, len)) : decode cX12_init pc = .ok (ins, len) := tkX12_init_3 (pc, ins, len) (List.mem_of_getElem? h)
def tbX12_init_4 : List (Nat × Instr × Nat) := [(265, .newarray .byte, 2), (267, .putfield 106, 3), (270, .aload_n 0, 1), (271, .bipush 24, 2), (273, .newarray .int, 2), (275, .putfield 110, 3), (278, .aload_n 0, 1), (279, .sipush 960, 3), (282, .newarray .byte, 2), (284, .putfield 113, 3), (287, .aload_n 0, 1), (288, .sipush 960, 3), (291, .newarray .byte, 2), (293, .putfield 116, 3), (296, .aload_n 0, 1), (297, .bipush 80, 2), (299, .newarray .int, 2), (301, .putfield 119, 3), (304, .aload_n 0, 1), (305, .bipush 10, 2), (307, .newarray .int, 2), (309, .putfield 122, 3), (312, .aload_n 0, 1), (313, .bipush 10, 2), (315, .newarray .int, 2), (317, .putfield 125, 3), (320, .aload_n 0, 1), (321, .bipush 10, 2), (323, .newarray .int, 2), (325, .putfield 128, 3), (328, .aload_n 0, 1), (329, .sipush 300, 3)]
theorem tkX12_init_4 : ∀ q ∈ tbX12_init_4, decode cX12_init q.1 = .ok q.2 := by decide +kernel
theorem dxX12_init_4 (i : Nat) {pc : Nat} {ins : Instr} {len : Nat} (h : tbX12_init_4[i]? = some (pc, ins, len)) : decode cX12_init pc = .ok (ins, len) := tkX12_init_4 (pc, ins, len) (List.mem_of_getElem? h)
def tbX12_init_5 : List (Nat × Instr × Nat) := [(332, .newarray .int, 2), (334, .putfield 131, 3), (337, .aload_n 0, 1), (338, .bipush 40, 2), (340, .newarray .int, 2), (342, .putfield 134, 3), (345, .aload_n 0, 1), (346, .bipush 10, 2), (348, .newarray .int, 2), (350, .putfield 137, 3), (353, .aload_n 0, 1), (354, .bipush 10, 2), (356, .newarray .int, 2), (358, .putfield 140, 3), (361, .aload_n 0, 1), (362, .bipush 10, 2), (364, .newarray .int, 2), (366, .putfield 143, 3), (369, .aload_n 0, 1), (370, .bipush 10, 2), (372, .newarray .int, 2), (374, .putfield 146, 3), (377, .aload_n 0, 1), (378, .sipush 12000, 3), (381, .newarray .long, 2), (383, .putfield 149, 3), (386, .aload_n 0, 1), (387, .ldc 152, 2), (389, .newarray .int, 2), (391, .putfield 153, 3), (394, .aload_n 0, 1), (395, .bipush 10, 2)]
theorem tkX12_init_5 : ∀ q ∈ tbX12_init_5, decode cX12_init q.1 = .ok q.2 := by decide +kernel
theorem dxX12_init_5 (i : Nat) {pc : Nat} {ins : Instr} {len : Nat} (h : tbX12_init_5[i]? = some (pc, ins, len)) : decode cX12_init pc = .ok (ins, len) := tkX12_init_5 (pc, ins, len) (List.mem_of_getElem? h)
def tbX12_init_6 : List (Nat × Instr × Nat) := [(397, .newarray .int, 2), (399, .putfield 156, 3), (402, .aload_n 0, 1), (403, .bipush 10, 2), (405, .newarray .int, 2), (407, .putfield 159, 3), (410, .aload_n 0, 1), (411, .iconst 4, 1), (412, .newarray .boolean, 2), (414, .putfield 162, 3), (417, .aload_n 0, 1), (418, .iconst 4, 1), (419, .newarray .int, 2), (421, .putfield 165, 3), (424, .aload_n 0, 1), (425, .bipush 40, 2), (427, .newarray .int, 2), (429, .putfield 168, 3), (432, .aload_n 0, 1), (433, .bipush 40, 2), (435, .newarray .int, 2), (437, .putfield 171, 3), (440, .aload_n 0, 1), (441, .bipush 96, 2), (443, .newarray .int, 2), (445, .putfield 174, 3), (448, .aload_n 0, 1), (449, .iconst 1, 1), (450, .putfield 177, 3), (453, .aload_n 0, 1), (454, .invokevirtual 181, 3), (457, .return_, 1)]
theorem tkX12_init_6 : ∀ q ∈ tbX12_init_6, decode cX12_init q.1 = .ok q.2 := by decide +kernel
theorem dxX12_init_6 (i : Nat) {pc : Nat} {ins : Instr} {len : Nat} (h : tbX12_init_6[i]? = some (pc, ins, len)) : decode cX12_init pc = .ok (ins, len) := tkX12_init_6 (pc, ins, len) (List.mem_of_getElem? h)
def k12 (σ : PS) : PS := (si (sq (nK (sq (nK (sq (nK (sq (nK (sq (nK (sq (nK (sq (nK (sq (nK (sq (nK (sq (nK (sq (nK (sq (nK (sq (nK (sq (nK (sq (nK (sq (nK (sq (nK (sq (nK (sq (nK (sq (nK (sq (nK (sq (nK (sq (nK (sq (nK (sq (nK (sq (nK (sq (nK (sq (nK (sq (nK (sq (nK (sq (nK (sq (nK (sq (nK (sq (nK (sq (nK (sq (nK (sq (nK (sq (nK (sq (nK (sq (nK (sq (nK (sq (nK (sq (nK (sq (nK (sq (nK (sq (nK (sq (nK (sq (nK (sq (nK (sq (nK (sq (nK (sq (nK (sq (nK (sq (nK σ 180 (.inr (0, 1000))) 179 2 (some 180)) 181 (.inr (0, 200))) 179 11 (some 181)) 182 (.inr (0, 200))) 179 12 (some 182)) 183 (.inr (0, 200))) 179 13 (some 183)) 184 (.inr (0, 200))) 179 14 (some 184)) 185 (.inr (0, 200))) 179 15 (some 185)) 186 (.inr (0, 1200))) 179 16 (some 186)) 187 (.inr (0, 1200))) 179 17 (some 187)) 188 (.inr (0, 1000))) 179 18 (some 188)) 189 (.inr (1, 8))) 179 19 (some 189)) 190 (.inr (0, 7))) 179 22 (some 190)) 191 (.inr (0, 7))) 179 23 (some 191)) 192 (.inr (0, 7))) 179 24 (some 192)) 193 (.inr (0, 7))) 179 25 (some 193)) 194 (.inr (0, 7))) 179 26 (some 194)) 195 (.inr (0, 7))) 179 27 (some 195)) 196 (.inr (0, 7))) 179 28 (some 196)) 197 (.inr (0, 7))) 179 29 (some 197)) 198 (.inr (0, 7))) 179 30 (some 198)) 199 (.inr (0, 20))) 179 31 (some 199)) 200 (.inr (4, 256))) 179 33 (some 200)) 201 (.inr (0, 10))) 179 36 (some 201)) 202 (.inr (0, 10))) 179 37 (some 202)) 203 (.inr (0, 24))) 179 39 (some 203)) 204 (.inr (0, 24))) 179 40 (some 204)) 205 (.inr (0, 24))) 179 41 (some 205)) 206 (.inr (0, 40))) 179 42 (some 206)) 207 (.inr (0, 10))) 179 43 (some 207)) 208 (.inr (0, 10))) 179 44 (some 208)) 209 (.inr (0, 24))) 179 45 (some 209)) 210 (.inr (0, 24))) 179 46 (some 210)) 211 (.inr (2, 48048))) 179 49 (some 211)) 212 (.inr (0, 24))) 179 50 (some 212)) 213 (.inr (2, 960))) 179 53 (some 213)) 214 (.inr (2, 960))) 179 54 (some 214)) 215 (.inr (0, 80))) 179 55 (some 215)) 216 (.inr (0, 10))) 179 56 (some 216)) 217 (.inr (0, 10))) 179 57 (some 217)) 218 (.inr (0, 10))) 179 58 (some 218)) 219 (.inr (0, 300))) 179 60 (some 219)) 220 (.inr (0, 40))) 179 68 (some 220)) 221 (.inr (0, 10))) 179 69 (some 221)) 222 (.inr (0, 10))) 179 70 (some 222)) 223 (.inr (0, 10))) 179 71 (some 223)) 224 (.inr (0, 10))) 179 72 (some 224)) 225 (.inr (1, 12000))) 179 76 (some 225)) 226 (.inr (0, 32768))) 179 77 (some 226)) 227 (.inr (0, 10))) 179 78 (some 227)) 228 (.inr (0, 10))) 179 79 (some 228)) 229 (.inr (4, 4))) 179 80 (some 229)) 230 (.inr (0, 4))) 179 81 (some 230)) 231 (.inr (0, 40))) 179 82 (some 231)) 232 (.inr (0, 40))) 179 83 (some 232)) 233 (.inr (0, 96))) 179 84 (some 233)) 179 35 1)
theorem ct_12 {g : GV} {d : Nat} {P : PS → Prop} {σ : PS} (ha : nx σ = 180) (hk : kd σ 179 = some (.inl 12)) (hT : CX12_shapes g d [.ref 179] (k12 σ) P) : CtI g yX12_init cX12_init 1 (d + 1) 54 101401 [.ref 179] σ (fun s => nx s = 234 ∧ P s) := by
  refine x_entryI (a0 := 180) (L := [some (.ref 179)]) pn_12 rfl ha (Nat.le_of_ble_eq_true rfl) ⟨0, rfl⟩ ?_
  show X g (ZI g 180 54 101401 _) RX12 cX12_init 1 _ 54 101401 0 0 0 _ [] σ
  refine x_aload_n (i := 0) (dxX12_init_0 0 rfl) rfl rfl ?_
  refine x_objI gw_1206 (Nat.le_of_ble_eq_true rfl) (dxX12_init_0 1 rfl) ?_
  refine x_aload_n (i := 0) (dxX12_init_0 2 rfl) rfl rfl ?_
  refine x_sipush (v := 1000) (dxX12_init_0 3 rfl) rfl ?_
  refine x_newA (atype := .int) (t := 0) (z := 1000) (a := 180) (Nat.le_of_ble_eq_true rfl) rfl gw_169 (by decide) (by decide) (Nat.le_of_ble_eq_true rfl) ha (dxX12_init_0 4 rfl) (Nat.le_of_ble_eq_true rfl) (Nat.le_of_ble_eq_true rfl) ?_
  replace hk := kN (a := 180) (q := .inr (0, 1000)) hk (by omega)
  refine x_putF (ci := 12) (fk := 2) (C := RX12) (T := TX12) (N := 85) ZI.nm rfl rfl (Nat.le_of_ble_eq_true rfl) lay_12 gw_1229 rfl rfl tyX12 tyX12_ok nmX12 hk rfl rfl (fun _ => rfl) (dxX12_init_0 5 rfl) ?_
  replace hk := kQ (b := 179) (i := 2) (v := some 180) hk
  refine x_aload_n (i := 0) (dxX12_init_0 6 rfl) rfl rfl ?_
  refine x_sipush (v := 200) (dxX12_init_0 7 rfl) rfl ?_
  refine x_newA (atype := .int) (t := 0) (z := 200) (a := 181) (Nat.le_of_ble_eq_true rfl) rfl gw_169 (by decide) (by decide) (Nat.le_of_ble_eq_true rfl) rfl (dxX12_init_0 8 rfl) (Nat.le_of_ble_eq_true rfl) (Nat.le_of_ble_eq_true rfl) ?_
  replace hk := kN (a := 181) (q := .inr (0, 200)) hk (by omega)
  refine x_putF (ci := 12) (fk := 11) (C := RX12) (T := TX12) (N := 85) ZI.nm rfl rfl (Nat.le_of_ble_eq_true rfl) lay_12 gw_1238 rfl rfl tyX12 tyX12_ok nmX12 hk rfl rfl (fun _ => rfl) (dxX12_init_0 9 rfl) ?_
  replace hk := kQ (b := 179) (i := 11) (v := some 181) hk
  refine x_aload_n (i := 0) (dxX12_init_0 10 rfl) rfl rfl ?_
  refine x_sipush (v := 200) (dxX12_init_0 11 rfl) rfl ?_
  refine x_newA (atype := .int) (t := 0) (z := 200) (a := 182) (Nat.le_of_ble_eq_true rfl) rfl gw_169 (by decide) (by decide) (Nat.le_of_ble_eq_true rfl) rfl (dxX12_init_0 12 rfl) (Nat.le_of_ble_eq_true rfl) (Nat.le_of_ble_eq_true rfl) ?_
  replace hk := kN (a := 182) (q := .inr (0, 200)) hk (by omega)
  refine x_putF (ci := 12) (fk := 12) (C := RX12) (T := TX12) (N := 85) ZI.nm rfl rfl (Nat.le_of_ble_eq_true rfl) lay_12 gw_1239 rfl rfl tyX12 tyX12_ok nmX12 hk rfl rfl (fun _ => rfl) (dxX12_init_0 13 rfl) ?_
  replace hk := kQ (b := 179) (i := 12) (v := some 182) hk
  refine x_aload_n (i := 0) (dxX12_init_0 14 rfl) rfl rfl ?_
  refine x_sipush (v := 200) (dxX12_init_0 15 rfl) rfl ?_
  refine x_newA (atype := .int) (t := 0) (z := 200) (a := 183) (Nat.le_of_ble_eq_true rfl) rfl gw_169 (by decide) (by decide) (Nat.le_of_ble_eq_true rfl) rfl (dxX12_init_0 16 rfl) (Nat.le_of_ble_eq_true rfl) (Nat.le_of_ble_eq_true rfl) ?_
  replace hk := kN (a := 183) (q := .inr (0, 200)) hk (by omega)
  refine x_putF (ci := 12) (fk := 13) (C := RX12) (T := TX12) (N := 85) ZI.nm rfl rfl (Nat.le_of_ble_eq_true rfl) lay_12 gw_1240 rfl rfl tyX12 tyX12_ok nmX12 hk rfl rfl (fun _ => rfl) (dxX12_init_0 17 rfl) ?_
  replace hk := kQ (b := 179) (i := 13) (v := some 183) hk
  refine x_aload_n (i := 0) (dxX12_init_0 18 rfl) rfl rfl ?_
  refine x_sipush (v := 200) (dxX12_init_0 19 rfl) rfl ?_
  refine x_newA (atype := .int) (t := 0) (z := 200) (a := 184) (Nat.le_of_ble_eq_true rfl) rfl gw_169 (by decide) (by decide) (Nat.le_of_ble_eq_true rfl) rfl (dxX12_init_0 20 rfl) (Nat.le_of_ble_eq_true rfl) (Nat.le_of_ble_eq_true rfl) ?_
  replace hk := kN (a := 184) (q := .inr (0, 200)) hk (by omega)
  refine x_putF (ci := 12) (fk := 14) (C := RX12) (T := TX12) (N := 85) ZI.nm rfl rfl (Nat.le_of_ble_eq_true rfl) lay_12 gw_1241 rfl rfl tyX12 tyX12_ok nmX12 hk rfl rfl (fun _ => rfl) (dxX12_init_0 21 rfl) ?_
  replace hk := kQ (b := 179) (i := 14) (v := some 184) hk
  refine x_aload_n (i := 0) (dxX12_init_0 22 rfl) rfl rfl ?_
  refine x_sipush (v := 200) (dxX12_init_0 23 rfl) rfl ?_
  refine x_newA (atype := .int) (t := 0) (z := 200) (a := 185) (Nat.le_of_ble_eq_true rfl) rfl gw_169 (by decide) (by decide) (Nat.le_of_ble_eq_true rfl) rfl (dxX12_init_0 24 rfl) (Nat.le_of_ble_eq_true rfl) (Nat.le_of_ble_eq_true rfl) ?_
  replace hk := kN (a := 185) (q := .inr (0, 200)) hk (by omega)
  refine x_putF (ci := 12) (fk := 15) (C := RX12) (T := TX12) (N := 85) ZI.nm rfl rfl (Nat.le_of_ble_eq_true rfl) lay_12 gw_1242 rfl rfl tyX12 tyX12_ok nmX12 hk rfl rfl (fun _ => rfl) (dxX12_init_0 25 rfl) ?_
  replace hk := kQ (b := 179) (i := 15) (v := some 185) hk
  refine x_aload_n (i := 0) (dxX12_init_0 26 rfl) rfl rfl ?_
  refine x_sipush (v := 1200) (dxX12_init_0 27 rfl) rfl ?_
  refine x_newA (atype := .int) (t := 0) (z := 1200) (a := 186) (Nat.le_of_ble_eq_true rfl) rfl gw_169 (by decide) (by decide) (Nat.le_of_ble_eq_true rfl) rfl (dxX12_init_0 28 rfl) (Nat.le_of_ble_eq_true rfl) (Nat.le_of_ble_eq_true rfl) ?_
  replace hk := kN (a := 186) (q := .inr (0, 1200)) hk (by omega)
  refine x_putF (ci := 12) (fk := 16) (C := RX12) (T := TX12) (N := 85) ZI.nm rfl rfl (Nat.le_of_ble_eq_true rfl) lay_12 gw_1243 rfl rfl tyX12 tyX12_ok nmX12 hk rfl rfl (fun _ => rfl) (dxX12_init_0 29 rfl) ?_
  replace hk := kQ (b := 179) (i := 16) (v := some 186) hk
  refine x_aload_n (i := 0) (dxX12_init_0 30 rfl) rfl rfl ?_
  refine x_sipush (v := 1200) (dxX12_init_0 31 rfl) rfl ?_
  refine x_newA (atype := .int) (t := 0) (z := 1200) (a := 187) (Nat.le_of_ble_eq_true rfl) rfl gw_169 (by decide) (by decide) (Nat.le_of_ble_eq_true rfl) rfl (dxX12_init_1 0 rfl) (Nat.le_of_ble_eq_true rfl) (Nat.le_of_ble_eq_true rfl) ?_
  replace hk := kN (a := 187) (q := .inr (0, 1200)) hk (by omega)
  refine x_putF (ci := 12) (fk := 17) (C := RX12) (T := TX12) (N := 85) ZI.nm rfl rfl (Nat.le_of_ble_eq_true rfl) lay_12 gw_1244 rfl rfl tyX12 tyX12_ok nmX12 hk rfl rfl (fun _ => rfl) (dxX12_init_1 1 rfl) ?_
  replace hk := kQ (b := 179) (i := 17) (v := some 187) hk
  refine x_aload_n (i := 0) (dxX12_init_1 2 rfl) rfl rfl ?_
  refine x_sipush (v := 1000) (dxX12_init_1 3 rfl) rfl ?_
  refine x_newA (atype := .int) (t := 0) (z := 1000) (a := 188) (Nat.le_of_ble_eq_true rfl) rfl gw_169 (by decide) (by decide) (Nat.le_of_ble_eq_true rfl) rfl (dxX12_init_1 4 rfl) (Nat.le_of_ble_eq_true rfl) (Nat.le_of_ble_eq_true rfl) ?_
  replace hk := kN (a := 188) (q := .inr (0, 1000)) hk (by omega)
  refine x_putF (ci := 12) (fk := 18) (C := RX12) (T := TX12) (N := 85) ZI.nm rfl rfl (Nat.le_of_ble_eq_true rfl) lay_12 gw_1245 rfl rfl tyX12 tyX12_ok nmX12 hk rfl rfl (fun _ => rfl) (dxX12_init_1 5 rfl) ?_
  replace hk := kQ (b := 179) (i := 18) (v := some 188) hk
  refine x_aload_n (i := 0) (dxX12_init_1 6 rfl) rfl rfl ?_
  refine x_bipush (v := 8) (dxX12_init_1 7 rfl) rfl ?_
  refine x_newA (atype := .long) (t := 1) (z := 8) (a := 189) (Nat.le_of_ble_eq_true rfl) rfl gw_170 (by decide) (by decide) (Nat.le_of_ble_eq_true rfl) rfl (dxX12_init_1 8 rfl) (Nat.le_of_ble_eq_true rfl) (Nat.le_of_ble_eq_true rfl) ?_
  replace hk := kN (a := 189) (q := .inr (1, 8)) hk (by omega)
  refine x_putF (ci := 12) (fk := 19) (C := RX12) (T := TX12) (N := 85) ZI.nm rfl rfl (Nat.le_of_ble_eq_true rfl) lay_12 gw_1246 rfl rfl tyX12 tyX12_ok nmX12 hk rfl rfl (fun _ => rfl) (dxX12_init_1 9 rfl) ?_
  replace hk := kQ (b := 179) (i := 19) (v := some 189) hk
  refine x_aload_n (i := 0) (dxX12_init_1 10 rfl) rfl rfl ?_
  refine x_bipush (v := 7) (dxX12_init_1 11 rfl) rfl ?_
  refine x_newA (atype := .int) (t := 0) (z := 7) (a := 190) (Nat.le_of_ble_eq_true rfl) rfl gw_169 (by decide) (by decide) (Nat.le_of_ble_eq_true rfl) rfl (dxX12_init_1 12 rfl) (Nat.le_of_ble_eq_true rfl) (Nat.le_of_ble_eq_true rfl) ?_
  replace hk := kN (a := 190) (q := .inr (0, 7)) hk (by omega)
  refine x_putF (ci := 12) (fk := 22) (C := RX12) (T := TX12) (N := 85) ZI.nm rfl rfl (Nat.le_of_ble_eq_true rfl) lay_12 gw_1249 rfl rfl tyX12 tyX12_ok nmX12 hk rfl rfl (fun _ => rfl) (dxX12_init_1 13 rfl) ?_
  replace hk := kQ (b := 179) (i := 22) (v := some 190) hk
  refine x_aload_n (i := 0) (dxX12_init_1 14 rfl) rfl rfl ?_
  refine x_bipush (v := 7) (dxX12_init_1 15 rfl) rfl ?_
  refine x_newA (atype := .int) (t := 0) (z := 7) (a := 191) (Nat.le_of_ble_eq_true rfl) rfl gw_169 (by decide) (by decide) (Nat.le_of_ble_eq_true rfl) rfl (dxX12_init_1 16 rfl) (Nat.le_of_ble_eq_true rfl) (Nat.le_of_ble_eq_true rfl) ?_
  replace hk := kN (a := 191) (q := .inr (0, 7)) hk (by omega)
  refine x_putF (ci := 12) (fk := 23) (C := RX12) (T := TX12) (N := 85) ZI.nm rfl rfl (Nat.le_of_ble_eq_true rfl) lay_12 gw_1250 rfl rfl tyX12 tyX12_ok nmX12 hk rfl rfl (fun _ => rfl) (dxX12_init_1 17 rfl) ?_
  replace hk := kQ (b := 179) (i := 23) (v := some 191) hk
  refine x_aload_n (i := 0) (dxX12_init_1 18 rfl) rfl rfl ?_
  refine x_bipush (v := 7) (dxX12_init_1 19 rfl) rfl ?_
  refine x_newA (atype := .int) (t := 0) (z := 7) (a := 192) (Nat.le_of_ble_eq_true rfl) rfl gw_169 (by decide) (by decide) (Nat.le_of_ble_eq_true rfl) rfl (dxX12_init_1 20 rfl) (Nat.le_of_ble_eq_true rfl) (Nat.le_of_ble_eq_true rfl) ?_
  replace hk := kN (a := 192) (q := .inr (0, 7)) hk (by omega)
  refine x_putF (ci := 12) (fk := 24) (C := RX12) (T := TX12) (N := 85) ZI.nm rfl rfl (Nat.le_of_ble_eq_true rfl) lay_12 gw_1251 rfl rfl tyX12 tyX12_ok nmX12 hk rfl rfl (fun _ => rfl) (dxX12_init_1 21 rfl) ?_
  replace hk := kQ (b := 179) (i := 24) (v := some 192) hk
  refine x_aload_n (i := 0) (dxX12_init_1 22 rfl) rfl rfl ?_
  refine x_bipush (v := 7) (dxX12_init_1 23 rfl) rfl ?_
  refine x_newA (atype := .int) (t := 0) (z := 7) (a := 193) (Nat.le_of_ble_eq_true rfl) rfl gw_169 (by decide) (by decide) (Nat.le_of_ble_eq_true rfl) rfl (dxX12_init_1 24 rfl) (Nat.le_of_ble_eq_true rfl) (Nat.le_of_ble_eq_true rfl) ?_
  replace hk := kN (a := 193) (q := .inr (0, 7)) hk (by omega)
  refine x_putF (ci := 12) (fk := 25) (C := RX12) (T := TX12) (N := 85) ZI.nm rfl rfl (Nat.le_of_ble_eq_true rfl) lay_12 gw_1252 rfl rfl tyX12 tyX12_ok nmX12 hk rfl rfl (fun _ => rfl) (dxX12_init_1 25 rfl) ?_
  replace hk := kQ (b := 179) (i := 25) (v := some 193) hk
  refine x_aload_n (i := 0) (dxX12_init_1 26 rfl) rfl rfl ?_
  refine x_bipush (v := 7) (dxX12_init_1 27 rfl) rfl ?_
  refine x_newA (atype := .int) (t := 0) (z := 7) (a := 194) (Nat.le_of_ble_eq_true rfl) rfl gw_169 (by decide) (by decide) (Nat.le_of_ble_eq_true rfl) rfl (dxX12_init_1 28 rfl) (Nat.le_of_ble_eq_true rfl) (Nat.le_of_ble_eq_true rfl) ?_
  replace hk := kN (a := 194) (q := .inr (0, 7)) hk (by omega)
  refine x_putF (ci := 12) (fk := 26) (C := RX12) (T := TX12) (N := 85) ZI.nm rfl rfl (Nat.le_of_ble_eq_true rfl) lay_12 gw_1253 rfl rfl tyX12 tyX12_ok nmX12 hk rfl rfl (fun _ => rfl) (dxX12_init_1 29 rfl) ?_
  replace hk := kQ (b := 179) (i := 26) (v := some 194) hk
  refine x_aload_n (i := 0) (dxX12_init_1 30 rfl) rfl rfl ?_
  refine x_bipush (v := 7) (dxX12_init_1 31 rfl) rfl ?_
  refine x_newA (atype := .int) (t := 0) (z := 7) (a := 195) (Nat.le_of_ble_eq_true rfl) rfl gw_169 (by decide) (by decide) (Nat.le_of_ble_eq_true rfl) rfl (dxX12_init_2 0 rfl) (Nat.le_of_ble_eq_true rfl) (Nat.le_of_ble_eq_true rfl) ?_
  replace hk := kN (a := 195) (q := .inr (0, 7)) hk (by omega)
  refine x_putF (ci := 12) (fk := 27) (C := RX12) (T := TX12) (N := 85) ZI.nm rfl rfl (Nat.le_of_ble_eq_true rfl) lay_12 gw_1254 rfl rfl tyX12 tyX12_ok nmX12 hk rfl rfl (fun _ => rfl) (dxX12_init_2 1 rfl) ?_
  replace hk := kQ (b := 179) (i := 27) (v := some 195) hk
  refine x_aload_n (i := 0) (dxX12_init_2 2 rfl) rfl rfl ?_
  refine x_bipush (v := 7) (dxX12_init_2 3 rfl) rfl ?_
  refine x_newA (atype := .int) (t := 0) (z := 7) (a := 196) (Nat.le_of_ble_eq_true rfl) rfl gw_169 (by decide) (by decide) (Nat.le_of_ble_eq_true rfl) rfl (dxX12_init_2 4 rfl) (Nat.le_of_ble_eq_true rfl) (Nat.le_of_ble_eq_true rfl) ?_
  replace hk := kN (a := 196) (q := .inr (0, 7)) hk (by omega)
  refine x_putF (ci := 12) (fk := 28) (C := RX12) (T := TX12) (N := 85) ZI.nm rfl rfl (Nat.le_of_ble_eq_true rfl) lay_12 gw_1255 rfl rfl tyX12 tyX12_ok nmX12 hk rfl rfl (fun _ => rfl) (dxX12_init_2 5 rfl) ?_
  replace hk := kQ (b := 179) (i := 28) (v := some 196) hk
  refine x_aload_n (i := 0) (dxX12_init_2 6 rfl) rfl rfl ?_
  refine x_bipush (v := 7) (dxX12_init_2 7 rfl) rfl ?_
  refine x_newA (atype := .int) (t := 0) (z := 7) (a := 197) (Nat.le_of_ble_eq_true rfl) rfl gw_169 (by decide) (by decide) (Nat.le_of_ble_eq_true rfl) rfl (dxX12_init_2 8 rfl) (Nat.le_of_ble_eq_true rfl) (Nat.le_of_ble_eq_true rfl) ?_
  replace hk := kN (a := 197) (q := .inr (0, 7)) hk (by omega)
  refine x_putF (ci := 12) (fk := 29) (C := RX12) (T := TX12) (N := 85) ZI.nm rfl rfl (Nat.le_of_ble_eq_true rfl) lay_12 gw_1256 rfl rfl tyX12 tyX12_ok nmX12 hk rfl rfl (fun _ => rfl) (dxX12_init_2 9 rfl) ?_
  replace hk := kQ (b := 179) (i := 29) (v := some 197) hk
  refine x_aload_n (i := 0) (dxX12_init_2 10 rfl) rfl rfl ?_
  refine x_bipush (v := 7) (dxX12_init_2 11 rfl) rfl ?_
  refine x_newA (atype := .int) (t := 0) (z := 7) (a := 198) (Nat.le_of_ble_eq_true rfl) rfl gw_169 (by decide) (by decide) (Nat.le_of_ble_eq_true rfl) rfl (dxX12_init_2 12 rfl) (Nat.le_of_ble_eq_true rfl) (Nat.le_of_ble_eq_true rfl) ?_
  replace hk := kN (a := 198) (q := .inr (0, 7)) hk (by omega)
  refine x_putF (ci := 12) (fk := 30) (C := RX12) (T := TX12) (N := 85) ZI.nm rfl rfl (Nat.le_of_ble_eq_true rfl) lay_12 gw_1257 rfl rfl tyX12 tyX12_ok nmX12 hk rfl rfl (fun _ => rfl) (dxX12_init_2 13 rfl) ?_
  replace hk := kQ (b := 179) (i := 30) (v := some 198) hk
  refine x_aload_n (i := 0) (dxX12_init_2 14 rfl) rfl rfl ?_
  refine x_bipush (v := 20) (dxX12_init_2 15 rfl) rfl ?_
  refine x_newA (atype := .int) (t := 0) (z := 20) (a := 199) (Nat.le_of_ble_eq_true rfl) rfl gw_169 (by decide) (by decide) (Nat.le_of_ble_eq_true rfl) rfl (dxX12_init_2 16 rfl) (Nat.le_of_ble_eq_true rfl) (Nat.le_of_ble_eq_true rfl) ?_
  replace hk := kN (a := 199) (q := .inr (0, 20)) hk (by omega)
  refine x_putF (ci := 12) (fk := 31) (C := RX12) (T := TX12) (N := 85) ZI.nm rfl rfl (Nat.le_of_ble_eq_true rfl) lay_12 gw_1258 rfl rfl tyX12 tyX12_ok nmX12 hk rfl rfl (fun _ => rfl) (dxX12_init_2 17 rfl) ?_
  replace hk := kQ (b := 179) (i := 31) (v := some 199) hk
  refine x_aload_n (i := 0) (dxX12_init_2 18 rfl) rfl rfl ?_
  refine x_sipush (v := 256) (dxX12_init_2 19 rfl) rfl ?_
  refine x_newA (atype := .boolean) (t := 4) (z := 256) (a := 200) (Nat.le_of_ble_eq_true rfl) rfl gw_514 (by decide) (by decide) (Nat.le_of_ble_eq_true rfl) rfl (dxX12_init_2 20 rfl) (Nat.le_of_ble_eq_true rfl) (Nat.le_of_ble_eq_true rfl) ?_
  replace hk := kN (a := 200) (q := .inr (4, 256)) hk (by omega)
  refine x_putF (ci := 12) (fk := 33) (C := RX12) (T := TX12) (N := 85) ZI.nm rfl rfl (Nat.le_of_ble_eq_true rfl) lay_12 gw_1260 rfl rfl tyX12 tyX12_ok nmX12 hk rfl rfl (fun _ => rfl) (dxX12_init_2 21 rfl) ?_
  replace hk := kQ (b := 179) (i := 33) (v := some 200) hk
  refine x_aload_n (i := 0) (dxX12_init_2 22 rfl) rfl rfl ?_
  refine x_bipush (v := 10) (dxX12_init_2 23 rfl) rfl ?_
  refine x_newA (atype := .int) (t := 0) (z := 10) (a := 201) (Nat.le_of_ble_eq_true rfl) rfl gw_169 (by decide) (by decide) (Nat.le_of_ble_eq_true rfl) rfl (dxX12_init_2 24 rfl) (Nat.le_of_ble_eq_true rfl) (Nat.le_of_ble_eq_true rfl) ?_
  replace hk := kN (a := 201) (q := .inr (0, 10)) hk (by omega)
  refine x_putF (ci := 12) (fk := 36) (C := RX12) (T := TX12) (N := 85) ZI.nm rfl rfl (Nat.le_of_ble_eq_true rfl) lay_12 gw_1263 rfl rfl tyX12 tyX12_ok nmX12 hk rfl rfl (fun _ => rfl) (dxX12_init_2 25 rfl) ?_
  replace hk := kQ (b := 179) (i := 36) (v := some 201) hk
  refine x_aload_n (i := 0) (dxX12_init_2 26 rfl) rfl rfl ?_
  refine x_bipush (v := 10) (dxX12_init_2 27 rfl) rfl ?_
  refine x_newA (atype := .int) (t := 0) (z := 10) (a := 202) (Nat.le_of_ble_eq_true rfl) rfl gw_169 (by decide) (by decide) (Nat.le_of_ble_eq_true rfl) rfl (dxX12_init_2 28 rfl) (Nat.le_of_ble_eq_true rfl) (Nat.le_of_ble_eq_true rfl) ?_
  replace hk := kN (a := 202) (q := .inr (0, 10)) hk (by omega)
  refine x_putF (ci := 12) (fk := 37) (C := RX12) (T := TX12) (N := 85) ZI.nm rfl rfl (Nat.le_of_ble_eq_true rfl) lay_12 gw_1264 rfl rfl tyX12 tyX12_ok nmX12 hk rfl rfl (fun _ => rfl) (dxX12_init_2 29 rfl) ?_
  replace hk := kQ (b := 179) (i := 37) (v := some 202) hk
  refine x_aload_n (i := 0) (dxX12_init_2 30 rfl) rfl rfl ?_
  refine x_bipush (v := 24) (dxX12_init_2 31 rfl) rfl ?_
  refine x_newA (atype := .int) (t := 0) (z := 24) (a := 203) (Nat.le_of_ble_eq_true rfl) rfl gw_169 (by decide) (by decide) (Nat.le_of_ble_eq_true rfl) rfl (dxX12_init_3 0 rfl) (Nat.le_of_ble_eq_true rfl) (Nat.le_of_ble_eq_true rfl) ?_
  replace hk := kN (a := 203) (q := .inr (0, 24)) hk (by omega)
  refine x_putF (ci := 12) (fk := 39) (C := RX12) (T := TX12) (N := 85) ZI.nm rfl rfl (Nat.le_of_ble_eq_true rfl) lay_12 gw_1266 rfl rfl tyX12 tyX12_ok nmX12 hk rfl rfl (fun _ => rfl) (dxX12_init_3 1 rfl) ?_
  replace hk := kQ (b := 179) (i := 39) (v := some 203) hk
  refine x_aload_n (i := 0) (dxX12_init_3 2 rfl) rfl rfl ?_
  refine x_bipush (v := 24) (dxX12_init_3 3 rfl) rfl ?_
  refine x_newA (atype := .int) (t := 0) (z := 24) (a := 204) (Nat.le_of_ble_eq_true rfl) rfl gw_169 (by decide) (by decide) (Nat.le_of_ble_eq_true rfl) rfl (dxX12_init_3 4 rfl) (Nat.le_of_ble_eq_true rfl) (Nat.le_of_ble_eq_true rfl) ?_
  replace hk := kN (a := 204) (q := .inr (0, 24)) hk (by omega)
  refine x_putF (ci := 12) (fk := 40) (C := RX12) (T := TX12) (N := 85) ZI.nm rfl rfl (Nat.le_of_ble_eq_true rfl) lay_12 gw_1267 rfl rfl tyX12 tyX12_ok nmX12 hk rfl rfl (fun _ => rfl) (dxX12_init_3 5 rfl) ?_
  replace hk := kQ (b := 179) (i := 40) (v := some 204) hk
  refine x_aload_n (i := 0) (dxX12_init_3 6 rfl) rfl rfl ?_
  refine x_bipush (v := 24) (dxX12_init_3 7 rfl) rfl ?_
  refine x_newA (atype := .int) (t := 0) (z := 24) (a := 205) (Nat.le_of_ble_eq_true rfl) rfl gw_169 (by decide) (by decide) (Nat.le_of_ble_eq_true rfl) rfl (dxX12_init_3 8 rfl) (Nat.le_of_ble_eq_true rfl) (Nat.le_of_ble_eq_true rfl) ?_
  replace hk := kN (a := 205) (q := .inr (0, 24)) hk (by omega)
  refine x_putF (ci := 12) (fk := 41) (C := RX12) (T := TX12) (N := 85) ZI.nm rfl rfl (Nat.le_of_ble_eq_true rfl) lay_12 gw_1268 rfl rfl tyX12 tyX12_ok nmX12 hk rfl rfl (fun _ => rfl) (dxX12_init_3 9 rfl) ?_
  replace hk := kQ (b := 179) (i := 41) (v := some 205) hk
  refine x_aload_n (i := 0) (dxX12_init_3 10 rfl) rfl rfl ?_
  refine x_bipush (v := 40) (dxX12_init_3 11 rfl) rfl ?_
  refine x_newA (atype := .int) (t := 0) (z := 40) (a := 206) (Nat.le_of_ble_eq_true rfl) rfl gw_169 (by decide) (by decide) (Nat.le_of_ble_eq_true rfl) rfl (dxX12_init_3 12 rfl) (Nat.le_of_ble_eq_true rfl) (Nat.le_of_ble_eq_true rfl) ?_
  replace hk := kN (a := 206) (q := .inr (0, 40)) hk (by omega)
  refine x_putF (ci := 12) (fk := 42) (C := RX12) (T := TX12) (N := 85) ZI.nm rfl rfl (Nat.le_of_ble_eq_true rfl) lay_12 gw_1269 rfl rfl tyX12 tyX12_ok nmX12 hk rfl rfl (fun _ => rfl) (dxX12_init_3 13 rfl) ?_
  replace hk := kQ (b := 179) (i := 42) (v := some 206) hk
  refine x_aload_n (i := 0) (dxX12_init_3 14 rfl) rfl rfl ?_
  refine x_bipush (v := 10) (dxX12_init_3 15 rfl) rfl ?_
  refine x_newA (atype := .int) (t := 0) (z := 10) (a := 207) (Nat.le_of_ble_eq_true rfl) rfl gw_169 (by decide) (by decide) (Nat.le_of_ble_eq_true rfl) rfl (dxX12_init_3 16 rfl) (Nat.le_of_ble_eq_true rfl) (Nat.le_of_ble_eq_true rfl) ?_
  replace hk := kN (a := 207) (q := .inr (0, 10)) hk (by omega)
  refine x_putF (ci := 12) (fk := 43) (C := RX12) (T := TX12) (N := 85) ZI.nm rfl rfl (Nat.le_of_ble_eq_true rfl) lay_12 gw_1270 rfl rfl tyX12 tyX12_ok nmX12 hk rfl rfl (fun _ => rfl) (dxX12_init_3 17 rfl) ?_
  replace hk := kQ (b := 179) (i := 43) (v := some 207) hk
  refine x_aload_n (i := 0) (dxX12_init_3 18 rfl) rfl rfl ?_
  refine x_bipush (v := 10) (dxX12_init_3 19 rfl) rfl ?_
  refine x_newA (atype := .int) (t := 0) (z := 10) (a := 208) (Nat.le_of_ble_eq_true rfl) rfl gw_169 (by decide) (by decide) (Nat.le_of_ble_eq_true rfl) rfl (dxX12_init_3 20 rfl) (Nat.le_of_ble_eq_true rfl) (Nat.le_of_ble_eq_true rfl) ?_
  replace hk := kN (a := 208) (q := .inr (0, 10)) hk (by omega)
  refine x_putF (ci := 12) (fk := 44) (C := RX12) (T := TX12) (N := 85) ZI.nm rfl rfl (Nat.le_of_ble_eq_true rfl) lay_12 gw_1271 rfl rfl tyX12 tyX12_ok nmX12 hk rfl rfl (fun _ => rfl) (dxX12_init_3 21 rfl) ?_
  replace hk := kQ (b := 179) (i := 44) (v := some 208) hk
  refine x_aload_n (i := 0) (dxX12_init_3 22 rfl) rfl rfl ?_
  refine x_bipush (v := 24) (dxX12_init_3 23 rfl) rfl ?_
  refine x_newA (atype := .int) (t := 0) (z := 24) (a := 209) (Nat.le_of_ble_eq_true rfl) rfl gw_169 (by decide) (by decide) (Nat.le_of_ble_eq_true rfl) rfl (dxX12_init_3 24 rfl) (Nat.le_of_ble_eq_true rfl) (Nat.le_of_ble_eq_true rfl) ?_
  replace hk := kN (a := 209) (q := .inr (0, 24)) hk (by omega)
  refine x_putF (ci := 12) (fk := 45) (C := RX12) (T := TX12) (N := 85) ZI.nm rfl rfl (Nat.le_of_ble_eq_true rfl) lay_12 gw_1272 rfl rfl tyX12 tyX12_ok nmX12 hk rfl rfl (fun _ => rfl) (dxX12_init_3 25 rfl) ?_
  replace hk := kQ (b := 179) (i := 45) (v := some 209) hk
  refine x_aload_n (i := 0) (dxX12_init_3 26 rfl) rfl rfl ?_
  refine x_bipush (v := 24) (dxX12_init_3 27 rfl) rfl ?_
  refine x_newA (atype := .int) (t := 0) (z := 24) (a := 210) (Nat.le_of_ble_eq_true rfl) rfl gw_169 (by decide) (by decide) (Nat.le_of_ble_eq_true rfl) rfl (dxX12_init_3 28 rfl) (Nat.le_of_ble_eq_true rfl) (Nat.le_of_ble_eq_true rfl) ?_
  replace hk := kN (a := 210) (q := .inr (0, 24)) hk (by omega)
  refine x_putF (ci := 12) (fk := 46) (C := RX12) (T := TX12) (N := 85) ZI.nm rfl rfl (Nat.le_of_ble_eq_true rfl) lay_12 gw_1273 rfl rfl tyX12 tyX12_ok nmX12 hk rfl rfl (fun _ => rfl) (dxX12_init_3 29 rfl) ?_
  replace hk := kQ (b := 179) (i := 46) (v := some 210) hk
  refine x_aload_n (i := 0) (dxX12_init_3 30 rfl) rfl rfl ?_
  refine x_ldc (v := 48048) (dxX12_init_3 31 rfl) gw_1207 ?_
  refine x_newA (atype := .byte) (t := 2) (z := 48048) (a := 211) (Nat.le_of_ble_eq_true rfl) rfl gw_857 (by decide) (by decide) (Nat.le_of_ble_eq_true rfl) rfl (dxX12_init_4 0 rfl) (Nat.le_of_ble_eq_true rfl) (Nat.le_of_ble_eq_true rfl) ?_
  replace hk := kN (a := 211) (q := .inr (2, 48048)) hk (by omega)
  refine x_putF (ci := 12) (fk := 49) (C := RX12) (T := TX12) (N := 85) ZI.nm rfl rfl (Nat.le_of_ble_eq_true rfl) lay_12 gw_1276 rfl rfl tyX12 tyX12_ok nmX12 hk rfl rfl (fun _ => rfl) (dxX12_init_4 1 rfl) ?_
  replace hk := kQ (b := 179) (i := 49) (v := some 211) hk
  refine x_aload_n (i := 0) (dxX12_init_4 2 rfl) rfl rfl ?_
  refine x_bipush (v := 24) (dxX12_init_4 3 rfl) rfl ?_
  refine x_newA (atype := .int) (t := 0) (z := 24) (a := 212) (Nat.le_of_ble_eq_true rfl) rfl gw_169 (by decide) (by decide) (Nat.le_of_ble_eq_true rfl) rfl (dxX12_init_4 4 rfl) (Nat.le_of_ble_eq_true rfl) (Nat.le_of_ble_eq_true rfl) ?_
  replace hk := kN (a := 212) (q := .inr (0, 24)) hk (by omega)
  refine x_putF (ci := 12) (fk := 50) (C := RX12) (T := TX12) (N := 85) ZI.nm rfl rfl (Nat.le_of_ble_eq_true rfl) lay_12 gw_1277 rfl rfl tyX12 tyX12_ok nmX12 hk rfl rfl (fun _ => rfl) (dxX12_init_4 5 rfl) ?_
  replace hk := kQ (b := 179) (i := 50) (v := some 212) hk
  refine x_aload_n (i := 0) (dxX12_init_4 6 rfl) rfl rfl ?_
  refine x_sipush (v := 960) (dxX12_init_4 7 rfl) rfl ?_
  refine x_newA (atype := .byte) (t := 2) (z := 960) (a := 213) (Nat.le_of_ble_eq_true rfl) rfl gw_857 (by decide) (by decide) (Nat.le_of_ble_eq_true rfl) rfl (dxX12_init_4 8 rfl) (Nat.le_of_ble_eq_true rfl) (Nat.le_of_ble_eq_true rfl) ?_
  replace hk := kN (a := 213) (q := .inr (2, 960)) hk (by omega)
  refine x_putF (ci := 12) (fk := 53) (C := RX12) (T := TX12) (N := 85) ZI.nm rfl rfl (Nat.le_of_ble_eq_true rfl) lay_12 gw_1280 rfl rfl tyX12 tyX12_ok nmX12 hk rfl rfl (fun _ => rfl) (dxX12_init_4 9 rfl) ?_
  replace hk := kQ (b := 179) (i := 53) (v := some 213) hk
  refine x_aload_n (i := 0) (dxX12_init_4 10 rfl) rfl rfl ?_
  refine x_sipush (v := 960) (dxX12_init_4 11 rfl) rfl ?_
  refine x_newA (atype := .byte) (t := 2) (z := 960) (a := 214) (Nat.le_of_ble_eq_true rfl) rfl gw_857 (by decide) (by decide) (Nat.le_of_ble_eq_true rfl) rfl (dxX12_init_4 12 rfl) (Nat.le_of_ble_eq_true rfl) (Nat.le_of_ble_eq_true rfl) ?_
  replace hk := kN (a := 214) (q := .inr (2, 960)) hk (by omega)
  refine x_putF (ci := 12) (fk := 54) (C := RX12) (T := TX12) (N := 85) ZI.nm rfl rfl (Nat.le_of_ble_eq_true rfl) lay_12 gw_1281 rfl rfl tyX12 tyX12_ok nmX12 hk rfl rfl (fun _ => rfl) (dxX12_init_4 13 rfl) ?_
  replace hk := kQ (b := 179) (i := 54) (v := some 214) hk
  refine x_aload_n (i := 0) (dxX12_init_4 14 rfl) rfl rfl ?_
  refine x_bipush (v := 80) (dxX12_init_4 15 rfl) rfl ?_
  refine x_newA (atype := .int) (t := 0) (z := 80) (a := 215) (Nat.le_of_ble_eq_true rfl) rfl gw_169 (by decide) (by decide) (Nat.le_of_ble_eq_true rfl) rfl (dxX12_init_4 16 rfl) (Nat.le_of_ble_eq_true rfl) (Nat.le_of_ble_eq_true rfl) ?_
  replace hk := kN (a := 215) (q := .inr (0, 80)) hk (by omega)
  refine x_putF (ci := 12) (fk := 55) (C := RX12) (T := TX12) (N := 85) ZI.nm rfl rfl (Nat.le_of_ble_eq_true rfl) lay_12 gw_1282 rfl rfl tyX12 tyX12_ok nmX12 hk rfl rfl (fun _ => rfl) (dxX12_init_4 17 rfl) ?_
  replace hk := kQ (b := 179) (i := 55) (v := some 215) hk
  refine x_aload_n (i := 0) (dxX12_init_4 18 rfl) rfl rfl ?_
  refine x_bipush (v := 10) (dxX12_init_4 19 rfl) rfl ?_
  refine x_newA (atype := .int) (t := 0) (z := 10) (a := 216) (Nat.le_of_ble_eq_true rfl) rfl gw_169 (by decide) (by decide) (Nat.le_of_ble_eq_true rfl) rfl (dxX12_init_4 20 rfl) (Nat.le_of_ble_eq_true rfl) (Nat.le_of_ble_eq_true rfl) ?_
  replace hk := kN (a := 216) (q := .inr (0, 10)) hk (by omega)
  refine x_putF (ci := 12) (fk := 56) (C := RX12) (T := TX12) (N := 85) ZI.nm rfl rfl (Nat.le_of_ble_eq_true rfl) lay_12 gw_1283 rfl rfl tyX12 tyX12_ok nmX12 hk rfl rfl (fun _ => rfl) (dxX12_init_4 21 rfl) ?_
  replace hk := kQ (b := 179) (i := 56) (v := some 216) hk
  refine x_aload_n (i := 0) (dxX12_init_4 22 rfl) rfl rfl ?_
  refine x_bipush (v := 10) (dxX12_init_4 23 rfl) rfl ?_
  refine x_newA (atype := .int) (t := 0) (z := 10) (a := 217) (Nat.le_of_ble_eq_true rfl) rfl gw_169 (by decide) (by decide) (Nat.le_of_ble_eq_true rfl) rfl (dxX12_init_4 24 rfl) (Nat.le_of_ble_eq_true rfl) (Nat.le_of_ble_eq_true rfl) ?_
  replace hk := kN (a := 217) (q := .inr (0, 10)) hk (by omega)
  refine x_putF (ci := 12) (fk := 57) (C := RX12) (T := TX12) (N := 85) ZI.nm rfl rfl (Nat.le_of_ble_eq_true rfl) lay_12 gw_1284 rfl rfl tyX12 tyX12_ok nmX12 hk rfl rfl (fun _ => rfl) (dxX12_init_4 25 rfl) ?_
  replace hk := kQ (b := 179) (i := 57) (v := some 217) hk
  refine x_aload_n (i := 0) (dxX12_init_4 26 rfl) rfl rfl ?_
  refine x_bipush (v := 10) (dxX12_init_4 27 rfl) rfl ?_
  refine x_newA (atype := .int) (t := 0) (z := 10) (a := 218) (Nat.le_of_ble_eq_true rfl) rfl gw_169 (by decide) (by decide) (Nat.le_of_ble_eq_true rfl) rfl (dxX12_init_4 28 rfl) (Nat.le_of_ble_eq_true rfl) (Nat.le_of_ble_eq_true rfl) ?_
  replace hk := kN (a := 218) (q := .inr (0, 10)) hk (by omega)
  refine x_putF (ci := 12) (fk := 58) (C := RX12) (T := TX12) (N := 85) ZI.nm rfl rfl (Nat.le_of_ble_eq_true rfl) lay_12 gw_1285 rfl rfl tyX12 tyX12_ok nmX12 hk rfl rfl (fun _ => rfl) (dxX12_init_4 29 rfl) ?_
  replace hk := kQ (b := 179) (i := 58) (v := some 218) hk
  refine x_aload_n (i := 0) (dxX12_init_4 30 rfl) rfl rfl ?_
  refine x_sipush (v := 300) (dxX12_init_4 31 rfl) rfl ?_
  refine x_newA (atype := .int) (t := 0) (z := 300) (a := 219) (Nat.le_of_ble_eq_true rfl) rfl gw_169 (by decide) (by decide) (Nat.le_of_ble_eq_true rfl) rfl (dxX12_init_5 0 rfl) (Nat.le_of_ble_eq_true rfl) (Nat.le_of_ble_eq_true rfl) ?_
  replace hk := kN (a := 219) (q := .inr (0, 300)) hk (by omega)
  refine x_putF (ci := 12) (fk := 60) (C := RX12) (T := TX12) (N := 85) ZI.nm rfl rfl (Nat.le_of_ble_eq_true rfl) lay_12 gw_1287 rfl rfl tyX12 tyX12_ok nmX12 hk rfl rfl (fun _ => rfl) (dxX12_init_5 1 rfl) ?_
  replace hk := kQ (b := 179) (i := 60) (v := some 219) hk
  refine x_aload_n (i := 0) (dxX12_init_5 2 rfl) rfl rfl ?_
  refine x_bipush (v := 40) (dxX12_init_5 3 rfl) rfl ?_
  refine x_newA (atype := .int) (t := 0) (z := 40) (a := 220) (Nat.le_of_ble_eq_true rfl) rfl gw_169 (by decide) (by decide) (Nat.le_of_ble_eq_true rfl) rfl (dxX12_init_5 4 rfl) (Nat.le_of_ble_eq_true rfl) (Nat.le_of_ble_eq_true rfl) ?_
  replace hk := kN (a := 220) (q := .inr (0, 40)) hk (by omega)
  refine x_putF (ci := 12) (fk := 68) (C := RX12) (T := TX12) (N := 85) ZI.nm rfl rfl (Nat.le_of_ble_eq_true rfl) lay_12 gw_1295 rfl rfl tyX12 tyX12_ok nmX12 hk rfl rfl (fun _ => rfl) (dxX12_init_5 5 rfl) ?_
  replace hk := kQ (b := 179) (i := 68) (v := some 220) hk
  refine x_aload_n (i := 0) (dxX12_init_5 6 rfl) rfl rfl ?_
  refine x_bipush (v := 10) (dxX12_init_5 7 rfl) rfl ?_
  refine x_newA (atype := .int) (t := 0) (z := 10) (a := 221) (Nat.le_of_ble_eq_true rfl) rfl gw_169 (by decide) (by decide) (Nat.le_of_ble_eq_true rfl) rfl (dxX12_init_5 8 rfl) (Nat.le_of_ble_eq_true rfl) (Nat.le_of_ble_eq_true rfl) ?_
  replace hk := kN (a := 221) (q := .inr (0, 10)) hk (by omega)
  refine x_putF (ci := 12) (fk := 69) (C := RX12) (T := TX12) (N := 85) ZI.nm rfl rfl (Nat.le_of_ble_eq_true rfl) lay_12 gw_1296 rfl rfl tyX12 tyX12_ok nmX12 hk rfl rfl (fun _ => rfl) (dxX12_init_5 9 rfl) ?_
  replace hk := kQ (b := 179) (i := 69) (v := some 221) hk
  refine x_aload_n (i := 0) (dxX12_init_5 10 rfl) rfl rfl ?_
  refine x_bipush (v := 10) (dxX12_init_5 11 rfl) rfl ?_
  refine x_newA (atype := .int) (t := 0) (z := 10) (a := 222) (Nat.le_of_ble_eq_true rfl) rfl gw_169 (by decide) (by decide) (Nat.le_of_ble_eq_true rfl) rfl (dxX12_init_5 12 rfl) (Nat.le_of_ble_eq_true rfl) (Nat.le_of_ble_eq_true rfl) ?_
  replace hk := kN (a := 222) (q := .inr (0, 10)) hk (by omega)
  refine x_putF (ci := 12) (fk := 70) (C := RX12) (T := TX12) (N := 85) ZI.nm rfl rfl (Nat.le_of_ble_eq_true rfl) lay_12 gw_1297 rfl rfl tyX12 tyX12_ok nmX12 hk rfl rfl (fun _ => rfl) (dxX12_init_5 13 rfl) ?_
  replace hk := kQ (b := 179) (i := 70) (v := some 222) hk
  refine x_aload_n (i := 0) (dxX12_init_5 14 rfl) rfl rfl ?_
  refine x_bipush (v := 10) (dxX12_init_5 15 rfl) rfl ?_
  refine x_newA (atype := .int) (t := 0) (z := 10) (a := 223) (Nat.le_of_ble_eq_true rfl) rfl gw_169 (by decide) (by decide) (Nat.le_of_ble_eq_true rfl) rfl (dxX12_init_5 16 rfl) (Nat.le_of_ble_eq_true rfl) (Nat.le_of_ble_eq_true rfl) ?_
  replace hk := kN (a := 223) (q := .inr (0, 10)) hk (by omega)
  refine x_putF (ci := 12) (fk := 71) (C := RX12) (T := TX12) (N := 85) ZI.nm rfl rfl (Nat.le_of_ble_eq_true rfl) lay_12 gw_1298 rfl rfl tyX12 tyX12_ok nmX12 hk rfl rfl (fun _ => rfl) (dxX12_init_5 17 rfl) ?_
  replace hk := kQ (b := 179) (i := 71) (v := some 223) hk
  refine x_aload_n (i := 0) (dxX12_init_5 18 rfl) rfl rfl ?_
  refine x_bipush (v := 10) (dxX12_init_5 19 rfl) rfl ?_
  refine x_newA (atype := .int) (t := 0) (z := 10) (a := 224) (Nat.le_of_ble_eq_true rfl) rfl gw_169 (by decide) (by decide) (Nat.le_of_ble_eq_true rfl) rfl (dxX12_init_5 20 rfl) (Nat.le_of_ble_eq_true rfl) (Nat.le_of_ble_eq_true rfl) ?_
  replace hk := kN (a := 224) (q := .inr (0, 10)) hk (by omega)
  refine x_putF (ci := 12) (fk := 72) (C := RX12) (T := TX12) (N := 85) ZI.nm rfl rfl (Nat.le_of_ble_eq_true rfl) lay_12 gw_1299 rfl rfl tyX12 tyX12_ok nmX12 hk rfl rfl (fun _ => rfl) (dxX12_init_5 21 rfl) ?_
  replace hk := kQ (b := 179) (i := 72) (v := some 224) hk
  refine x_aload_n (i := 0) (dxX12_init_5 22 rfl) rfl rfl ?_
  refine x_sipush (v := 12000) (dxX12_init_5 23 rfl) rfl ?_
  refine x_newA (atype := .long) (t := 1) (z := 12000) (a := 225) (Nat.le_of_ble_eq_true rfl) rfl gw_170 (by decide) (by decide) (Nat.le_of_ble_eq_true rfl) rfl (dxX12_init_5 24 rfl) (Nat.le_of_ble_eq_true rfl) (Nat.le_of_ble_eq_true rfl) ?_
  replace hk := kN (a := 225) (q := .inr (1, 12000)) hk (by omega)
  refine x_putF (ci := 12) (fk := 76) (C := RX12) (T := TX12) (N := 85) ZI.nm rfl rfl (Nat.le_of_ble_eq_true rfl) lay_12 gw_1303 rfl rfl tyX12 tyX12_ok nmX12 hk rfl rfl (fun _ => rfl) (dxX12_init_5 25 rfl) ?_
  replace hk := kQ (b := 179) (i := 76) (v := some 225) hk
  refine x_aload_n (i := 0) (dxX12_init_5 26 rfl) rfl rfl ?_
  refine x_ldc (v := 32768) (dxX12_init_5 27 rfl) gw_1208 ?_
  refine x_newA (atype := .int) (t := 0) (z := 32768) (a := 226) (Nat.le_of_ble_eq_true rfl) rfl gw_169 (by decide) (by decide) (Nat.le_of_ble_eq_true rfl) rfl (dxX12_init_5 28 rfl) (Nat.le_of_ble_eq_true rfl) (Nat.le_of_ble_eq_true rfl) ?_
  replace hk := kN (a := 226) (q := .inr (0, 32768)) hk (by omega)
  refine x_putF (ci := 12) (fk := 77) (C := RX12) (T := TX12) (N := 85) ZI.nm rfl rfl (Nat.le_of_ble_eq_true rfl) lay_12 gw_1304 rfl rfl tyX12 tyX12_ok nmX12 hk rfl rfl (fun _ => rfl) (dxX12_init_5 29 rfl) ?_
  replace hk := kQ (b := 179) (i := 77) (v := some 226) hk
  refine x_aload_n (i := 0) (dxX12_init_5 30 rfl) rfl rfl ?_
  refine x_bipush (v := 10) (dxX12_init_5 31 rfl) rfl ?_
  refine x_newA (atype := .int) (t := 0) (z := 10) (a := 227) (Nat.le_of_ble_eq_true rfl) rfl gw_169 (by decide) (by decide) (Nat.le_of_ble_eq_true rfl) rfl (dxX12_init_6 0 rfl) (Nat.le_of_ble_eq_true rfl) (Nat.le_of_ble_eq_true rfl) ?_
  replace hk := kN (a := 227) (q := .inr (0, 10)) hk (by omega)
  refine x_putF (ci := 12) (fk := 78) (C := RX12) (T := TX12) (N := 85) ZI.nm rfl rfl (Nat.le_of_ble_eq_true rfl) lay_12 gw_1305 rfl rfl tyX12 tyX12_ok nmX12 hk rfl rfl (fun _ => rfl) (dxX12_init_6 1 rfl) ?_
  replace hk := kQ (b := 179) (i := 78) (v := some 227) hk
  refine x_aload_n (i := 0) (dxX12_init_6 2 rfl) rfl rfl ?_
  refine x_bipush (v := 10) (dxX12_init_6 3 rfl) rfl ?_
  refine x_newA (atype := .int) (t := 0) (z := 10) (a := 228) (Nat.le_of_ble_eq_true rfl) rfl gw_169 (by decide) (by decide) (Nat.le_of_ble_eq_true rfl) rfl (dxX12_init_6 4 rfl) (Nat.le_of_ble_eq_true rfl) (Nat.le_of_ble_eq_true rfl) ?_
  replace hk := kN (a := 228) (q := .inr (0, 10)) hk (by omega)
  refine x_putF (ci := 12) (fk := 79) (C := RX12) (T := TX12) (N := 85) ZI.nm rfl rfl (Nat.le_of_ble_eq_true rfl) lay_12 gw_1306 rfl rfl tyX12 tyX12_ok nmX12 hk rfl rfl (fun _ => rfl) (dxX12_init_6 5 rfl) ?_
  replace hk := kQ (b := 179) (i := 79) (v := some 228) hk
  refine x_aload_n (i := 0) (dxX12_init_6 6 rfl) rfl rfl ?_
  refine x_iconst (v := 4) (dxX12_init_6 7 rfl) rfl ?_
  refine x_newA (atype := .boolean) (t := 4) (z := 4) (a := 229) (Nat.le_of_ble_eq_true rfl) rfl gw_514 (by decide) (by decide) (Nat.le_of_ble_eq_true rfl) rfl (dxX12_init_6 8 rfl) (Nat.le_of_ble_eq_true rfl) (Nat.le_of_ble_eq_true rfl) ?_
  replace hk := kN (a := 229) (q := .inr (4, 4)) hk (by omega)
  refine x_putF (ci := 12) (fk := 80) (C := RX12) (T := TX12) (N := 85) ZI.nm rfl rfl (Nat.le_of_ble_eq_true rfl) lay_12 gw_1307 rfl rfl tyX12 tyX12_ok nmX12 hk rfl rfl (fun _ => rfl) (dxX12_init_6 9 rfl) ?_
  replace hk := kQ (b := 179) (i := 80) (v := some 229) hk
  refine x_aload_n (i := 0) (dxX12_init_6 10 rfl) rfl rfl ?_
  refine x_iconst (v := 4) (dxX12_init_6 11 rfl) rfl ?_
  refine x_newA (atype := .int) (t := 0) (z := 4) (a := 230) (Nat.le_of_ble_eq_true rfl) rfl gw_169 (by decide) (by decide) (Nat.le_of_ble_eq_true rfl) rfl (dxX12_init_6 12 rfl) (Nat.le_of_ble_eq_true rfl) (Nat.le_of_ble_eq_true rfl) ?_
  replace hk := kN (a := 230) (q := .inr (0, 4)) hk (by omega)
  refine x_putF (ci := 12) (fk := 81) (C := RX12) (T := TX12) (N := 85) ZI.nm rfl rfl (Nat.le_of_ble_eq_true rfl) lay_12 gw_1308 rfl rfl tyX12 tyX12_ok nmX12 hk rfl rfl (fun _ => rfl) (dxX12_init_6 13 rfl) ?_
  replace hk := kQ (b := 179) (i := 81) (v := some 230) hk
  refine x_aload_n (i := 0) (dxX12_init_6 14 rfl) rfl rfl ?_
  refine x_bipush (v := 40) (dxX12_init_6 15 rfl) rfl ?_
  refine x_newA (atype := .int) (t := 0) (z := 40) (a := 231) (Nat.le_of_ble_eq_true rfl) rfl gw_169 (by decide) (by decide) (Nat.le_of_ble_eq_true rfl) rfl (dxX12_init_6 16 rfl) (Nat.le_of_ble_eq_true rfl) (Nat.le_of_ble_eq_true rfl) ?_
  replace hk := kN (a := 231) (q := .inr (0, 40)) hk (by omega)
  refine x_putF (ci := 12) (fk := 82) (C := RX12) (T := TX12) (N := 85) ZI.nm rfl rfl (Nat.le_of_ble_eq_true rfl) lay_12 gw_1309 rfl rfl tyX12 tyX12_ok nmX12 hk rfl rfl (fun _ => rfl) (dxX12_init_6 17 rfl) ?_
  replace hk := kQ (b := 179) (i := 82) (v := some 231) hk
  refine x_aload_n (i := 0) (dxX12_init_6 18 rfl) rfl rfl ?_
  refine x_bipush (v := 40) (dxX12_init_6 19 rfl) rfl ?_
  refine x_newA (atype := .int) (t := 0) (z := 40) (a := 232) (Nat.le_of_ble_eq_true rfl) rfl gw_169 (by decide) (by decide) (Nat.le_of_ble_eq_true rfl) rfl (dxX12_init_6 20 rfl) (Nat.le_of_ble_eq_true rfl) (Nat.le_of_ble_eq_true rfl) ?_
  replace hk := kN (a := 232) (q := .inr (0, 40)) hk (by omega)
  refine x_putF (ci := 12) (fk := 83) (C := RX12) (T := TX12) (N := 85) ZI.nm rfl rfl (Nat.le_of_ble_eq_true rfl) lay_12 gw_1310 rfl rfl tyX12 tyX12_ok nmX12 hk rfl rfl (fun _ => rfl) (dxX12_init_6 21 rfl) ?_
  replace hk := kQ (b := 179) (i := 83) (v := some 232) hk
  refine x_aload_n (i := 0) (dxX12_init_6 22 rfl) rfl rfl ?_
  refine x_bipush (v := 96) (dxX12_init_6 23 rfl) rfl ?_
  refine x_newA (atype := .int) (t := 0) (z := 96) (a := 233) (Nat.le_of_ble_eq_true rfl) rfl gw_169 (by decide) (by decide) (Nat.le_of_ble_eq_true rfl) rfl (dxX12_init_6 24 rfl) (Nat.le_of_ble_eq_true rfl) (Nat.le_of_ble_eq_true rfl) ?_
  replace hk := kN (a := 233) (q := .inr (0, 96)) hk (by omega)
  refine x_putF (ci := 12) (fk := 84) (C := RX12) (T := TX12) (N := 85) ZI.nm rfl rfl (Nat.le_of_ble_eq_true rfl) lay_12 gw_1311 rfl rfl tyX12 tyX12_ok nmX12 hk rfl rfl (fun _ => rfl) (dxX12_init_6 25 rfl) ?_
  replace hk := kQ (b := 179) (i := 84) (v := some 233) hk
  refine x_aload_n (i := 0) (dxX12_init_6 26 rfl) rfl rfl ?_
  refine x_iconst (v := 1) (dxX12_init_6 27 rfl) rfl ?_
  refine x_putI (ci := 12) (fk := 35) (C := RX12) (T := TX12) (N := 85) rfl (Nat.le_of_ble_eq_true rfl) lay_12 gw_1262 rfl rfl tyX12 tyX12_ok nmX12 hk rfl rfl (fun _ => rfl) (dxX12_init_6 28 rfl) ?_
  replace hk := kI (b := 179) (i := 35) (v := 1) hk
  refine x_aload_n (i := 0) (dxX12_init_6 29 rfl) rfl rfl ?_
  refine x_callVN (σ := k12 σ) (ci := 12) (a0 := 180) (As := []) ZI.hs (by decide) rfl (dxX12_init_6 30 rfl) gw_1209 gw_1211 gw_43 gw_118 gw_1212 pd_yX12_shapes (T := TX12) (N := 85) rfl hk (Nat.le_of_ble_eq_true rfl) (Nat.le_of_ble_eq_true rfl) rfl hT (fun s1 h1 e1 => ?_)
  exact x_vretI (dxX12_init_6 31 rfl) ⟨e1.trans rfl, h1⟩
/-- two stores look alike from number 179 on; a store is as another below number 179 -/
def ag (σ τ : PS) : Prop := ∀ b, 179 ≤ b → kd σ b = kd τ b ∧ mi σ b = mi τ b ∧ ml σ b = ml τ b ∧ mr σ b = mr τ b
def ol (σ τ : PS) : Prop := ∀ b, b < 179 → kd τ b = kd σ b ∧ mi τ b = mi σ b ∧ ml τ b = ml σ b ∧ mr τ b = mr σ b
theorem agK {σ τ : PS} {a : Nat} {q : KD} (h : ag σ τ) : ag (nK σ a q) (nK τ a q) := fun b hb => by
  obtain ⟨h1, h2, h3, h4⟩ := h b hb
  rw [kd_nK, kd_nK, mi_nK, mi_nK, ml_nK, ml_nK, mr_nK, mr_nK, h1, h2, h3, h4]
  exact ⟨rfl, rfl, rfl, rfl⟩
theorem agQ {σ τ : PS} {a i : Nat} {v : Option Nat} (h : ag σ τ) : ag (sq σ a i v) (sq τ a i v) := fun b hb => by
  obtain ⟨h1, h2, h3, h4⟩ := h b hb
  refine ⟨h1, h2, h3, funext fun j => ?_⟩
  rw [mr_sq, mr_sq, h4]
theorem agI {σ τ : PS} {a i : Nat} {v : Int32} (h : ag σ τ) : ag (si σ a i v) (si τ a i v) := fun b hb => by
  obtain ⟨h1, h2, h3, h4⟩ := h b hb
  refine ⟨h1, funext fun j => ?_, h3, h4⟩
  rw [mi_si, mi_si, h2]
theorem olR {σ : PS} : ol σ σ := fun _ _ => ⟨rfl, rfl, rfl, rfl⟩
theorem olK {σ τ : PS} {a : Nat} {q : KD} (h : ol σ τ) (ha : 179 ≤ a) : ol σ (nK τ a q) := fun b hb => by
  rw [kd_nK, mi_nK, ml_nK, mr_nK, if_neg (by omega), if_neg (by omega), if_neg (by omega), if_neg (by omega)]
  exact h b hb
theorem olQ {σ τ : PS} {a i : Nat} {v : Option Nat} (h : ol σ τ) (ha : 179 ≤ a) : ol σ (sq τ a i v) := fun b hb => by
  obtain ⟨h1, h2, h3, h4⟩ := h b hb
  exact ⟨h1, h2, h3, (funext fun j => by rw [mr_sq, if_neg (by omega)]).trans h4⟩
theorem olI {σ τ : PS} {a i : Nat} {v : Int32} (h : ol σ τ) (ha : 179 ≤ a) : ol σ (si τ a i v) := fun b hb => by
  obtain ⟨h1, h2, h3, h4⟩ := h b hb
  exact ⟨h1, (funext fun j => by rw [mi_si, if_neg (by omega)]).trans h2, h3, h4⟩
theorem k12_ag {σ τ : PS} (h : ag σ τ) : ag (k12 σ) (k12 τ) := (agI (agQ (agK (agQ (agK (agQ (agK (agQ (agK (agQ (agK (agQ (agK (agQ (agK (agQ (agK (agQ (agK (agQ (agK (agQ (agK (agQ (agK (agQ (agK (agQ (agK (agQ (agK (agQ (agK (agQ (agK (agQ (agK (agQ (agK (agQ (agK (agQ (agK (agQ (agK (agQ (agK (agQ (agK (agQ (agK (agQ (agK (agQ (agK (agQ (agK (agQ (agK (agQ (agK (agQ (agK (agQ (agK (agQ (agK (agQ (agK (agQ (agK (agQ (agK (agQ (agK (agQ (agK (agQ (agK (agQ (agK (agQ (agK (agQ (agK (agQ (agK (agQ (agK (agQ (agK (agQ (agK (agQ (agK (agQ (agK (agQ (agK (agQ (agK (agQ (agK (agQ (agK (agQ (agK (agQ (agK h)))))))))))))))))))))))))))))))))))))))))))))))))))))))))))))))))))))))))))))))))))))))))))))))))))))))))))))
theorem k12_ol {σ : PS} : ol σ (k12 σ) := (olI (olQ (olK (olQ (olK (olQ (olK (olQ (olK (olQ (olK (olQ (olK (olQ (olK (olQ (olK (olQ (olK (olQ (olK (olQ (olK (olQ (olK (olQ (olK (olQ (olK (olQ (olK (olQ (olK (olQ (olK (olQ (olK (olQ (olK (olQ (olK (olQ (olK (olQ (olK (olQ (olK (olQ (olK (olQ (olK (olQ (olK (olQ (olK (olQ (olK (olQ (olK (olQ (olK (olQ (olK (olQ (olK (olQ (olK (olQ (olK (olQ (olK (olQ (olK (olQ (olK (olQ (olK (olQ (olK (olQ (olK (olQ (olK (olQ (olK (olQ (olK (olQ (olK (olQ (olK (olQ (olK (olQ (olK (olQ (olK (olQ (olK (olQ (olK (olQ (olK (olQ (olK (olQ (olK (olQ (olK olR (by decide)) (by decide)) (by decide)) (by decide)) (by decide)) (by decide)) (by decide)) (by decide)) (by decide)) (by decide)) (by decide)) (by decide)) (by decide)) (by decide)) (by decide)) (by decide)) (by decide)) (by decide)) (by decide)) (by decide)) (by decide)) (by decide)) (by decide)) (by decide)) (by decide)) (by decide)) (by decide)) (by decide)) (by decide)) (by decide)) (by decide)) (by decide)) (by decide)) (by decide)) (by decide)) (by decide)) (by decide)) (by decide)) (by decide)) (by decide)) (by decide)) (by decide)) (by decide)) (by decide)) (by decide)) (by decide)) (by decide)) (by decide)) (by decide)) (by decide)) (by decide)) (by decide)) (by decide)) (by decide)) (by decide)) (by decide)) (by decide)) (by decide)) (by decide)) (by decide)) (by decide)) (by decide)) (by decide)) (by decide)) (by decide)) (by decide)) (by decide)) (by decide)) (by decide)) (by decide)) (by decide)) (by decide)) (by decide)) (by decide)) (by decide)) (by decide)) (by decide)) (by decide)) (by decide)) (by decide)) (by decide)) (by decide)) (by decide)) (by decide)) (by decide)) (by decide)) (by decide)) (by decide)) (by decide)) (by decide)) (by decide)) (by decide)) (by decide)) (by decide)) (by decide)) (by decide)) (by decide)) (by decide)) (by decide)) (by decide)) (by decide)) (by decide)) (by decide)) (by decide)) (by decide)) (by decide)) (by decide)) (by decide)) (by decide))
