/-! copies over a cut layout, written by wip/gen/cpy.py Z 169 132 sp_takeFigure -/
def LayZ (σ : PS) : Prop := (∀ q ∈ layK.take 169, kd σ q.1 = some q.2) ∧ ∀ q ∈ layR.take 132, mr σ q.1 q.2.1 = some q.2.2
theorem LayZ.fr {σ s : PS} (h : LayZ σ) (f : Fr σ s) : LayZ s := ⟨fun q hq => by rw [f.1]; exact h.1 q hq, fun q hq => by rw [f.2]; exact h.2 q hq⟩
theorem LayZ.si {s : PS} {a i : Nat} {v : Int32} (h : LayZ s) : LayZ (si s a i v) := h
theorem LayZ.sa {s : PS} {a : Nat} {f : Nat → Int32} (h : LayZ s) : LayZ (sa s a f) := h
theorem kd_10Z {s : PS} (h : LayZ s) : kd s 10 = some (.inl 11) := h.1 (10, .inl 11) (List.mem_of_getElem? (i := 0) (by decide +kernel))
theorem kd_20Z {s : PS} (h : LayZ s) : kd s 20 = some (.inl 4) := h.1 (20, .inl 4) (List.mem_of_getElem? (i := 10) (by decide +kernel))
theorem kd_21Z {s : PS} (h : LayZ s) : kd s 21 = some (.inr (0, 16)) := h.1 (21, .inr (0, 16)) (List.mem_of_getElem? (i := 11) (by decide +kernel))
theorem kd_22Z {s : PS} (h : LayZ s) : kd s 22 = some (.inr (0, 10)) := h.1 (22, .inr (0, 10)) (List.mem_of_getElem? (i := 12) (by decide +kernel))
theorem kd_23Z {s : PS} (h : LayZ s) : kd s 23 = some (.inr (0, 10)) := h.1 (23, .inr (0, 10)) (List.mem_of_getElem? (i := 13) (by decide +kernel))
theorem kd_24Z {s : PS} (h : LayZ s) : kd s 24 = some (.inr (0, 40)) := h.1 (24, .inr (0, 40)) (List.mem_of_getElem? (i := 14) (by decide +kernel))
theorem kd_25Z {s : PS} (h : LayZ s) : kd s 25 = some (.inr (0, 40)) := h.1 (25, .inr (0, 40)) (List.mem_of_getElem? (i := 15) (by decide +kernel))
theorem kd_26Z {s : PS} (h : LayZ s) : kd s 26 = some (.inr (0, 22)) := h.1 (26, .inr (0, 22)) (List.mem_of_getElem? (i := 16) (by decide +kernel))
theorem kd_27Z {s : PS} (h : LayZ s) : kd s 27 = some (.inr (0, 22)) := h.1 (27, .inr (0, 22)) (List.mem_of_getElem? (i := 17) (by decide +kernel))
theorem kd_28Z {s : PS} (h : LayZ s) : kd s 28 = some (.inr (0, 22)) := h.1 (28, .inr (0, 22)) (List.mem_of_getElem? (i := 18) (by decide +kernel))
theorem kd_29Z {s : PS} (h : LayZ s) : kd s 29 = some (.inl 4) := h.1 (29, .inl 4) (List.mem_of_getElem? (i := 19) (by decide +kernel))
theorem kd_30Z {s : PS} (h : LayZ s) : kd s 30 = some (.inr (0, 16)) := h.1 (30, .inr (0, 16)) (List.mem_of_getElem? (i := 20) (by decide +kernel))
theorem kd_31Z {s : PS} (h : LayZ s) : kd s 31 = some (.inr (0, 10)) := h.1 (31, .inr (0, 10)) (List.mem_of_getElem? (i := 21) (by decide +kernel))
theorem kd_32Z {s : PS} (h : LayZ s) : kd s 32 = some (.inr (0, 10)) := h.1 (32, .inr (0, 10)) (List.mem_of_getElem? (i := 22) (by decide +kernel))
theorem kd_33Z {s : PS} (h : LayZ s) : kd s 33 = some (.inr (0, 40)) := h.1 (33, .inr (0, 40)) (List.mem_of_getElem? (i := 23) (by decide +kernel))
theorem kd_34Z {s : PS} (h : LayZ s) : kd s 34 = some (.inr (0, 40)) := h.1 (34, .inr (0, 40)) (List.mem_of_getElem? (i := 24) (by decide +kernel))
theorem kd_35Z {s : PS} (h : LayZ s) : kd s 35 = some (.inr (0, 22)) := h.1 (35, .inr (0, 22)) (List.mem_of_getElem? (i := 25) (by decide +kernel))
theorem kd_36Z {s : PS} (h : LayZ s) : kd s 36 = some (.inr (0, 22)) := h.1 (36, .inr (0, 22)) (List.mem_of_getElem? (i := 26) (by decide +kernel))
theorem kd_37Z {s : PS} (h : LayZ s) : kd s 37 = some (.inr (0, 22)) := h.1 (37, .inr (0, 22)) (List.mem_of_getElem? (i := 27) (by decide +kernel))
theorem kd_38Z {s : PS} (h : LayZ s) : kd s 38 = some (.inl 0) := h.1 (38, .inl 0) (List.mem_of_getElem? (i := 28) (by decide +kernel))
theorem kd_39Z {s : PS} (h : LayZ s) : kd s 39 = some (.inr (5, 41)) := h.1 (39, .inr (5, 41)) (List.mem_of_getElem? (i := 29) (by decide +kernel))
theorem kd_81Z {s : PS} (h : LayZ s) : kd s 81 = some (.inl 3) := h.1 (81, .inl 3) (List.mem_of_getElem? (i := 71) (by decide +kernel))
theorem kd_82Z {s : PS} (h : LayZ s) : kd s 82 = some (.inr (0, 22)) := h.1 (82, .inr (0, 22)) (List.mem_of_getElem? (i := 72) (by decide +kernel))
theorem kd_83Z {s : PS} (h : LayZ s) : kd s 83 = some (.inr (0, 22)) := h.1 (83, .inr (0, 22)) (List.mem_of_getElem? (i := 73) (by decide +kernel))
theorem kd_84Z {s : PS} (h : LayZ s) : kd s 84 = some (.inl 3) := h.1 (84, .inl 3) (List.mem_of_getElem? (i := 74) (by decide +kernel))
theorem kd_85Z {s : PS} (h : LayZ s) : kd s 85 = some (.inr (0, 22)) := h.1 (85, .inr (0, 22)) (List.mem_of_getElem? (i := 75) (by decide +kernel))
theorem kd_86Z {s : PS} (h : LayZ s) : kd s 86 = some (.inr (0, 22)) := h.1 (86, .inr (0, 22)) (List.mem_of_getElem? (i := 76) (by decide +kernel))
theorem kd_87Z {s : PS} (h : LayZ s) : kd s 87 = some (.inl 5) := h.1 (87, .inl 5) (List.mem_of_getElem? (i := 77) (by decide +kernel))
theorem kd_93Z {s : PS} (h : LayZ s) : kd s 93 = some (.inl 3) := h.1 (93, .inl 3) (List.mem_of_getElem? (i := 83) (by decide +kernel))
theorem kd_94Z {s : PS} (h : LayZ s) : kd s 94 = some (.inr (0, 22)) := h.1 (94, .inr (0, 22)) (List.mem_of_getElem? (i := 84) (by decide +kernel))
theorem kd_95Z {s : PS} (h : LayZ s) : kd s 95 = some (.inr (0, 22)) := h.1 (95, .inr (0, 22)) (List.mem_of_getElem? (i := 85) (by decide +kernel))
theorem kd_96Z {s : PS} (h : LayZ s) : kd s 96 = some (.inl 3) := h.1 (96, .inl 3) (List.mem_of_getElem? (i := 86) (by decide +kernel))
theorem kd_97Z {s : PS} (h : LayZ s) : kd s 97 = some (.inr (0, 22)) := h.1 (97, .inr (0, 22)) (List.mem_of_getElem? (i := 87) (by decide +kernel))
theorem kd_98Z {s : PS} (h : LayZ s) : kd s 98 = some (.inr (0, 22)) := h.1 (98, .inr (0, 22)) (List.mem_of_getElem? (i := 88) (by decide +kernel))
theorem kd_99Z {s : PS} (h : LayZ s) : kd s 99 = some (.inl 3) := h.1 (99, .inl 3) (List.mem_of_getElem? (i := 89) (by decide +kernel))
theorem kd_100Z {s : PS} (h : LayZ s) : kd s 100 = some (.inr (0, 22)) := h.1 (100, .inr (0, 22)) (List.mem_of_getElem? (i := 90) (by decide +kernel))
theorem kd_101Z {s : PS} (h : LayZ s) : kd s 101 = some (.inr (0, 22)) := h.1 (101, .inr (0, 22)) (List.mem_of_getElem? (i := 91) (by decide +kernel))
theorem kd_102Z {s : PS} (h : LayZ s) : kd s 102 = some (.inl 3) := h.1 (102, .inl 3) (List.mem_of_getElem? (i := 92) (by decide +kernel))
theorem kd_103Z {s : PS} (h : LayZ s) : kd s 103 = some (.inr (0, 22)) := h.1 (103, .inr (0, 22)) (List.mem_of_getElem? (i := 93) (by decide +kernel))
theorem kd_104Z {s : PS} (h : LayZ s) : kd s 104 = some (.inr (0, 22)) := h.1 (104, .inr (0, 22)) (List.mem_of_getElem? (i := 94) (by decide +kernel))
theorem kd_105Z {s : PS} (h : LayZ s) : kd s 105 = some (.inl 3) := h.1 (105, .inl 3) (List.mem_of_getElem? (i := 95) (by decide +kernel))
theorem kd_106Z {s : PS} (h : LayZ s) : kd s 106 = some (.inr (0, 22)) := h.1 (106, .inr (0, 22)) (List.mem_of_getElem? (i := 96) (by decide +kernel))
theorem kd_107Z {s : PS} (h : LayZ s) : kd s 107 = some (.inr (0, 22)) := h.1 (107, .inr (0, 22)) (List.mem_of_getElem? (i := 97) (by decide +kernel))
theorem kd_108Z {s : PS} (h : LayZ s) : kd s 108 = some (.inl 3) := h.1 (108, .inl 3) (List.mem_of_getElem? (i := 98) (by decide +kernel))
theorem kd_109Z {s : PS} (h : LayZ s) : kd s 109 = some (.inr (0, 22)) := h.1 (109, .inr (0, 22)) (List.mem_of_getElem? (i := 99) (by decide +kernel))
theorem kd_110Z {s : PS} (h : LayZ s) : kd s 110 = some (.inr (0, 22)) := h.1 (110, .inr (0, 22)) (List.mem_of_getElem? (i := 100) (by decide +kernel))
theorem kd_111Z {s : PS} (h : LayZ s) : kd s 111 = some (.inl 3) := h.1 (111, .inl 3) (List.mem_of_getElem? (i := 101) (by decide +kernel))
theorem kd_112Z {s : PS} (h : LayZ s) : kd s 112 = some (.inr (0, 22)) := h.1 (112, .inr (0, 22)) (List.mem_of_getElem? (i := 102) (by decide +kernel))
theorem kd_113Z {s : PS} (h : LayZ s) : kd s 113 = some (.inr (0, 22)) := h.1 (113, .inr (0, 22)) (List.mem_of_getElem? (i := 103) (by decide +kernel))
theorem kd_114Z {s : PS} (h : LayZ s) : kd s 114 = some (.inl 3) := h.1 (114, .inl 3) (List.mem_of_getElem? (i := 104) (by decide +kernel))
theorem kd_115Z {s : PS} (h : LayZ s) : kd s 115 = some (.inr (0, 22)) := h.1 (115, .inr (0, 22)) (List.mem_of_getElem? (i := 105) (by decide +kernel))
theorem kd_116Z {s : PS} (h : LayZ s) : kd s 116 = some (.inr (0, 22)) := h.1 (116, .inr (0, 22)) (List.mem_of_getElem? (i := 106) (by decide +kernel))
theorem kd_117Z {s : PS} (h : LayZ s) : kd s 117 = some (.inl 3) := h.1 (117, .inl 3) (List.mem_of_getElem? (i := 107) (by decide +kernel))
theorem kd_118Z {s : PS} (h : LayZ s) : kd s 118 = some (.inr (0, 22)) := h.1 (118, .inr (0, 22)) (List.mem_of_getElem? (i := 108) (by decide +kernel))
theorem kd_119Z {s : PS} (h : LayZ s) : kd s 119 = some (.inr (0, 22)) := h.1 (119, .inr (0, 22)) (List.mem_of_getElem? (i := 109) (by decide +kernel))
theorem kd_120Z {s : PS} (h : LayZ s) : kd s 120 = some (.inl 3) := h.1 (120, .inl 3) (List.mem_of_getElem? (i := 110) (by decide +kernel))
theorem kd_121Z {s : PS} (h : LayZ s) : kd s 121 = some (.inr (0, 22)) := h.1 (121, .inr (0, 22)) (List.mem_of_getElem? (i := 111) (by decide +kernel))
theorem kd_122Z {s : PS} (h : LayZ s) : kd s 122 = some (.inr (0, 22)) := h.1 (122, .inr (0, 22)) (List.mem_of_getElem? (i := 112) (by decide +kernel))
theorem kd_123Z {s : PS} (h : LayZ s) : kd s 123 = some (.inl 3) := h.1 (123, .inl 3) (List.mem_of_getElem? (i := 113) (by decide +kernel))
theorem kd_124Z {s : PS} (h : LayZ s) : kd s 124 = some (.inr (0, 22)) := h.1 (124, .inr (0, 22)) (List.mem_of_getElem? (i := 114) (by decide +kernel))
theorem kd_125Z {s : PS} (h : LayZ s) : kd s 125 = some (.inr (0, 22)) := h.1 (125, .inr (0, 22)) (List.mem_of_getElem? (i := 115) (by decide +kernel))
theorem kd_126Z {s : PS} (h : LayZ s) : kd s 126 = some (.inl 3) := h.1 (126, .inl 3) (List.mem_of_getElem? (i := 116) (by decide +kernel))
theorem kd_127Z {s : PS} (h : LayZ s) : kd s 127 = some (.inr (0, 22)) := h.1 (127, .inr (0, 22)) (List.mem_of_getElem? (i := 117) (by decide +kernel))
theorem kd_128Z {s : PS} (h : LayZ s) : kd s 128 = some (.inr (0, 22)) := h.1 (128, .inr (0, 22)) (List.mem_of_getElem? (i := 118) (by decide +kernel))
theorem kd_129Z {s : PS} (h : LayZ s) : kd s 129 = some (.inl 2) := h.1 (129, .inl 2) (List.mem_of_getElem? (i := 119) (by decide +kernel))
theorem kd_130Z {s : PS} (h : LayZ s) : kd s 130 = some (.inr (0, 40)) := h.1 (130, .inr (0, 40)) (List.mem_of_getElem? (i := 120) (by decide +kernel))
theorem kd_131Z {s : PS} (h : LayZ s) : kd s 131 = some (.inr (0, 40)) := h.1 (131, .inr (0, 40)) (List.mem_of_getElem? (i := 121) (by decide +kernel))
theorem kd_132Z {s : PS} (h : LayZ s) : kd s 132 = some (.inr (0, 40)) := h.1 (132, .inr (0, 40)) (List.mem_of_getElem? (i := 122) (by decide +kernel))
theorem kd_133Z {s : PS} (h : LayZ s) : kd s 133 = some (.inl 1) := h.1 (133, .inl 1) (List.mem_of_getElem? (i := 123) (by decide +kernel))
theorem kd_134Z {s : PS} (h : LayZ s) : kd s 134 = some (.inl 2) := h.1 (134, .inl 2) (List.mem_of_getElem? (i := 124) (by decide +kernel))
theorem kd_135Z {s : PS} (h : LayZ s) : kd s 135 = some (.inr (0, 40)) := h.1 (135, .inr (0, 40)) (List.mem_of_getElem? (i := 125) (by decide +kernel))
theorem kd_136Z {s : PS} (h : LayZ s) : kd s 136 = some (.inr (0, 40)) := h.1 (136, .inr (0, 40)) (List.mem_of_getElem? (i := 126) (by decide +kernel))
theorem kd_137Z {s : PS} (h : LayZ s) : kd s 137 = some (.inr (0, 40)) := h.1 (137, .inr (0, 40)) (List.mem_of_getElem? (i := 127) (by decide +kernel))
theorem kd_144Z {s : PS} (h : LayZ s) : kd s 144 = some (.inl 10) := h.1 (144, .inl 10) (List.mem_of_getElem? (i := 134) (by decide +kernel))
theorem kd_149Z {s : PS} (h : LayZ s) : kd s 149 = some (.inl 9) := h.1 (149, .inl 9) (List.mem_of_getElem? (i := 139) (by decide +kernel))
theorem mr_20_0Z {s : PS} (h : LayZ s) : mr s 20 0 = some 21 := h.2 (20, 0, 21) (List.mem_of_getElem? (i := 9) (by decide +kernel))
theorem rv_20_0Z {s : PS} (h : LayZ s) : fv s 4 20 0 = .ref 21 := by
  show va_rf (mr s 20 0) = _
  rw [mr_20_0Z h]
  rfl
theorem mr_20_1Z {s : PS} (h : LayZ s) : mr s 20 1 = some 22 := h.2 (20, 1, 22) (List.mem_of_getElem? (i := 10) (by decide +kernel))
theorem rv_20_1Z {s : PS} (h : LayZ s) : fv s 4 20 1 = .ref 22 := by
  show va_rf (mr s 20 1) = _
  rw [mr_20_1Z h]
  rfl
theorem mr_20_2Z {s : PS} (h : LayZ s) : mr s 20 2 = some 23 := h.2 (20, 2, 23) (List.mem_of_getElem? (i := 11) (by decide +kernel))
theorem rv_20_2Z {s : PS} (h : LayZ s) : fv s 4 20 2 = .ref 23 := by
  show va_rf (mr s 20 2) = _
  rw [mr_20_2Z h]
  rfl
theorem mr_20_4Z {s : PS} (h : LayZ s) : mr s 20 4 = some 24 := h.2 (20, 4, 24) (List.mem_of_getElem? (i := 12) (by decide +kernel))
theorem rv_20_4Z {s : PS} (h : LayZ s) : fv s 4 20 4 = .ref 24 := by
  show va_rf (mr s 20 4) = _
  rw [mr_20_4Z h]
  rfl
theorem mr_20_5Z {s : PS} (h : LayZ s) : mr s 20 5 = some 25 := h.2 (20, 5, 25) (List.mem_of_getElem? (i := 13) (by decide +kernel))
theorem rv_20_5Z {s : PS} (h : LayZ s) : fv s 4 20 5 = .ref 25 := by
  show va_rf (mr s 20 5) = _
  rw [mr_20_5Z h]
  rfl
theorem mr_20_7Z {s : PS} (h : LayZ s) : mr s 20 7 = some 26 := h.2 (20, 7, 26) (List.mem_of_getElem? (i := 14) (by decide +kernel))
theorem rv_20_7Z {s : PS} (h : LayZ s) : fv s 4 20 7 = .ref 26 := by
  show va_rf (mr s 20 7) = _
  rw [mr_20_7Z h]
  rfl
theorem mr_20_8Z {s : PS} (h : LayZ s) : mr s 20 8 = some 27 := h.2 (20, 8, 27) (List.mem_of_getElem? (i := 15) (by decide +kernel))
theorem rv_20_8Z {s : PS} (h : LayZ s) : fv s 4 20 8 = .ref 27 := by
  show va_rf (mr s 20 8) = _
  rw [mr_20_8Z h]
  rfl
theorem mr_20_9Z {s : PS} (h : LayZ s) : mr s 20 9 = some 28 := h.2 (20, 9, 28) (List.mem_of_getElem? (i := 16) (by decide +kernel))
theorem rv_20_9Z {s : PS} (h : LayZ s) : fv s 4 20 9 = .ref 28 := by
  show va_rf (mr s 20 9) = _
  rw [mr_20_9Z h]
  rfl
theorem mr_10_2Z {s : PS} (h : LayZ s) : mr s 10 2 = some 20 := h.2 (10, 2, 20) (List.mem_of_getElem? (i := 17) (by decide +kernel))
theorem rv_10_2Z {s : PS} (h : LayZ s) : fv s 11 10 2 = .ref 20 := by
  show va_rf (mr s 10 2) = _
  rw [mr_10_2Z h]
  rfl
theorem mr_29_0Z {s : PS} (h : LayZ s) : mr s 29 0 = some 30 := h.2 (29, 0, 30) (List.mem_of_getElem? (i := 18) (by decide +kernel))
theorem rv_29_0Z {s : PS} (h : LayZ s) : fv s 4 29 0 = .ref 30 := by
  show va_rf (mr s 29 0) = _
  rw [mr_29_0Z h]
  rfl
theorem mr_29_1Z {s : PS} (h : LayZ s) : mr s 29 1 = some 31 := h.2 (29, 1, 31) (List.mem_of_getElem? (i := 19) (by decide +kernel))
theorem rv_29_1Z {s : PS} (h : LayZ s) : fv s 4 29 1 = .ref 31 := by
  show va_rf (mr s 29 1) = _
  rw [mr_29_1Z h]
  rfl
theorem mr_29_2Z {s : PS} (h : LayZ s) : mr s 29 2 = some 32 := h.2 (29, 2, 32) (List.mem_of_getElem? (i := 20) (by decide +kernel))
theorem rv_29_2Z {s : PS} (h : LayZ s) : fv s 4 29 2 = .ref 32 := by
  show va_rf (mr s 29 2) = _
  rw [mr_29_2Z h]
  rfl
theorem mr_29_4Z {s : PS} (h : LayZ s) : mr s 29 4 = some 33 := h.2 (29, 4, 33) (List.mem_of_getElem? (i := 21) (by decide +kernel))
theorem rv_29_4Z {s : PS} (h : LayZ s) : fv s 4 29 4 = .ref 33 := by
  show va_rf (mr s 29 4) = _
  rw [mr_29_4Z h]
  rfl
theorem mr_29_5Z {s : PS} (h : LayZ s) : mr s 29 5 = some 34 := h.2 (29, 5, 34) (List.mem_of_getElem? (i := 22) (by decide +kernel))
theorem rv_29_5Z {s : PS} (h : LayZ s) : fv s 4 29 5 = .ref 34 := by
  show va_rf (mr s 29 5) = _
  rw [mr_29_5Z h]
  rfl
theorem mr_29_7Z {s : PS} (h : LayZ s) : mr s 29 7 = some 35 := h.2 (29, 7, 35) (List.mem_of_getElem? (i := 23) (by decide +kernel))
theorem rv_29_7Z {s : PS} (h : LayZ s) : fv s 4 29 7 = .ref 35 := by
  show va_rf (mr s 29 7) = _
  rw [mr_29_7Z h]
  rfl
theorem mr_29_8Z {s : PS} (h : LayZ s) : mr s 29 8 = some 36 := h.2 (29, 8, 36) (List.mem_of_getElem? (i := 24) (by decide +kernel))
theorem rv_29_8Z {s : PS} (h : LayZ s) : fv s 4 29 8 = .ref 36 := by
  show va_rf (mr s 29 8) = _
  rw [mr_29_8Z h]
  rfl
theorem mr_29_9Z {s : PS} (h : LayZ s) : mr s 29 9 = some 37 := h.2 (29, 9, 37) (List.mem_of_getElem? (i := 25) (by decide +kernel))
theorem rv_29_9Z {s : PS} (h : LayZ s) : fv s 4 29 9 = .ref 37 := by
  show va_rf (mr s 29 9) = _
  rw [mr_29_9Z h]
  rfl
theorem mr_38_0Z {s : PS} (h : LayZ s) : mr s 38 0 = some 39 := h.2 (38, 0, 39) (List.mem_of_getElem? (i := 27) (by decide +kernel))
theorem rv_38_0Z {s : PS} (h : LayZ s) : fv s 0 38 0 = .ref 39 := by
  show va_rf (mr s 38 0) = _
  rw [mr_38_0Z h]
  rfl
theorem mr_10_4Z {s : PS} (h : LayZ s) : mr s 10 4 = some 38 := h.2 (10, 4, 38) (List.mem_of_getElem? (i := 28) (by decide +kernel))
theorem rv_10_4Z {s : PS} (h : LayZ s) : fv s 11 10 4 = .ref 38 := by
  show va_rf (mr s 10 4) = _
  rw [mr_10_4Z h]
  rfl
theorem mr_81_1Z {s : PS} (h : LayZ s) : mr s 81 1 = some 82 := h.2 (81, 1, 82) (List.mem_of_getElem? (i := 29) (by decide +kernel))
theorem rv_81_1Z {s : PS} (h : LayZ s) : fv s 3 81 1 = .ref 82 := by
  show va_rf (mr s 81 1) = _
  rw [mr_81_1Z h]
  rfl
theorem mr_81_2Z {s : PS} (h : LayZ s) : mr s 81 2 = some 83 := h.2 (81, 2, 83) (List.mem_of_getElem? (i := 30) (by decide +kernel))
theorem rv_81_2Z {s : PS} (h : LayZ s) : fv s 3 81 2 = .ref 83 := by
  show va_rf (mr s 81 2) = _
  rw [mr_81_2Z h]
  rfl
theorem mr_10_5Z {s : PS} (h : LayZ s) : mr s 10 5 = some 81 := h.2 (10, 5, 81) (List.mem_of_getElem? (i := 31) (by decide +kernel))
theorem rv_10_5Z {s : PS} (h : LayZ s) : fv s 11 10 5 = .ref 81 := by
  show va_rf (mr s 10 5) = _
  rw [mr_10_5Z h]
  rfl
theorem mr_84_1Z {s : PS} (h : LayZ s) : mr s 84 1 = some 85 := h.2 (84, 1, 85) (List.mem_of_getElem? (i := 32) (by decide +kernel))
theorem rv_84_1Z {s : PS} (h : LayZ s) : fv s 3 84 1 = .ref 85 := by
  show va_rf (mr s 84 1) = _
  rw [mr_84_1Z h]
  rfl
theorem mr_84_2Z {s : PS} (h : LayZ s) : mr s 84 2 = some 86 := h.2 (84, 2, 86) (List.mem_of_getElem? (i := 33) (by decide +kernel))
theorem rv_84_2Z {s : PS} (h : LayZ s) : fv s 3 84 2 = .ref 86 := by
  show va_rf (mr s 84 2) = _
  rw [mr_84_2Z h]
  rfl
theorem mr_93_1Z {s : PS} (h : LayZ s) : mr s 93 1 = some 94 := h.2 (93, 1, 94) (List.mem_of_getElem? (i := 41) (by decide +kernel))
theorem rv_93_1Z {s : PS} (h : LayZ s) : fv s 3 93 1 = .ref 94 := by
  show va_rf (mr s 93 1) = _
  rw [mr_93_1Z h]
  rfl
theorem mr_93_2Z {s : PS} (h : LayZ s) : mr s 93 2 = some 95 := h.2 (93, 2, 95) (List.mem_of_getElem? (i := 42) (by decide +kernel))
theorem rv_93_2Z {s : PS} (h : LayZ s) : fv s 3 93 2 = .ref 95 := by
  show va_rf (mr s 93 2) = _
  rw [mr_93_2Z h]
  rfl
theorem mr_96_1Z {s : PS} (h : LayZ s) : mr s 96 1 = some 97 := h.2 (96, 1, 97) (List.mem_of_getElem? (i := 44) (by decide +kernel))
theorem rv_96_1Z {s : PS} (h : LayZ s) : fv s 3 96 1 = .ref 97 := by
  show va_rf (mr s 96 1) = _
  rw [mr_96_1Z h]
  rfl
theorem mr_96_2Z {s : PS} (h : LayZ s) : mr s 96 2 = some 98 := h.2 (96, 2, 98) (List.mem_of_getElem? (i := 45) (by decide +kernel))
theorem rv_96_2Z {s : PS} (h : LayZ s) : fv s 3 96 2 = .ref 98 := by
  show va_rf (mr s 96 2) = _
  rw [mr_96_2Z h]
  rfl
theorem mr_99_1Z {s : PS} (h : LayZ s) : mr s 99 1 = some 100 := h.2 (99, 1, 100) (List.mem_of_getElem? (i := 47) (by decide +kernel))
theorem rv_99_1Z {s : PS} (h : LayZ s) : fv s 3 99 1 = .ref 100 := by
  show va_rf (mr s 99 1) = _
  rw [mr_99_1Z h]
  rfl
theorem mr_99_2Z {s : PS} (h : LayZ s) : mr s 99 2 = some 101 := h.2 (99, 2, 101) (List.mem_of_getElem? (i := 48) (by decide +kernel))
theorem rv_99_2Z {s : PS} (h : LayZ s) : fv s 3 99 2 = .ref 101 := by
  show va_rf (mr s 99 2) = _
  rw [mr_99_2Z h]
  rfl
theorem mr_102_1Z {s : PS} (h : LayZ s) : mr s 102 1 = some 103 := h.2 (102, 1, 103) (List.mem_of_getElem? (i := 50) (by decide +kernel))
theorem rv_102_1Z {s : PS} (h : LayZ s) : fv s 3 102 1 = .ref 103 := by
  show va_rf (mr s 102 1) = _
  rw [mr_102_1Z h]
  rfl
theorem mr_102_2Z {s : PS} (h : LayZ s) : mr s 102 2 = some 104 := h.2 (102, 2, 104) (List.mem_of_getElem? (i := 51) (by decide +kernel))
theorem rv_102_2Z {s : PS} (h : LayZ s) : fv s 3 102 2 = .ref 104 := by
  show va_rf (mr s 102 2) = _
  rw [mr_102_2Z h]
  rfl
theorem mr_105_1Z {s : PS} (h : LayZ s) : mr s 105 1 = some 106 := h.2 (105, 1, 106) (List.mem_of_getElem? (i := 53) (by decide +kernel))
theorem rv_105_1Z {s : PS} (h : LayZ s) : fv s 3 105 1 = .ref 106 := by
  show va_rf (mr s 105 1) = _
  rw [mr_105_1Z h]
  rfl
theorem mr_105_2Z {s : PS} (h : LayZ s) : mr s 105 2 = some 107 := h.2 (105, 2, 107) (List.mem_of_getElem? (i := 54) (by decide +kernel))
theorem rv_105_2Z {s : PS} (h : LayZ s) : fv s 3 105 2 = .ref 107 := by
  show va_rf (mr s 105 2) = _
  rw [mr_105_2Z h]
  rfl
theorem mr_108_1Z {s : PS} (h : LayZ s) : mr s 108 1 = some 109 := h.2 (108, 1, 109) (List.mem_of_getElem? (i := 56) (by decide +kernel))
theorem rv_108_1Z {s : PS} (h : LayZ s) : fv s 3 108 1 = .ref 109 := by
  show va_rf (mr s 108 1) = _
  rw [mr_108_1Z h]
  rfl
theorem mr_108_2Z {s : PS} (h : LayZ s) : mr s 108 2 = some 110 := h.2 (108, 2, 110) (List.mem_of_getElem? (i := 57) (by decide +kernel))
theorem rv_108_2Z {s : PS} (h : LayZ s) : fv s 3 108 2 = .ref 110 := by
  show va_rf (mr s 108 2) = _
  rw [mr_108_2Z h]
  rfl
theorem mr_111_1Z {s : PS} (h : LayZ s) : mr s 111 1 = some 112 := h.2 (111, 1, 112) (List.mem_of_getElem? (i := 59) (by decide +kernel))
theorem rv_111_1Z {s : PS} (h : LayZ s) : fv s 3 111 1 = .ref 112 := by
  show va_rf (mr s 111 1) = _
  rw [mr_111_1Z h]
  rfl
theorem mr_111_2Z {s : PS} (h : LayZ s) : mr s 111 2 = some 113 := h.2 (111, 2, 113) (List.mem_of_getElem? (i := 60) (by decide +kernel))
theorem rv_111_2Z {s : PS} (h : LayZ s) : fv s 3 111 2 = .ref 113 := by
  show va_rf (mr s 111 2) = _
  rw [mr_111_2Z h]
  rfl
theorem mr_114_1Z {s : PS} (h : LayZ s) : mr s 114 1 = some 115 := h.2 (114, 1, 115) (List.mem_of_getElem? (i := 62) (by decide +kernel))
theorem rv_114_1Z {s : PS} (h : LayZ s) : fv s 3 114 1 = .ref 115 := by
  show va_rf (mr s 114 1) = _
  rw [mr_114_1Z h]
  rfl
theorem mr_114_2Z {s : PS} (h : LayZ s) : mr s 114 2 = some 116 := h.2 (114, 2, 116) (List.mem_of_getElem? (i := 63) (by decide +kernel))
theorem rv_114_2Z {s : PS} (h : LayZ s) : fv s 3 114 2 = .ref 116 := by
  show va_rf (mr s 114 2) = _
  rw [mr_114_2Z h]
  rfl
theorem mr_117_1Z {s : PS} (h : LayZ s) : mr s 117 1 = some 118 := h.2 (117, 1, 118) (List.mem_of_getElem? (i := 65) (by decide +kernel))
theorem rv_117_1Z {s : PS} (h : LayZ s) : fv s 3 117 1 = .ref 118 := by
  show va_rf (mr s 117 1) = _
  rw [mr_117_1Z h]
  rfl
theorem mr_117_2Z {s : PS} (h : LayZ s) : mr s 117 2 = some 119 := h.2 (117, 2, 119) (List.mem_of_getElem? (i := 66) (by decide +kernel))
theorem rv_117_2Z {s : PS} (h : LayZ s) : fv s 3 117 2 = .ref 119 := by
  show va_rf (mr s 117 2) = _
  rw [mr_117_2Z h]
  rfl
theorem mr_120_1Z {s : PS} (h : LayZ s) : mr s 120 1 = some 121 := h.2 (120, 1, 121) (List.mem_of_getElem? (i := 68) (by decide +kernel))
theorem rv_120_1Z {s : PS} (h : LayZ s) : fv s 3 120 1 = .ref 121 := by
  show va_rf (mr s 120 1) = _
  rw [mr_120_1Z h]
  rfl
theorem mr_120_2Z {s : PS} (h : LayZ s) : mr s 120 2 = some 122 := h.2 (120, 2, 122) (List.mem_of_getElem? (i := 69) (by decide +kernel))
theorem rv_120_2Z {s : PS} (h : LayZ s) : fv s 3 120 2 = .ref 122 := by
  show va_rf (mr s 120 2) = _
  rw [mr_120_2Z h]
  rfl
theorem mr_123_1Z {s : PS} (h : LayZ s) : mr s 123 1 = some 124 := h.2 (123, 1, 124) (List.mem_of_getElem? (i := 71) (by decide +kernel))
theorem rv_123_1Z {s : PS} (h : LayZ s) : fv s 3 123 1 = .ref 124 := by
  show va_rf (mr s 123 1) = _
  rw [mr_123_1Z h]
  rfl
theorem mr_123_2Z {s : PS} (h : LayZ s) : mr s 123 2 = some 125 := h.2 (123, 2, 125) (List.mem_of_getElem? (i := 72) (by decide +kernel))
theorem rv_123_2Z {s : PS} (h : LayZ s) : fv s 3 123 2 = .ref 125 := by
  show va_rf (mr s 123 2) = _
  rw [mr_123_2Z h]
  rfl
theorem mr_126_1Z {s : PS} (h : LayZ s) : mr s 126 1 = some 127 := h.2 (126, 1, 127) (List.mem_of_getElem? (i := 74) (by decide +kernel))
theorem rv_126_1Z {s : PS} (h : LayZ s) : fv s 3 126 1 = .ref 127 := by
  show va_rf (mr s 126 1) = _
  rw [mr_126_1Z h]
  rfl
theorem mr_126_2Z {s : PS} (h : LayZ s) : mr s 126 2 = some 128 := h.2 (126, 2, 128) (List.mem_of_getElem? (i := 75) (by decide +kernel))
theorem rv_126_2Z {s : PS} (h : LayZ s) : fv s 3 126 2 = .ref 128 := by
  show va_rf (mr s 126 2) = _
  rw [mr_126_2Z h]
  rfl
theorem mr_10_7Z {s : PS} (h : LayZ s) : mr s 10 7 = some 87 := h.2 (10, 7, 87) (List.mem_of_getElem? (i := 77) (by decide +kernel))
theorem rv_10_7Z {s : PS} (h : LayZ s) : fv s 11 10 7 = .ref 87 := by
  show va_rf (mr s 10 7) = _
  rw [mr_10_7Z h]
  rfl
theorem mr_129_1Z {s : PS} (h : LayZ s) : mr s 129 1 = some 130 := h.2 (129, 1, 130) (List.mem_of_getElem? (i := 78) (by decide +kernel))
theorem rv_129_1Z {s : PS} (h : LayZ s) : fv s 2 129 1 = .ref 130 := by
  show va_rf (mr s 129 1) = _
  rw [mr_129_1Z h]
  rfl
theorem mr_129_2Z {s : PS} (h : LayZ s) : mr s 129 2 = some 131 := h.2 (129, 2, 131) (List.mem_of_getElem? (i := 79) (by decide +kernel))
theorem rv_129_2Z {s : PS} (h : LayZ s) : fv s 2 129 2 = .ref 131 := by
  show va_rf (mr s 129 2) = _
  rw [mr_129_2Z h]
  rfl
theorem mr_129_3Z {s : PS} (h : LayZ s) : mr s 129 3 = some 132 := h.2 (129, 3, 132) (List.mem_of_getElem? (i := 80) (by decide +kernel))
theorem rv_129_3Z {s : PS} (h : LayZ s) : fv s 2 129 3 = .ref 132 := by
  show va_rf (mr s 129 3) = _
  rw [mr_129_3Z h]
  rfl
theorem mr_10_8Z {s : PS} (h : LayZ s) : mr s 10 8 = some 129 := h.2 (10, 8, 129) (List.mem_of_getElem? (i := 81) (by decide +kernel))
theorem rv_10_8Z {s : PS} (h : LayZ s) : fv s 11 10 8 = .ref 129 := by
  show va_rf (mr s 10 8) = _
  rw [mr_10_8Z h]
  rfl
theorem mr_134_1Z {s : PS} (h : LayZ s) : mr s 134 1 = some 135 := h.2 (134, 1, 135) (List.mem_of_getElem? (i := 82) (by decide +kernel))
theorem rv_134_1Z {s : PS} (h : LayZ s) : fv s 2 134 1 = .ref 135 := by
  show va_rf (mr s 134 1) = _
  rw [mr_134_1Z h]
  rfl
theorem mr_134_2Z {s : PS} (h : LayZ s) : mr s 134 2 = some 136 := h.2 (134, 2, 136) (List.mem_of_getElem? (i := 83) (by decide +kernel))
theorem rv_134_2Z {s : PS} (h : LayZ s) : fv s 2 134 2 = .ref 136 := by
  show va_rf (mr s 134 2) = _
  rw [mr_134_2Z h]
  rfl
theorem mr_134_3Z {s : PS} (h : LayZ s) : mr s 134 3 = some 137 := h.2 (134, 3, 137) (List.mem_of_getElem? (i := 84) (by decide +kernel))
theorem rv_134_3Z {s : PS} (h : LayZ s) : fv s 2 134 3 = .ref 137 := by
  show va_rf (mr s 134 3) = _
  rw [mr_134_3Z h]
  rfl
theorem mr_10_9Z {s : PS} (h : LayZ s) : mr s 10 9 = some 133 := h.2 (10, 9, 133) (List.mem_of_getElem? (i := 94) (by decide +kernel))
theorem rv_10_9Z {s : PS} (h : LayZ s) : fv s 11 10 9 = .ref 133 := by
  show va_rf (mr s 10 9) = _
  rw [mr_10_9Z h]
  rfl
theorem mr_10_10Z {s : PS} (h : LayZ s) : mr s 10 10 = some 144 := h.2 (10, 10, 144) (List.mem_of_getElem? (i := 100) (by decide +kernel))
theorem rv_10_10Z {s : PS} (h : LayZ s) : fv s 11 10 10 = .ref 144 := by
  show va_rf (mr s 10 10) = _
  rw [mr_10_10Z h]
  rfl
theorem mr_10_11Z {s : PS} (h : LayZ s) : mr s 10 11 = some 149 := h.2 (10, 11, 149) (List.mem_of_getElem? (i := 119) (by decide +kernel))
theorem rv_10_11Z {s : PS} (h : LayZ s) : fv s 11 10 11 = .ref 149 := by
  show va_rf (mr s 10 11) = _
  rw [mr_10_11Z h]
  rfl
theorem kisCZ {s : PS} {o : Nat} (h : LayZ s) (ho : isC o) : kd s o = some (.inl 3) := by
  unfold isC at ho
  simp only [List.mem_cons, List.not_mem_nil, or_false] at ho
  rcases ho with rfl | rfl | rfl | rfl | rfl | rfl | rfl | rfl | rfl | rfl | rfl | rfl | rfl | rfl
  · exact kd_81Z h
  · exact kd_84Z h
  · exact kd_93Z h
  · exact kd_96Z h
  · exact kd_99Z h
  · exact kd_102Z h
  · exact kd_105Z h
  · exact kd_108Z h
  · exact kd_111Z h
  · exact kd_114Z h
  · exact kd_117Z h
  · exact kd_120Z h
  · exact kd_123Z h
  · exact kd_126Z h
theorem kisC_1Z {s : PS} {o : Nat} (h : LayZ s) (ho : isC o) : kd s (o + 1) = some (.inr (0, 22)) := by
  unfold isC at ho
  simp only [List.mem_cons, List.not_mem_nil, or_false] at ho
  rcases ho with rfl | rfl | rfl | rfl | rfl | rfl | rfl | rfl | rfl | rfl | rfl | rfl | rfl | rfl
  · exact kd_82Z h
  · exact kd_85Z h
  · exact kd_94Z h
  · exact kd_97Z h
  · exact kd_100Z h
  · exact kd_103Z h
  · exact kd_106Z h
  · exact kd_109Z h
  · exact kd_112Z h
  · exact kd_115Z h
  · exact kd_118Z h
  · exact kd_121Z h
  · exact kd_124Z h
  · exact kd_127Z h
theorem risC_1Z {s : PS} {o : Nat} (h : LayZ s) (ho : isC o) : fv s 3 o 1 = .ref (o + 1) := by
  unfold isC at ho
  simp only [List.mem_cons, List.not_mem_nil, or_false] at ho
  rcases ho with rfl | rfl | rfl | rfl | rfl | rfl | rfl | rfl | rfl | rfl | rfl | rfl | rfl | rfl
  · exact rv_81_1Z h
  · exact rv_84_1Z h
  · exact rv_93_1Z h
  · exact rv_96_1Z h
  · exact rv_99_1Z h
  · exact rv_102_1Z h
  · exact rv_105_1Z h
  · exact rv_108_1Z h
  · exact rv_111_1Z h
  · exact rv_114_1Z h
  · exact rv_117_1Z h
  · exact rv_120_1Z h
  · exact rv_123_1Z h
  · exact rv_126_1Z h
theorem kisC_2Z {s : PS} {o : Nat} (h : LayZ s) (ho : isC o) : kd s (o + 2) = some (.inr (0, 22)) := by
  unfold isC at ho
  simp only [List.mem_cons, List.not_mem_nil, or_false] at ho
  rcases ho with rfl | rfl | rfl | rfl | rfl | rfl | rfl | rfl | rfl | rfl | rfl | rfl | rfl | rfl
  · exact kd_83Z h
  · exact kd_86Z h
  · exact kd_95Z h
  · exact kd_98Z h
  · exact kd_101Z h
  · exact kd_104Z h
  · exact kd_107Z h
  · exact kd_110Z h
  · exact kd_113Z h
  · exact kd_116Z h
  · exact kd_119Z h
  · exact kd_122Z h
  · exact kd_125Z h
  · exact kd_128Z h
theorem risC_2Z {s : PS} {o : Nat} (h : LayZ s) (ho : isC o) : fv s 3 o 2 = .ref (o + 2) := by
  unfold isC at ho
  simp only [List.mem_cons, List.not_mem_nil, or_false] at ho
  rcases ho with rfl | rfl | rfl | rfl | rfl | rfl | rfl | rfl | rfl | rfl | rfl | rfl | rfl | rfl
  · exact rv_81_2Z h
  · exact rv_84_2Z h
  · exact rv_93_2Z h
  · exact rv_96_2Z h
  · exact rv_99_2Z h
  · exact rv_102_2Z h
  · exact rv_105_2Z h
  · exact rv_108_2Z h
  · exact rv_111_2Z h
  · exact rv_114_2Z h
  · exact rv_117_2Z h
  · exact rv_120_2Z h
  · exact rv_123_2Z h
  · exact rv_126_2Z h
theorem kisFZ {s : PS} {o : Nat} (h : LayZ s) (ho : isF o) : kd s o = some (.inl 4) := by
  unfold isF at ho
  simp only [List.mem_cons, List.not_mem_nil, or_false] at ho
  rcases ho with rfl | rfl
  · exact kd_20Z h
  · exact kd_29Z h
theorem kisF_0Z {s : PS} {o : Nat} (h : LayZ s) (ho : isF o) : kd s (o + 1) = some (.inr (0, 16)) := by
  unfold isF at ho
  simp only [List.mem_cons, List.not_mem_nil, or_false] at ho
  rcases ho with rfl | rfl
  · exact kd_21Z h
  · exact kd_30Z h
theorem risF_0Z {s : PS} {o : Nat} (h : LayZ s) (ho : isF o) : fv s 4 o 0 = .ref (o + 1) := by
  unfold isF at ho
  simp only [List.mem_cons, List.not_mem_nil, or_false] at ho
  rcases ho with rfl | rfl
  · exact rv_20_0Z h
  · exact rv_29_0Z h
theorem kisF_1Z {s : PS} {o : Nat} (h : LayZ s) (ho : isF o) : kd s (o + 2) = some (.inr (0, 10)) := by
  unfold isF at ho
  simp only [List.mem_cons, List.not_mem_nil, or_false] at ho
  rcases ho with rfl | rfl
  · exact kd_22Z h
  · exact kd_31Z h
theorem risF_1Z {s : PS} {o : Nat} (h : LayZ s) (ho : isF o) : fv s 4 o 1 = .ref (o + 2) := by
  unfold isF at ho
  simp only [List.mem_cons, List.not_mem_nil, or_false] at ho
  rcases ho with rfl | rfl
  · exact rv_20_1Z h
  · exact rv_29_1Z h
theorem kisF_2Z {s : PS} {o : Nat} (h : LayZ s) (ho : isF o) : kd s (o + 3) = some (.inr (0, 10)) := by
  unfold isF at ho
  simp only [List.mem_cons, List.not_mem_nil, or_false] at ho
  rcases ho with rfl | rfl
  · exact kd_23Z h
  · exact kd_32Z h
theorem risF_2Z {s : PS} {o : Nat} (h : LayZ s) (ho : isF o) : fv s 4 o 2 = .ref (o + 3) := by
  unfold isF at ho
  simp only [List.mem_cons, List.not_mem_nil, or_false] at ho
  rcases ho with rfl | rfl
  · exact rv_20_2Z h
  · exact rv_29_2Z h
theorem kisF_4Z {s : PS} {o : Nat} (h : LayZ s) (ho : isF o) : kd s (o + 4) = some (.inr (0, 40)) := by
  unfold isF at ho
  simp only [List.mem_cons, List.not_mem_nil, or_false] at ho
  rcases ho with rfl | rfl
  · exact kd_24Z h
  · exact kd_33Z h
theorem risF_4Z {s : PS} {o : Nat} (h : LayZ s) (ho : isF o) : fv s 4 o 4 = .ref (o + 4) := by
  unfold isF at ho
  simp only [List.mem_cons, List.not_mem_nil, or_false] at ho
  rcases ho with rfl | rfl
  · exact rv_20_4Z h
  · exact rv_29_4Z h
theorem kisF_5Z {s : PS} {o : Nat} (h : LayZ s) (ho : isF o) : kd s (o + 5) = some (.inr (0, 40)) := by
  unfold isF at ho
  simp only [List.mem_cons, List.not_mem_nil, or_false] at ho
  rcases ho with rfl | rfl
  · exact kd_25Z h
  · exact kd_34Z h
theorem risF_5Z {s : PS} {o : Nat} (h : LayZ s) (ho : isF o) : fv s 4 o 5 = .ref (o + 5) := by
  unfold isF at ho
  simp only [List.mem_cons, List.not_mem_nil, or_false] at ho
  rcases ho with rfl | rfl
  · exact rv_20_5Z h
  · exact rv_29_5Z h
theorem kisF_7Z {s : PS} {o : Nat} (h : LayZ s) (ho : isF o) : kd s (o + 6) = some (.inr (0, 22)) := by
  unfold isF at ho
  simp only [List.mem_cons, List.not_mem_nil, or_false] at ho
  rcases ho with rfl | rfl
  · exact kd_26Z h
  · exact kd_35Z h
theorem risF_7Z {s : PS} {o : Nat} (h : LayZ s) (ho : isF o) : fv s 4 o 7 = .ref (o + 6) := by
  unfold isF at ho
  simp only [List.mem_cons, List.not_mem_nil, or_false] at ho
  rcases ho with rfl | rfl
  · exact rv_20_7Z h
  · exact rv_29_7Z h
theorem kisF_8Z {s : PS} {o : Nat} (h : LayZ s) (ho : isF o) : kd s (o + 7) = some (.inr (0, 22)) := by
  unfold isF at ho
  simp only [List.mem_cons, List.not_mem_nil, or_false] at ho
  rcases ho with rfl | rfl
  · exact kd_27Z h
  · exact kd_36Z h
theorem risF_8Z {s : PS} {o : Nat} (h : LayZ s) (ho : isF o) : fv s 4 o 8 = .ref (o + 7) := by
  unfold isF at ho
  simp only [List.mem_cons, List.not_mem_nil, or_false] at ho
  rcases ho with rfl | rfl
  · exact rv_20_8Z h
  · exact rv_29_8Z h
theorem kisF_9Z {s : PS} {o : Nat} (h : LayZ s) (ho : isF o) : kd s (o + 8) = some (.inr (0, 22)) := by
  unfold isF at ho
  simp only [List.mem_cons, List.not_mem_nil, or_false] at ho
  rcases ho with rfl | rfl
  · exact kd_28Z h
  · exact kd_37Z h
theorem risF_9Z {s : PS} {o : Nat} (h : LayZ s) (ho : isF o) : fv s 4 o 9 = .ref (o + 8) := by
  unfold isF at ho
  simp only [List.mem_cons, List.not_mem_nil, or_false] at ho
  rcases ho with rfl | rfl
  · exact rv_20_9Z h
  · exact rv_29_9Z h
theorem kisBZ {s : PS} {o : Nat} (h : LayZ s) (ho : isB o) : kd s o = some (.inl 2) := by
  unfold isB at ho
  simp only [List.mem_cons, List.not_mem_nil, or_false] at ho
  rcases ho with rfl | rfl
  · exact kd_129Z h
  · exact kd_134Z h
theorem kisB_1Z {s : PS} {o : Nat} (h : LayZ s) (ho : isB o) : kd s (o + 1) = some (.inr (0, 40)) := by
  unfold isB at ho
  simp only [List.mem_cons, List.not_mem_nil, or_false] at ho
  rcases ho with rfl | rfl
  · exact kd_130Z h
  · exact kd_135Z h
theorem risB_1Z {s : PS} {o : Nat} (h : LayZ s) (ho : isB o) : fv s 2 o 1 = .ref (o + 1) := by
  unfold isB at ho
  simp only [List.mem_cons, List.not_mem_nil, or_false] at ho
  rcases ho with rfl | rfl
  · exact rv_129_1Z h
  · exact rv_134_1Z h
theorem kisB_2Z {s : PS} {o : Nat} (h : LayZ s) (ho : isB o) : kd s (o + 2) = some (.inr (0, 40)) := by
  unfold isB at ho
  simp only [List.mem_cons, List.not_mem_nil, or_false] at ho
  rcases ho with rfl | rfl
  · exact kd_131Z h
  · exact kd_136Z h
theorem risB_2Z {s : PS} {o : Nat} (h : LayZ s) (ho : isB o) : fv s 2 o 2 = .ref (o + 2) := by
  unfold isB at ho
  simp only [List.mem_cons, List.not_mem_nil, or_false] at ho
  rcases ho with rfl | rfl
  · exact rv_129_2Z h
  · exact rv_134_2Z h
theorem kisB_3Z {s : PS} {o : Nat} (h : LayZ s) (ho : isB o) : kd s (o + 3) = some (.inr (0, 40)) := by
  unfold isB at ho
  simp only [List.mem_cons, List.not_mem_nil, or_false] at ho
  rcases ho with rfl | rfl
  · exact kd_132Z h
  · exact kd_137Z h
theorem risB_3Z {s : PS} {o : Nat} (h : LayZ s) (ho : isB o) : fv s 2 o 3 = .ref (o + 3) := by
  unfold isB at ho
  simp only [List.mem_cons, List.not_mem_nil, or_false] at ho
  rcases ho with rfl | rfl
  · exact rv_129_3Z h
  · exact rv_134_3Z h
theorem vcX0_matesZ {g : GV} {d : Nat} {P : Nat → PS → Prop} {σ : PS} (hL : LayZ σ)  (h : vp_in (mi σ 38 1) 41 ∧ ∃ a2 : Nat, mr σ 39 (Int32.toNatClampNeg (mi σ 38 1)) = some a2 ∧ P a2 σ) : CX0_mates g d [.ref 38] σ P := by
  refine x_entry (L := [some (.ref 38)]) pn_0 (Nat.le_of_ble_eq_true rfl) ⟨0, rfl⟩ ?_
  show VX0_mates g d P 0 [some (.ref 38)] [] σ
  refine x_aload_n (i := 0) (dxX0_mates_0 0 rfl) rfl rfl ?_
  refine gf_0_13 (kd_38Z hL) (rv_38_0Z hL) (dxX0_mates_0 1 rfl) ?_
  refine x_aload_n (i := 0) (dxX0_mates_0 2 rfl) rfl rfl ?_
  refine gf_0_16 (kd_38Z hL) rfl (dxX0_mates_0 3 rfl) ?_
  obtain ⟨hi1, h⟩ := h
  obtain ⟨a2, ha3, h⟩ := h
  refine x_aald (Or.inl rfl) (kd_39Z hL) hi1 ha3 (dxX0_mates_0 4 rfl) ?_
  exact x_aret rfl (dxX0_mates_0 5 rfl) ⟨_, rfl, h⟩
theorem vcX0_forgetZ {g : GV} {d : Nat} {P : PS → Prop} {σ : PS} (hL : LayZ σ)  (h : ∀ s1 : PS, s1 = si σ 38 1 0 → ∀ s3 : PS, s3 = si s1 38 2 0 → ∃ a5 : Nat, mr s3 39 (Int32.toNatClampNeg 0) = some a5 ∧ CJ7_fill_53178 g d [.ref a5, .int (-1)] s3 (fun (s7 : PS) => Fr s3 s7 ∧ P s7)) : CX0_forget g (d + 1) [.ref 38] σ P := by
  refine x_entry (L := [some (.ref 38)]) pn_0 (Nat.le_of_ble_eq_true rfl) ⟨0, rfl⟩ ?_
  show VX0_forget g (d + 1) P 0 [some (.ref 38)] [] σ
  refine x_aload_n (i := 0) (dxX0_forget_0 0 rfl) rfl rfl ?_
  refine x_iconst (v := 0) (dxX0_forget_0 1 rfl) rfl ?_
  refine pf_0_16 (kd_38Z hL) (dxX0_forget_0 2 rfl) ?_
  refine x_sto (fun s1 e2 => ?_)
  replace h := h s1 e2
  have hKs1 : kd s1 = kd σ := by rw [e2]; exact (rfl : kd σ = kd σ)
  have hLs1 : LayZ s1 := by rw [e2]; exact hL.si
  refine x_aload_n (i := 0) (dxX0_forget_0 3 rfl) rfl rfl ?_
  refine x_iconst (v := 0) (dxX0_forget_0 4 rfl) rfl ?_
  refine pf_0_20 (kd_38Z hLs1) (dxX0_forget_0 5 rfl) ?_
  refine x_sto (fun s3 e4 => ?_)
  replace h := h s3 e4
  have hKs3 : kd s3 = kd σ := by rw [e4]; exact hKs1
  have hLs3 : LayZ s3 := by rw [e4]; exact hLs1.si
  refine x_aload_n (i := 0) (dxX0_forget_0 6 rfl) rfl rfl ?_
  refine gf_0_13 (kd_38Z hLs3) (rv_38_0Z hLs3) (dxX0_forget_0 7 rfl) ?_
  refine x_iconst (v := 0) (dxX0_forget_0 8 rfl) rfl ?_
  obtain ⟨a5, ha6, h⟩ := h
  refine x_aald (Or.inl rfl) (kd_39Z hLs3) (vpl 41 0 rfl) ha6 (dxX0_forget_0 9 rfl) ?_
  refine x_iconst (v := (-1)) (dxX0_forget_0 10 rfl) rfl ?_
  refine cl_0_23 (Nat.le_of_ble_eq_true rfl) (dxX0_forget_0 11 rfl) h (fun s7 h => ?_) (Nat.le_refl _) (Nat.le_refl _)
  obtain ⟨hFs7, h⟩ := h
  have hKs7 : kd s7 = kd σ := hFs7.1.trans hKs3
  have hLs7 : LayZ s7 := hLs3.fr hFs7
  exact x_vret rfl (dxX0_forget_0 12 rfl) ⟨rfl, h⟩
-- FAIL ('GluedPaper$Acts', 'begin', '()[I') Exception(('op', '.aastore', ('GluedPaper$Acts', 'begin', '()[I'), 51))
theorem vcX2_foldZ {g : GV} {d : Nat} {P : PS → Prop} {σ : PS} (hL : LayZ σ) (o : Nat) (io : isB o) (p0 : Nat) (ip0 : isF p0) (p1 np1 : Nat) (kp1 : kd σ p1 = some (.inr (0, np1))) (h : ∀ s1 : PS, s1 = si σ o 0 (mi σ p0 3) → VX2_fold g (d + 1) P 10 [some (.ref o), some (.ref p0), some (.ref p1), some (.int 0), none, none] [] s1) : CX2_fold g (d + 1) [.ref o, .ref p0, .ref p1] σ P := by
  refine x_entry (L := [some (.ref o), some (.ref p0), some (.ref p1), none, none, none]) pn_2 (Nat.le_of_ble_eq_true rfl) ⟨3, rfl⟩ ?_
  show VX2_fold g (d + 1) P 0 [some (.ref o), some (.ref p0), some (.ref p1), none, none, none] [] σ
  refine x_aload_n (i := 0) (dxX2_fold_0 0 rfl) rfl rfl ?_
  refine x_aload_n (i := 1) (dxX2_fold_0 1 rfl) rfl rfl ?_
  refine gf_2_25 (kisFZ hL ip0) rfl (dxX2_fold_0 2 rfl) ?_
  refine pf_2_21 (kisBZ hL io) (dxX2_fold_0 3 rfl) ?_
  refine x_sto (fun s1 e2 => ?_)
  replace h := h s1 e2
  have hKs1 : kd s1 = kd σ := by rw [e2]; exact (rfl : kd σ = kd σ)
  have hLs1 : LayZ s1 := by rw [e2]; exact hL.si
  refine x_iconst (v := 0) (dxX2_fold_0 4 rfl) rfl ?_
  refine x_istore_n (i := 3) (dxX2_fold_0 5 rfl) rfl (Nat.le_of_ble_eq_true rfl) rfl rfl ?_
  exact h
theorem vcX2_fold_10Z {g : GV} {d : Nat} {P : PS → Prop} {σ : PS} (hL : LayZ σ) (l0 : Nat) (il0 : isB l0) (l1 : Nat) (il1 : isF l1) (l2 nl2 : Nat) (kl2 : kd σ l2 = some (.inr (0, nl2))) (l3 : Int32) (h : (((mi σ l0 0) * 4) ≤ l3 → VX2_fold g (d + 1) P 116 [some (.ref l0), none, none, some (.int 0), none, none] [] σ) ∧ (¬ ((mi σ l0 0) * 4) ≤ l3 → vp_in l3 40 ∧ ∀ x4 : Int32, x4 = mi σ (l1 + 5) (Int32.toNatClampNeg l3) → CX4_hasEdge g d [.ref l1, .int x4] σ (fun (v7 : Int32) (s6 : PS) => Fr σ s6 ∧ (v7 = 0 → CX4_hasEdge g d [.ref l1, .int (-1)] s6 (fun (v9 : Int32) (s8 : PS) => Fr s6 s8 ∧ (v9 = 0 → vp_in l3 40 ∧ vp_in l3 40 ∧ ∀ s12 : PS, s12 = si s8 (l0 + 1) (Int32.toNatClampNeg l3) (mi s8 (l1 + 4) (Int32.toNatClampNeg l3)) → vp_in l3 40 ∧ ∀ s15 : PS, s15 = si s12 (l0 + 2) (Int32.toNatClampNeg l3) (jrem (l3 + 2) 4) → ∀ x17 : Int32, x17 = l3 + 1 → VX2_fold g (d + 1) P 10 [some (.ref l0), some (.ref l1), some (.ref l2), some (.int x17), none, none] [] s15) ∧ (¬ v9 = 0 → vp_in (-1) 22 ∧ vp_in l3 40 ∧ ∀ s21 : PS, s21 = si s8 (l0 + 1) (Int32.toNatClampNeg l3) (mi s8 (l1 + 6) (Int32.toNatClampNeg (-1))) → vp_in (-1) 22 ∧ vp_in l3 40 ∧ ∀ s25 : PS, s25 = si s21 (l0 + 2) (Int32.toNatClampNeg l3) (mi s21 (l1 + 7) (Int32.toNatClampNeg (-1))) → ∀ x27 : Int32, x27 = l3 + 1 → VX2_fold g (d + 1) P 10 [some (.ref l0), some (.ref l1), some (.ref l2), some (.int x27), none, none] [] s25))) ∧ (¬ v7 = 0 → vp_in x4 nl2 ∧ ∀ x30 : Int32, x30 = mi s6 l2 (Int32.toNatClampNeg x4) → CX4_hasEdge g d [.ref l1, .int x30] s6 (fun (v33 : Int32) (s32 : PS) => Fr s6 s32 ∧ (v33 = 0 → vp_in l3 40 ∧ vp_in l3 40 ∧ ∀ s36 : PS, s36 = si s32 (l0 + 1) (Int32.toNatClampNeg l3) (mi s32 (l1 + 4) (Int32.toNatClampNeg l3)) → vp_in l3 40 ∧ ∀ s39 : PS, s39 = si s36 (l0 + 2) (Int32.toNatClampNeg l3) (jrem (l3 + 2) 4) → ∀ x41 : Int32, x41 = l3 + 1 → VX2_fold g (d + 1) P 10 [some (.ref l0), some (.ref l1), some (.ref l2), some (.int x41), none, none] [] s39) ∧ (¬ v33 = 0 → vp_in x30 22 ∧ vp_in l3 40 ∧ ∀ s45 : PS, s45 = si s32 (l0 + 1) (Int32.toNatClampNeg l3) (mi s32 (l1 + 6) (Int32.toNatClampNeg x30)) → vp_in x30 22 ∧ vp_in l3 40 ∧ ∀ s49 : PS, s49 = si s45 (l0 + 2) (Int32.toNatClampNeg l3) (mi s45 (l1 + 7) (Int32.toNatClampNeg x30)) → ∀ x51 : Int32, x51 = l3 + 1 → VX2_fold g (d + 1) P 10 [some (.ref l0), some (.ref l1), some (.ref l2), some (.int x51), none, none] [] s49)))))) : VX2_fold g (d + 1) P 10 [some (.ref l0), some (.ref l1), some (.ref l2), some (.int l3), none, none] [] σ := by
  refine x_iload_n (i := 3) (dxX2_fold_0 6 rfl) rfl rfl ?_
  refine x_aload_n (i := 0) (dxX2_fold_0 7 rfl) rfl rfl ?_
  refine gf_2_21 (kisBZ hL il0) rfl (dxX2_fold_0 8 rfl) ?_
  refine x_iconst (v := 4) (dxX2_fold_0 9 rfl) rfl ?_
  refine x_imul (dxX2_fold_0 10 rfl) ?_
  refine x_icmp_ge (tgt := 114) (dxX2_fold_0 11 rfl) (by decide) (fun hc => ?_) (fun hc => ?_)
  · replace h := h.1 hc
    refine x_iconst (v := 0) (dxX2_fold_2 3 rfl) rfl ?_
    refine x_istore_n (i := 3) (dxX2_fold_2 4 rfl) rfl (Nat.le_of_ble_eq_true rfl) rfl rfl ?_
    refine x_mask [true, false, false, true, false, false] (L1 := [some (.ref l0), none, none, some (.int 0), none, none]) rfl ?_
    exact h
  · replace h := h.2 hc
    refine x_aload_n (i := 1) (dxX2_fold_0 12 rfl) rfl rfl ?_
    refine gf_2_28 (kisFZ hL il1) (risF_5Z hL il1) (dxX2_fold_0 13 rfl) ?_
    refine x_iload_n (i := 3) (dxX2_fold_0 14 rfl) rfl rfl ?_
    obtain ⟨hi3, h⟩ := h
    refine x_iald (kisF_5Z hL il1) hi3 (dxX2_fold_0 15 rfl) ?_
    refine x_topi (fun x4 e5 => ?_)
    replace h := h x4 e5
    refine x_istore (dxX2_fold_0 16 rfl) (Nat.le_of_ble_eq_true rfl) rfl rfl ?_
    refine x_aload_n (i := 1) (dxX2_fold_0 17 rfl) rfl rfl ?_
    refine x_iload (dxX2_fold_0 18 rfl) rfl ?_
    refine cl_2_31 (kisFZ hL il1) (Nat.le_of_ble_eq_true rfl) (dxX2_fold_0 19 rfl) h (fun v7 s6 h => ?_) (Nat.le_refl _) (Nat.le_refl _)
    obtain ⟨hFs6, h⟩ := h
    have hKs6 : kd s6 = kd σ := hFs6.1.trans (rfl : kd σ = kd σ)
    have hLs6 : LayZ s6 := hL.fr hFs6
    refine x_if_eq (tgt := 44) (dxX2_fold_0 20 rfl) (by decide) (fun hc => ?_) (fun hc => ?_)
    · replace h := h.1 hc
      refine x_iconst (v := (-1)) (dxX2_fold_0 25 rfl) rfl ?_
      refine x_istore (dxX2_fold_0 26 rfl) (Nat.le_of_ble_eq_true rfl) rfl rfl ?_
      refine x_aload_n (i := 1) (dxX2_fold_0 27 rfl) rfl rfl ?_
      refine x_iload (dxX2_fold_0 28 rfl) rfl ?_
      refine cl_2_31 (kisFZ hLs6 il1) (Nat.le_of_ble_eq_true rfl) (dxX2_fold_0 29 rfl) h (fun v9 s8 h => ?_) (Nat.le_refl _) (Nat.le_refl _)
      obtain ⟨hFs8, h⟩ := h
      have hKs8 : kd s8 = kd σ := hFs8.1.trans hKs6
      have hLs8 : LayZ s8 := hLs6.fr hFs8
      refine x_if_eq (tgt := 85) (dxX2_fold_0 30 rfl) (by decide) (fun hc => ?_) (fun hc => ?_)
      · replace h := h.1 hc
        refine x_aload_n (i := 0) (dxX2_fold_1 16 rfl) rfl rfl ?_
        refine gf_2_9 (kisBZ hLs8 il0) (risB_1Z hLs8 il0) (dxX2_fold_1 17 rfl) ?_
        refine x_iload_n (i := 3) (dxX2_fold_1 18 rfl) rfl rfl ?_
        refine x_aload_n (i := 1) (dxX2_fold_1 19 rfl) rfl rfl ?_
        refine gf_2_41 (kisFZ hLs8 il1) (risF_4Z hLs8 il1) (dxX2_fold_1 20 rfl) ?_
        refine x_iload_n (i := 3) (dxX2_fold_1 21 rfl) rfl rfl ?_
        obtain ⟨hi10, h⟩ := h
        refine x_iald (kisF_4Z hLs8 il1) hi10 (dxX2_fold_1 22 rfl) ?_
        obtain ⟨hi11, h⟩ := h
        refine x_iast (kisB_1Z hLs8 il0) hi11 (dxX2_fold_1 23 rfl) ?_
        refine x_sto (fun s12 e13 => ?_)
        replace h := h s12 e13
        have hKs12 : kd s12 = kd σ := by rw [e13]; exact hKs8
        have hLs12 : LayZ s12 := by rw [e13]; exact hLs8.si
        refine x_aload_n (i := 0) (dxX2_fold_1 24 rfl) rfl rfl ?_
        refine gf_2_15 (kisBZ hLs12 il0) (risB_2Z hLs12 il0) (dxX2_fold_1 25 rfl) ?_
        refine x_iload_n (i := 3) (dxX2_fold_1 26 rfl) rfl rfl ?_
        refine x_iload_n (i := 3) (dxX2_fold_1 27 rfl) rfl rfl ?_
        refine x_iconst (v := 2) (dxX2_fold_1 28 rfl) rfl ?_
        refine x_iadd (dxX2_fold_1 29 rfl) ?_
        refine x_iconst (v := 4) (dxX2_fold_1 30 rfl) rfl ?_
        refine x_irem (dxX2_fold_1 31 rfl) (by decide) ?_
        obtain ⟨hi14, h⟩ := h
        refine x_iast (kisB_2Z hLs12 il0) hi14 (dxX2_fold_2 0 rfl) ?_
        refine x_sto (fun s15 e16 => ?_)
        replace h := h s15 e16
        have hKs15 : kd s15 = kd σ := by rw [e16]; exact hKs12
        have hLs15 : LayZ s15 := by rw [e16]; exact hLs12.si
        obtain ⟨x17, e18⟩ : ∃ y : Int32, y = l3 + 1 := ⟨_, rfl⟩
        replace h := h x17 e18
        refine x_iinc (v := x17) (dxX2_fold_2 1 rfl) (i := 3) rfl (by rw [e18]; rfl) (Nat.le_of_ble_eq_true rfl) rfl rfl ?_
        refine x_goto (tgt := 10) (dxX2_fold_2 2 rfl) (by decide) ?_
        refine x_mask [true, true, true, true, false, false] (L1 := [some (.ref l0), some (.ref l1), some (.ref l2), some (.int x17), none, none]) rfl ?_
        exact h
      · replace h := h.2 hc
        refine x_aload_n (i := 0) (dxX2_fold_0 31 rfl) rfl rfl ?_
        refine gf_2_9 (kisBZ hLs8 il0) (risB_1Z hLs8 il0) (dxX2_fold_1 0 rfl) ?_
        refine x_iload_n (i := 3) (dxX2_fold_1 1 rfl) rfl rfl ?_
        refine x_aload_n (i := 1) (dxX2_fold_1 2 rfl) rfl rfl ?_
        refine gf_2_35 (kisFZ hLs8 il1) (risF_7Z hLs8 il1) (dxX2_fold_1 3 rfl) ?_
        refine x_iload (dxX2_fold_1 4 rfl) rfl ?_
        obtain ⟨hi19, h⟩ := h
        refine x_iald (kisF_7Z hLs8 il1) hi19 (dxX2_fold_1 5 rfl) ?_
        obtain ⟨hi20, h⟩ := h
        refine x_iast (kisB_1Z hLs8 il0) hi20 (dxX2_fold_1 6 rfl) ?_
        refine x_sto (fun s21 e22 => ?_)
        replace h := h s21 e22
        have hKs21 : kd s21 = kd σ := by rw [e22]; exact hKs8
        have hLs21 : LayZ s21 := by rw [e22]; exact hLs8.si
        refine x_aload_n (i := 0) (dxX2_fold_1 7 rfl) rfl rfl ?_
        refine gf_2_15 (kisBZ hLs21 il0) (risB_2Z hLs21 il0) (dxX2_fold_1 8 rfl) ?_
        refine x_iload_n (i := 3) (dxX2_fold_1 9 rfl) rfl rfl ?_
        refine x_aload_n (i := 1) (dxX2_fold_1 10 rfl) rfl rfl ?_
        refine gf_2_38 (kisFZ hLs21 il1) (risF_8Z hLs21 il1) (dxX2_fold_1 11 rfl) ?_
        refine x_iload (dxX2_fold_1 12 rfl) rfl ?_
        obtain ⟨hi23, h⟩ := h
        refine x_iald (kisF_8Z hLs21 il1) hi23 (dxX2_fold_1 13 rfl) ?_
        obtain ⟨hi24, h⟩ := h
        refine x_iast (kisB_2Z hLs21 il0) hi24 (dxX2_fold_1 14 rfl) ?_
        refine x_sto (fun s25 e26 => ?_)
        replace h := h s25 e26
        have hKs25 : kd s25 = kd σ := by rw [e26]; exact hKs21
        have hLs25 : LayZ s25 := by rw [e26]; exact hLs21.si
        refine x_goto (tgt := 108) (dxX2_fold_1 15 rfl) (by decide) ?_
        obtain ⟨x27, e28⟩ : ∃ y : Int32, y = l3 + 1 := ⟨_, rfl⟩
        replace h := h x27 e28
        refine x_iinc (v := x27) (dxX2_fold_2 1 rfl) (i := 3) rfl (by rw [e28]; rfl) (Nat.le_of_ble_eq_true rfl) rfl rfl ?_
        refine x_goto (tgt := 10) (dxX2_fold_2 2 rfl) (by decide) ?_
        refine x_mask [true, true, true, true, false, false] (L1 := [some (.ref l0), some (.ref l1), some (.ref l2), some (.int x27), none, none]) rfl ?_
        exact h
    · replace h := h.2 hc
      refine x_aload_n (i := 2) (dxX2_fold_0 21 rfl) rfl rfl ?_
      refine x_iload (dxX2_fold_0 22 rfl) rfl ?_
      obtain ⟨hi29, h⟩ := h
      refine x_iald ((congrFun hKs6 _).trans kl2) hi29 (dxX2_fold_0 23 rfl) ?_
      refine x_goto (tgt := 45) (dxX2_fold_0 24 rfl) (by decide) ?_
      refine x_topi (fun x30 e31 => ?_)
      replace h := h x30 e31
      refine x_istore (dxX2_fold_0 26 rfl) (Nat.le_of_ble_eq_true rfl) rfl rfl ?_
      refine x_aload_n (i := 1) (dxX2_fold_0 27 rfl) rfl rfl ?_
      refine x_iload (dxX2_fold_0 28 rfl) rfl ?_
      refine cl_2_31 (kisFZ hLs6 il1) (Nat.le_of_ble_eq_true rfl) (dxX2_fold_0 29 rfl) h (fun v33 s32 h => ?_) (Nat.le_refl _) (Nat.le_refl _)
      obtain ⟨hFs32, h⟩ := h
      have hKs32 : kd s32 = kd σ := hFs32.1.trans hKs6
      have hLs32 : LayZ s32 := hLs6.fr hFs32
      refine x_if_eq (tgt := 85) (dxX2_fold_0 30 rfl) (by decide) (fun hc => ?_) (fun hc => ?_)
      · replace h := h.1 hc
        refine x_aload_n (i := 0) (dxX2_fold_1 16 rfl) rfl rfl ?_
        refine gf_2_9 (kisBZ hLs32 il0) (risB_1Z hLs32 il0) (dxX2_fold_1 17 rfl) ?_
        refine x_iload_n (i := 3) (dxX2_fold_1 18 rfl) rfl rfl ?_
        refine x_aload_n (i := 1) (dxX2_fold_1 19 rfl) rfl rfl ?_
        refine gf_2_41 (kisFZ hLs32 il1) (risF_4Z hLs32 il1) (dxX2_fold_1 20 rfl) ?_
        refine x_iload_n (i := 3) (dxX2_fold_1 21 rfl) rfl rfl ?_
        obtain ⟨hi34, h⟩ := h
        refine x_iald (kisF_4Z hLs32 il1) hi34 (dxX2_fold_1 22 rfl) ?_
        obtain ⟨hi35, h⟩ := h
        refine x_iast (kisB_1Z hLs32 il0) hi35 (dxX2_fold_1 23 rfl) ?_
        refine x_sto (fun s36 e37 => ?_)
        replace h := h s36 e37
        have hKs36 : kd s36 = kd σ := by rw [e37]; exact hKs32
        have hLs36 : LayZ s36 := by rw [e37]; exact hLs32.si
        refine x_aload_n (i := 0) (dxX2_fold_1 24 rfl) rfl rfl ?_
        refine gf_2_15 (kisBZ hLs36 il0) (risB_2Z hLs36 il0) (dxX2_fold_1 25 rfl) ?_
        refine x_iload_n (i := 3) (dxX2_fold_1 26 rfl) rfl rfl ?_
        refine x_iload_n (i := 3) (dxX2_fold_1 27 rfl) rfl rfl ?_
        refine x_iconst (v := 2) (dxX2_fold_1 28 rfl) rfl ?_
        refine x_iadd (dxX2_fold_1 29 rfl) ?_
        refine x_iconst (v := 4) (dxX2_fold_1 30 rfl) rfl ?_
        refine x_irem (dxX2_fold_1 31 rfl) (by decide) ?_
        obtain ⟨hi38, h⟩ := h
        refine x_iast (kisB_2Z hLs36 il0) hi38 (dxX2_fold_2 0 rfl) ?_
        refine x_sto (fun s39 e40 => ?_)
        replace h := h s39 e40
        have hKs39 : kd s39 = kd σ := by rw [e40]; exact hKs36
        have hLs39 : LayZ s39 := by rw [e40]; exact hLs36.si
        obtain ⟨x41, e42⟩ : ∃ y : Int32, y = l3 + 1 := ⟨_, rfl⟩
        replace h := h x41 e42
        refine x_iinc (v := x41) (dxX2_fold_2 1 rfl) (i := 3) rfl (by rw [e42]; rfl) (Nat.le_of_ble_eq_true rfl) rfl rfl ?_
        refine x_goto (tgt := 10) (dxX2_fold_2 2 rfl) (by decide) ?_
        refine x_mask [true, true, true, true, false, false] (L1 := [some (.ref l0), some (.ref l1), some (.ref l2), some (.int x41), none, none]) rfl ?_
        exact h
      · replace h := h.2 hc
        refine x_aload_n (i := 0) (dxX2_fold_0 31 rfl) rfl rfl ?_
        refine gf_2_9 (kisBZ hLs32 il0) (risB_1Z hLs32 il0) (dxX2_fold_1 0 rfl) ?_
        refine x_iload_n (i := 3) (dxX2_fold_1 1 rfl) rfl rfl ?_
        refine x_aload_n (i := 1) (dxX2_fold_1 2 rfl) rfl rfl ?_
        refine gf_2_35 (kisFZ hLs32 il1) (risF_7Z hLs32 il1) (dxX2_fold_1 3 rfl) ?_
        refine x_iload (dxX2_fold_1 4 rfl) rfl ?_
        obtain ⟨hi43, h⟩ := h
        refine x_iald (kisF_7Z hLs32 il1) hi43 (dxX2_fold_1 5 rfl) ?_
        obtain ⟨hi44, h⟩ := h
        refine x_iast (kisB_1Z hLs32 il0) hi44 (dxX2_fold_1 6 rfl) ?_
        refine x_sto (fun s45 e46 => ?_)
        replace h := h s45 e46
        have hKs45 : kd s45 = kd σ := by rw [e46]; exact hKs32
        have hLs45 : LayZ s45 := by rw [e46]; exact hLs32.si
        refine x_aload_n (i := 0) (dxX2_fold_1 7 rfl) rfl rfl ?_
        refine gf_2_15 (kisBZ hLs45 il0) (risB_2Z hLs45 il0) (dxX2_fold_1 8 rfl) ?_
        refine x_iload_n (i := 3) (dxX2_fold_1 9 rfl) rfl rfl ?_
        refine x_aload_n (i := 1) (dxX2_fold_1 10 rfl) rfl rfl ?_
        refine gf_2_38 (kisFZ hLs45 il1) (risF_8Z hLs45 il1) (dxX2_fold_1 11 rfl) ?_
        refine x_iload (dxX2_fold_1 12 rfl) rfl ?_
        obtain ⟨hi47, h⟩ := h
        refine x_iald (kisF_8Z hLs45 il1) hi47 (dxX2_fold_1 13 rfl) ?_
        obtain ⟨hi48, h⟩ := h
        refine x_iast (kisB_2Z hLs45 il0) hi48 (dxX2_fold_1 14 rfl) ?_
        refine x_sto (fun s49 e50 => ?_)
        replace h := h s49 e50
        have hKs49 : kd s49 = kd σ := by rw [e50]; exact hKs45
        have hLs49 : LayZ s49 := by rw [e50]; exact hLs45.si
        refine x_goto (tgt := 108) (dxX2_fold_1 15 rfl) (by decide) ?_
        obtain ⟨x51, e52⟩ : ∃ y : Int32, y = l3 + 1 := ⟨_, rfl⟩
        replace h := h x51 e52
        refine x_iinc (v := x51) (dxX2_fold_2 1 rfl) (i := 3) rfl (by rw [e52]; rfl) (Nat.le_of_ble_eq_true rfl) rfl rfl ?_
        refine x_goto (tgt := 10) (dxX2_fold_2 2 rfl) (by decide) ?_
        refine x_mask [true, true, true, true, false, false] (L1 := [some (.ref l0), some (.ref l1), some (.ref l2), some (.int x51), none, none]) rfl ?_
        exact h
theorem vcX2_fold_116Z {g : GV} {d : Nat} {P : PS → Prop} {σ : PS} (hL : LayZ σ) (l0 : Nat) (il0 : isB l0) (l3 : Int32) (h : (((mi σ l0 0) * 4) ≤ l3 → P σ) ∧ (¬ ((mi σ l0 0) * 4) ≤ l3 → CX2_turnAt g d [.ref l0, .int l3] σ (fun (v54 : Int32) (s53 : PS) => Fr σ s53 ∧ vp_in l3 40 ∧ ∀ s56 : PS, s56 = si s53 (l0 + 3) (Int32.toNatClampNeg l3) v54 → ∀ x58 : Int32, x58 = l3 + 1 → VX2_fold g (d + 1) P 116 [some (.ref l0), none, none, some (.int x58), none, none] [] s56))) : VX2_fold g (d + 1) P 116 [some (.ref l0), none, none, some (.int l3), none, none] [] σ := by
  refine x_iload_n (i := 3) (dxX2_fold_2 5 rfl) rfl rfl ?_
  refine x_aload_n (i := 0) (dxX2_fold_2 6 rfl) rfl rfl ?_
  refine gf_2_21 (kisBZ hL il0) rfl (dxX2_fold_2 7 rfl) ?_
  refine x_iconst (v := 4) (dxX2_fold_2 8 rfl) rfl ?_
  refine x_imul (dxX2_fold_2 9 rfl) ?_
  refine x_icmp_ge (tgt := 143) (dxX2_fold_2 10 rfl) (by decide) (fun hc => ?_) (fun hc => ?_)
  · replace h := h.1 hc
    exact x_vret rfl (dxX2_fold_2 20 rfl) ⟨rfl, h⟩
  · replace h := h.2 hc
    refine x_aload_n (i := 0) (dxX2_fold_2 11 rfl) rfl rfl ?_
    refine gf_2_18 (kisBZ hL il0) (risB_3Z hL il0) (dxX2_fold_2 12 rfl) ?_
    refine x_iload_n (i := 3) (dxX2_fold_2 13 rfl) rfl rfl ?_
    refine x_aload_n (i := 0) (dxX2_fold_2 14 rfl) rfl rfl ?_
    refine x_iload_n (i := 3) (dxX2_fold_2 15 rfl) rfl rfl ?_
    refine cl_2_44 (kisBZ hL il0) (Nat.le_of_ble_eq_true rfl) (dxX2_fold_2 16 rfl) h (fun v54 s53 h => ?_) (Nat.le_refl _) (Nat.le_refl _)
    obtain ⟨hFs53, h⟩ := h
    have hKs53 : kd s53 = kd σ := hFs53.1.trans (rfl : kd σ = kd σ)
    have hLs53 : LayZ s53 := hL.fr hFs53
    obtain ⟨hi55, h⟩ := h
    refine x_iast (kisB_3Z hLs53 il0) hi55 (dxX2_fold_2 17 rfl) ?_
    refine x_sto (fun s56 e57 => ?_)
    replace h := h s56 e57
    have hKs56 : kd s56 = kd σ := by rw [e57]; exact hKs53
    have hLs56 : LayZ s56 := by rw [e57]; exact hLs53.si
    obtain ⟨x58, e59⟩ : ∃ y : Int32, y = l3 + 1 := ⟨_, rfl⟩
    replace h := h x58 e59
    refine x_iinc (v := x58) (dxX2_fold_2 18 rfl) (i := 3) rfl (by rw [e59]; rfl) (Nat.le_of_ble_eq_true rfl) rfl rfl ?_
    refine x_goto (tgt := 116) (dxX2_fold_2 19 rfl) (by decide) ?_
    exact h
theorem vcX2_turnAtZ {g : GV} {d : Nat} {P : Int32 → PS → Prop} {σ : PS} (hL : LayZ σ) (o : Nat) (io : isB o) (p0 : Int32) (h : VX2_turnAt g d P 4 [some (.ref o), some (.int p0), some (.int p0), some (.int 0), none] [] σ) : CX2_turnAt g d [.ref o, .int p0] σ P := by
  refine x_entry (L := [some (.ref o), some (.int p0), none, none, none]) pn_2 (Nat.le_of_ble_eq_true rfl) ⟨3, rfl⟩ ?_
  show VX2_turnAt g d P 0 [some (.ref o), some (.int p0), none, none, none] [] σ
  refine x_iload_n (i := 1) (dxX2_turnAt_0 0 rfl) rfl rfl ?_
  refine x_istore_n (i := 2) (dxX2_turnAt_0 1 rfl) rfl (Nat.le_of_ble_eq_true rfl) rfl rfl ?_
  refine x_iconst (v := 0) (dxX2_turnAt_0 2 rfl) rfl ?_
  refine x_istore_n (i := 3) (dxX2_turnAt_0 3 rfl) rfl (Nat.le_of_ble_eq_true rfl) rfl rfl ?_
  exact h
theorem vcX2_turnAt_4Z {g : GV} {d : Nat} {P : Int32 → PS → Prop} {σ : PS} (hL : LayZ σ) (l0 : Nat) (il0 : isB l0) (l1 : Int32) (l2 : Int32) (l3 : Int32) (h : ∀ x1 : Int32, x1 = ((l2 / 4) * 4) + (jrem (l2 + 1) 4) → vp_in x1 40 ∧ vp_in x1 40 ∧ ∀ x5 : Int32, x5 = ((mi σ (l0 + 1) (Int32.toNatClampNeg x1)) * 4) + (mi σ (l0 + 2) (Int32.toNatClampNeg x1)) → ∀ x7 : Int32, x7 = l3 + 1 → (x5 = l1 → P x7 σ) ∧ (¬ x5 = l1 → (x7 < 40 → VX2_turnAt g d P 4 [some (.ref l0), some (.int l1), some (.int x5), some (.int x7), none] [] σ) ∧ (¬ x7 < 40 → P x7 σ))) : VX2_turnAt g d P 4 [some (.ref l0), some (.int l1), some (.int l2), some (.int l3), none] [] σ := by
  refine x_iload_n (i := 2) (dxX2_turnAt_0 4 rfl) rfl rfl ?_
  refine x_iconst (v := 4) (dxX2_turnAt_0 5 rfl) rfl ?_
  refine x_idiv (dxX2_turnAt_0 6 rfl) (by decide) ?_
  refine x_iconst (v := 4) (dxX2_turnAt_0 7 rfl) rfl ?_
  refine x_imul (dxX2_turnAt_0 8 rfl) ?_
  refine x_iload_n (i := 2) (dxX2_turnAt_0 9 rfl) rfl rfl ?_
  refine x_iconst (v := 1) (dxX2_turnAt_0 10 rfl) rfl ?_
  refine x_iadd (dxX2_turnAt_0 11 rfl) ?_
  refine x_iconst (v := 4) (dxX2_turnAt_0 12 rfl) rfl ?_
  refine x_irem (dxX2_turnAt_0 13 rfl) (by decide) ?_
  refine x_iadd (dxX2_turnAt_0 14 rfl) ?_
  refine x_topi (fun x1 e2 => ?_)
  replace h := h x1 e2
  refine x_istore (dxX2_turnAt_0 15 rfl) (Nat.le_of_ble_eq_true rfl) rfl rfl ?_
  refine x_aload_n (i := 0) (dxX2_turnAt_0 16 rfl) rfl rfl ?_
  refine gf_2_9 (kisBZ hL il0) (risB_1Z hL il0) (dxX2_turnAt_0 17 rfl) ?_
  refine x_iload (dxX2_turnAt_0 18 rfl) rfl ?_
  obtain ⟨hi3, h⟩ := h
  refine x_iald (kisB_1Z hL il0) hi3 (dxX2_turnAt_0 19 rfl) ?_
  refine x_iconst (v := 4) (dxX2_turnAt_0 20 rfl) rfl ?_
  refine x_imul (dxX2_turnAt_0 21 rfl) ?_
  refine x_aload_n (i := 0) (dxX2_turnAt_0 22 rfl) rfl rfl ?_
  refine gf_2_15 (kisBZ hL il0) (risB_2Z hL il0) (dxX2_turnAt_0 23 rfl) ?_
  refine x_iload (dxX2_turnAt_0 24 rfl) rfl ?_
  obtain ⟨hi4, h⟩ := h
  refine x_iald (kisB_2Z hL il0) hi4 (dxX2_turnAt_0 25 rfl) ?_
  refine x_iadd (dxX2_turnAt_0 26 rfl) ?_
  refine x_topi (fun x5 e6 => ?_)
  replace h := h x5 e6
  refine x_istore_n (i := 2) (dxX2_turnAt_0 27 rfl) rfl (Nat.le_of_ble_eq_true rfl) rfl rfl ?_
  obtain ⟨x7, e8⟩ : ∃ y : Int32, y = l3 + 1 := ⟨_, rfl⟩
  replace h := h x7 e8
  refine x_iinc (v := x7) (dxX2_turnAt_0 28 rfl) (i := 3) rfl (by rw [e8]; rfl) (Nat.le_of_ble_eq_true rfl) rfl rfl ?_
  refine x_iload_n (i := 2) (dxX2_turnAt_0 29 rfl) rfl rfl ?_
  refine x_iload_n (i := 1) (dxX2_turnAt_0 30 rfl) rfl rfl ?_
  refine x_icmp_eq (tgt := 49) (dxX2_turnAt_0 31 rfl) (by decide) (fun hc => ?_) (fun hc => ?_)
  · replace h := h.1 hc
    refine x_iload_n (i := 3) (dxX2_turnAt_1 3 rfl) rfl rfl ?_
    exact x_iret (ty := .int) rfl rfl (dxX2_turnAt_1 4 rfl) ⟨_, rfl, h⟩
  · replace h := h.2 hc
    refine x_iload_n (i := 3) (dxX2_turnAt_1 0 rfl) rfl rfl ?_
    refine x_bipush (v := 40) (dxX2_turnAt_1 1 rfl) rfl ?_
    refine x_icmp_lt (tgt := 4) (dxX2_turnAt_1 2 rfl) (by decide) (fun hc => ?_) (fun hc => ?_)
    · replace h := h.1 hc
      refine x_mask [true, true, true, true, false] (L1 := [some (.ref l0), some (.int l1), some (.int x5), some (.int x7), none]) rfl ?_
      exact h
    · replace h := h.2 hc
      refine x_iload_n (i := 3) (dxX2_turnAt_1 3 rfl) rfl rfl ?_
      exact x_iret (ty := .int) rfl rfl (dxX2_turnAt_1 4 rfl) ⟨_, rfl, h⟩
theorem vcX3_startZ {g : GV} {d : Nat} {P : PS → Prop} {σ : PS} (hL : LayZ σ) (o : Nat) (io : isC o) (p0 : Nat) (ip0 : isF p0) (h : ∀ s1 : PS, s1 = si σ o 0 (mi σ p0 6) → VX3_start g d P 10 [some (.ref o), some (.ref p0), some (.int 0)] [] s1) : CX3_start g d [.ref o, .ref p0] σ P := by
  refine x_entry (L := [some (.ref o), some (.ref p0), none]) pn_3 (Nat.le_of_ble_eq_true rfl) ⟨1, rfl⟩ ?_
  show VX3_start g d P 0 [some (.ref o), some (.ref p0), none] [] σ
  refine x_aload_n (i := 0) (dxX3_start_0 0 rfl) rfl rfl ?_
  refine x_aload_n (i := 1) (dxX3_start_0 1 rfl) rfl rfl ?_
  refine gf_3_18 (kisFZ hL ip0) rfl (dxX3_start_0 2 rfl) ?_
  refine pf_3_24 (kisCZ hL io) (dxX3_start_0 3 rfl) ?_
  refine x_sto (fun s1 e2 => ?_)
  replace h := h s1 e2
  have hKs1 : kd s1 = kd σ := by rw [e2]; exact (rfl : kd σ = kd σ)
  have hLs1 : LayZ s1 := by rw [e2]; exact hL.si
  refine x_iconst (v := 0) (dxX3_start_0 4 rfl) rfl ?_
  refine x_istore_n (i := 2) (dxX3_start_0 5 rfl) rfl (Nat.le_of_ble_eq_true rfl) rfl rfl ?_
  exact h
theorem vcX3_start_10Z {g : GV} {d : Nat} {P : PS → Prop} {σ : PS} (hL : LayZ σ) (l0 : Nat) (il0 : isC l0) (l1 : Nat) (il1 : isF l1) (l2 : Int32) (h : ((mi σ l0 0) ≤ l2 → P σ) ∧ (¬ (mi σ l0 0) ≤ l2 → vp_in l2 22 ∧ ∀ s4 : PS, s4 = si σ (l0 + 1) (Int32.toNatClampNeg l2) l2 → vp_in l2 22 ∧ vp_in l2 22 ∧ ∀ s8 : PS, s8 = si s4 (l0 + 2) (Int32.toNatClampNeg l2) (mi s4 (l1 + 8) (Int32.toNatClampNeg l2)) → ∀ x10 : Int32, x10 = l2 + 1 → VX3_start g d P 10 [some (.ref l0), some (.ref l1), some (.int x10)] [] s8)) : VX3_start g d P 10 [some (.ref l0), some (.ref l1), some (.int l2)] [] σ := by
  refine x_iload_n (i := 2) (dxX3_start_0 6 rfl) rfl rfl ?_
  refine x_aload_n (i := 0) (dxX3_start_0 7 rfl) rfl rfl ?_
  refine gf_3_24 (kisCZ hL il0) rfl (dxX3_start_0 8 rfl) ?_
  refine x_icmp_ge (tgt := 43) (dxX3_start_0 9 rfl) (by decide) (fun hc => ?_) (fun hc => ?_)
  · replace h := h.1 hc
    exact x_vret rfl (dxX3_start_0 25 rfl) ⟨rfl, h⟩
  · replace h := h.2 hc
    refine x_aload_n (i := 0) (dxX3_start_0 10 rfl) rfl rfl ?_
    refine gf_3_9 (kisCZ hL il0) (risC_1Z hL il0) (dxX3_start_0 11 rfl) ?_
    refine x_iload_n (i := 2) (dxX3_start_0 12 rfl) rfl rfl ?_
    refine x_iload_n (i := 2) (dxX3_start_0 13 rfl) rfl rfl ?_
    obtain ⟨hi3, h⟩ := h
    refine x_iast (kisC_1Z hL il0) hi3 (dxX3_start_0 14 rfl) ?_
    refine x_sto (fun s4 e5 => ?_)
    replace h := h s4 e5
    have hKs4 : kd s4 = kd σ := by rw [e5]; exact (rfl : kd σ = kd σ)
    have hLs4 : LayZ s4 := by rw [e5]; exact hL.si
    refine x_aload_n (i := 0) (dxX3_start_0 15 rfl) rfl rfl ?_
    refine gf_3_15 (kisCZ hLs4 il0) (risC_2Z hLs4 il0) (dxX3_start_0 16 rfl) ?_
    refine x_iload_n (i := 2) (dxX3_start_0 17 rfl) rfl rfl ?_
    refine x_aload_n (i := 1) (dxX3_start_0 18 rfl) rfl rfl ?_
    refine gf_3_25 (kisFZ hLs4 il1) (risF_9Z hLs4 il1) (dxX3_start_0 19 rfl) ?_
    refine x_iload_n (i := 2) (dxX3_start_0 20 rfl) rfl rfl ?_
    obtain ⟨hi6, h⟩ := h
    refine x_iald (kisF_9Z hLs4 il1) hi6 (dxX3_start_0 21 rfl) ?_
    obtain ⟨hi7, h⟩ := h
    refine x_iast (kisC_2Z hLs4 il0) hi7 (dxX3_start_0 22 rfl) ?_
    refine x_sto (fun s8 e9 => ?_)
    replace h := h s8 e9
    have hKs8 : kd s8 = kd σ := by rw [e9]; exact hKs4
    have hLs8 : LayZ s8 := by rw [e9]; exact hLs4.si
    obtain ⟨x10, e11⟩ : ∃ y : Int32, y = l2 + 1 := ⟨_, rfl⟩
    replace h := h x10 e11
    refine x_iinc (v := x10) (dxX3_start_0 23 rfl) (i := 2) rfl (by rw [e11]; rfl) (Nat.le_of_ble_eq_true rfl) rfl rfl ?_
    refine x_goto (tgt := 10) (dxX3_start_0 24 rfl) (by decide) ?_
    exact h
theorem vcX3_pairZ {g : GV} {d : Nat} {P : Int32 → PS → Prop} {σ : PS} (hL : LayZ σ) (o : Nat) (io : isC o) (p0 : Int32) (p1 : Int32) (h : ((mi σ o 0) ≤ (p0 + 1) → ((mi σ o 0) ≤ (p1 + 1) → CX3_unite g d [.ref o, .int p0, .int 0] σ (fun (v2 : Int32) (s1 : PS) => Fr σ s1 ∧ (4 < v2 → P 0 s1) ∧ (¬ 4 < v2 → CX3_unite g d [.ref o, .int 0, .int p1] s1 (fun (v4 : Int32) (s3 : PS) => Fr s1 s3 ∧ (4 < v4 → P 0 s3) ∧ (¬ 4 < v4 → P 1 s3))))) ∧ (¬ (mi σ o 0) ≤ (p1 + 1) → ∀ x5 : Int32, x5 = p1 + 1 → CX3_unite g d [.ref o, .int p0, .int x5] σ (fun (v8 : Int32) (s7 : PS) => Fr σ s7 ∧ (4 < v8 → P 0 s7) ∧ (¬ 4 < v8 → CX3_unite g d [.ref o, .int 0, .int p1] s7 (fun (v10 : Int32) (s9 : PS) => Fr s7 s9 ∧ (4 < v10 → P 0 s9) ∧ (¬ 4 < v10 → P 1 s9)))))) ∧ (¬ (mi σ o 0) ≤ (p0 + 1) → ∀ x11 : Int32, x11 = p0 + 1 → ((mi σ o 0) ≤ (p1 + 1) → CX3_unite g d [.ref o, .int p0, .int 0] σ (fun (v14 : Int32) (s13 : PS) => Fr σ s13 ∧ (4 < v14 → P 0 s13) ∧ (¬ 4 < v14 → CX3_unite g d [.ref o, .int x11, .int p1] s13 (fun (v16 : Int32) (s15 : PS) => Fr s13 s15 ∧ (4 < v16 → P 0 s15) ∧ (¬ 4 < v16 → P 1 s15))))) ∧ (¬ (mi σ o 0) ≤ (p1 + 1) → ∀ x17 : Int32, x17 = p1 + 1 → CX3_unite g d [.ref o, .int p0, .int x17] σ (fun (v20 : Int32) (s19 : PS) => Fr σ s19 ∧ (4 < v20 → P 0 s19) ∧ (¬ 4 < v20 → CX3_unite g d [.ref o, .int x11, .int p1] s19 (fun (v22 : Int32) (s21 : PS) => Fr s19 s21 ∧ (4 < v22 → P 0 s21) ∧ (¬ 4 < v22 → P 1 s21))))))) : CX3_pair g (d + 1) [.ref o, .int p0, .int p1] σ P := by
  refine x_entry (L := [some (.ref o), some (.int p0), some (.int p1), none, none]) pn_3 (Nat.le_of_ble_eq_true rfl) ⟨2, rfl⟩ ?_
  show VX3_pair g (d + 1) P 0 [some (.ref o), some (.int p0), some (.int p1), none, none] [] σ
  refine x_iload_n (i := 1) (dxX3_pair_0 0 rfl) rfl rfl ?_
  refine x_iconst (v := 1) (dxX3_pair_0 1 rfl) rfl ?_
  refine x_iadd (dxX3_pair_0 2 rfl) ?_
  refine x_aload_n (i := 0) (dxX3_pair_0 3 rfl) rfl rfl ?_
  refine gf_3_24 (kisCZ hL io) rfl (dxX3_pair_0 4 rfl) ?_
  refine x_icmp_ge (tgt := 16) (dxX3_pair_0 5 rfl) (by decide) (fun hc => ?_) (fun hc => ?_)
  · replace h := h.1 hc
    refine x_iconst (v := 0) (dxX3_pair_0 10 rfl) rfl ?_
    refine x_istore_n (i := 3) (dxX3_pair_0 11 rfl) rfl (Nat.le_of_ble_eq_true rfl) rfl rfl ?_
    refine x_iload_n (i := 2) (dxX3_pair_0 12 rfl) rfl rfl ?_
    refine x_iconst (v := 1) (dxX3_pair_0 13 rfl) rfl ?_
    refine x_iadd (dxX3_pair_0 14 rfl) ?_
    refine x_aload_n (i := 0) (dxX3_pair_0 15 rfl) rfl rfl ?_
    refine gf_3_24 (kisCZ hL io) rfl (dxX3_pair_0 16 rfl) ?_
    refine x_icmp_ge (tgt := 34) (dxX3_pair_0 17 rfl) (by decide) (fun hc => ?_) (fun hc => ?_)
    · replace h := h.1 hc
      refine x_iconst (v := 0) (dxX3_pair_0 22 rfl) rfl ?_
      refine x_istore (dxX3_pair_0 23 rfl) (Nat.le_of_ble_eq_true rfl) rfl rfl ?_
      refine x_aload_n (i := 0) (dxX3_pair_0 24 rfl) rfl rfl ?_
      refine x_iload_n (i := 1) (dxX3_pair_0 25 rfl) rfl rfl ?_
      refine x_iload (dxX3_pair_0 26 rfl) rfl ?_
      refine cl_3_32 (kisCZ hL io) (Nat.le_of_ble_eq_true rfl) (dxX3_pair_0 27 rfl) h (fun v2 s1 h => ?_) (Nat.le_refl _) (Nat.le_refl _)
      obtain ⟨hFs1, h⟩ := h
      have hKs1 : kd s1 = kd σ := hFs1.1.trans (rfl : kd σ = kd σ)
      have hLs1 : LayZ s1 := hL.fr hFs1
      refine x_iconst (v := 4) (dxX3_pair_0 28 rfl) rfl ?_
      refine x_icmp_gt (tgt := 62) (dxX3_pair_0 29 rfl) (by decide) (fun hc => ?_) (fun hc => ?_)
      · replace h := h.1 hc
        refine x_iconst (v := 0) (dxX3_pair_1 6 rfl) rfl ?_
        exact x_iret (ty := .boolean) rfl rfl (dxX3_pair_1 7 rfl) ⟨_, rfl, h⟩
      · replace h := h.2 hc
        refine x_aload_n (i := 0) (dxX3_pair_0 30 rfl) rfl rfl ?_
        refine x_iload_n (i := 3) (dxX3_pair_0 31 rfl) rfl rfl ?_
        refine x_iload_n (i := 2) (dxX3_pair_1 0 rfl) rfl rfl ?_
        refine cl_3_32 (kisCZ hLs1 io) (Nat.le_of_ble_eq_true rfl) (dxX3_pair_1 1 rfl) h (fun v4 s3 h => ?_) (Nat.le_refl _) (Nat.le_refl _)
        obtain ⟨hFs3, h⟩ := h
        have hKs3 : kd s3 = kd σ := hFs3.1.trans hKs1
        have hLs3 : LayZ s3 := hLs1.fr hFs3
        refine x_iconst (v := 4) (dxX3_pair_1 2 rfl) rfl ?_
        refine x_icmp_gt (tgt := 62) (dxX3_pair_1 3 rfl) (by decide) (fun hc => ?_) (fun hc => ?_)
        · replace h := h.1 hc
          refine x_iconst (v := 0) (dxX3_pair_1 6 rfl) rfl ?_
          exact x_iret (ty := .boolean) rfl rfl (dxX3_pair_1 7 rfl) ⟨_, rfl, h⟩
        · replace h := h.2 hc
          refine x_iconst (v := 1) (dxX3_pair_1 4 rfl) rfl ?_
          refine x_goto (tgt := 63) (dxX3_pair_1 5 rfl) (by decide) ?_
          exact x_iret (ty := .boolean) rfl rfl (dxX3_pair_1 7 rfl) ⟨_, rfl, h⟩
    · replace h := h.2 hc
      refine x_iload_n (i := 2) (dxX3_pair_0 18 rfl) rfl rfl ?_
      refine x_iconst (v := 1) (dxX3_pair_0 19 rfl) rfl ?_
      refine x_iadd (dxX3_pair_0 20 rfl) ?_
      refine x_goto (tgt := 35) (dxX3_pair_0 21 rfl) (by decide) ?_
      refine x_topi (fun x5 e6 => ?_)
      replace h := h x5 e6
      refine x_istore (dxX3_pair_0 23 rfl) (Nat.le_of_ble_eq_true rfl) rfl rfl ?_
      refine x_aload_n (i := 0) (dxX3_pair_0 24 rfl) rfl rfl ?_
      refine x_iload_n (i := 1) (dxX3_pair_0 25 rfl) rfl rfl ?_
      refine x_iload (dxX3_pair_0 26 rfl) rfl ?_
      refine cl_3_32 (kisCZ hL io) (Nat.le_of_ble_eq_true rfl) (dxX3_pair_0 27 rfl) h (fun v8 s7 h => ?_) (Nat.le_refl _) (Nat.le_refl _)
      obtain ⟨hFs7, h⟩ := h
      have hKs7 : kd s7 = kd σ := hFs7.1.trans (rfl : kd σ = kd σ)
      have hLs7 : LayZ s7 := hL.fr hFs7
      refine x_iconst (v := 4) (dxX3_pair_0 28 rfl) rfl ?_
      refine x_icmp_gt (tgt := 62) (dxX3_pair_0 29 rfl) (by decide) (fun hc => ?_) (fun hc => ?_)
      · replace h := h.1 hc
        refine x_iconst (v := 0) (dxX3_pair_1 6 rfl) rfl ?_
        exact x_iret (ty := .boolean) rfl rfl (dxX3_pair_1 7 rfl) ⟨_, rfl, h⟩
      · replace h := h.2 hc
        refine x_aload_n (i := 0) (dxX3_pair_0 30 rfl) rfl rfl ?_
        refine x_iload_n (i := 3) (dxX3_pair_0 31 rfl) rfl rfl ?_
        refine x_iload_n (i := 2) (dxX3_pair_1 0 rfl) rfl rfl ?_
        refine cl_3_32 (kisCZ hLs7 io) (Nat.le_of_ble_eq_true rfl) (dxX3_pair_1 1 rfl) h (fun v10 s9 h => ?_) (Nat.le_refl _) (Nat.le_refl _)
        obtain ⟨hFs9, h⟩ := h
        have hKs9 : kd s9 = kd σ := hFs9.1.trans hKs7
        have hLs9 : LayZ s9 := hLs7.fr hFs9
        refine x_iconst (v := 4) (dxX3_pair_1 2 rfl) rfl ?_
        refine x_icmp_gt (tgt := 62) (dxX3_pair_1 3 rfl) (by decide) (fun hc => ?_) (fun hc => ?_)
        · replace h := h.1 hc
          refine x_iconst (v := 0) (dxX3_pair_1 6 rfl) rfl ?_
          exact x_iret (ty := .boolean) rfl rfl (dxX3_pair_1 7 rfl) ⟨_, rfl, h⟩
        · replace h := h.2 hc
          refine x_iconst (v := 1) (dxX3_pair_1 4 rfl) rfl ?_
          refine x_goto (tgt := 63) (dxX3_pair_1 5 rfl) (by decide) ?_
          exact x_iret (ty := .boolean) rfl rfl (dxX3_pair_1 7 rfl) ⟨_, rfl, h⟩
  · replace h := h.2 hc
    refine x_iload_n (i := 1) (dxX3_pair_0 6 rfl) rfl rfl ?_
    refine x_iconst (v := 1) (dxX3_pair_0 7 rfl) rfl ?_
    refine x_iadd (dxX3_pair_0 8 rfl) ?_
    refine x_goto (tgt := 17) (dxX3_pair_0 9 rfl) (by decide) ?_
    refine x_topi (fun x11 e12 => ?_)
    replace h := h x11 e12
    refine x_istore_n (i := 3) (dxX3_pair_0 11 rfl) rfl (Nat.le_of_ble_eq_true rfl) rfl rfl ?_
    refine x_iload_n (i := 2) (dxX3_pair_0 12 rfl) rfl rfl ?_
    refine x_iconst (v := 1) (dxX3_pair_0 13 rfl) rfl ?_
    refine x_iadd (dxX3_pair_0 14 rfl) ?_
    refine x_aload_n (i := 0) (dxX3_pair_0 15 rfl) rfl rfl ?_
    refine gf_3_24 (kisCZ hL io) rfl (dxX3_pair_0 16 rfl) ?_
    refine x_icmp_ge (tgt := 34) (dxX3_pair_0 17 rfl) (by decide) (fun hc => ?_) (fun hc => ?_)
    · replace h := h.1 hc
      refine x_iconst (v := 0) (dxX3_pair_0 22 rfl) rfl ?_
      refine x_istore (dxX3_pair_0 23 rfl) (Nat.le_of_ble_eq_true rfl) rfl rfl ?_
      refine x_aload_n (i := 0) (dxX3_pair_0 24 rfl) rfl rfl ?_
      refine x_iload_n (i := 1) (dxX3_pair_0 25 rfl) rfl rfl ?_
      refine x_iload (dxX3_pair_0 26 rfl) rfl ?_
      refine cl_3_32 (kisCZ hL io) (Nat.le_of_ble_eq_true rfl) (dxX3_pair_0 27 rfl) h (fun v14 s13 h => ?_) (Nat.le_refl _) (Nat.le_refl _)
      obtain ⟨hFs13, h⟩ := h
      have hKs13 : kd s13 = kd σ := hFs13.1.trans (rfl : kd σ = kd σ)
      have hLs13 : LayZ s13 := hL.fr hFs13
      refine x_iconst (v := 4) (dxX3_pair_0 28 rfl) rfl ?_
      refine x_icmp_gt (tgt := 62) (dxX3_pair_0 29 rfl) (by decide) (fun hc => ?_) (fun hc => ?_)
      · replace h := h.1 hc
        refine x_iconst (v := 0) (dxX3_pair_1 6 rfl) rfl ?_
        exact x_iret (ty := .boolean) rfl rfl (dxX3_pair_1 7 rfl) ⟨_, rfl, h⟩
      · replace h := h.2 hc
        refine x_aload_n (i := 0) (dxX3_pair_0 30 rfl) rfl rfl ?_
        refine x_iload_n (i := 3) (dxX3_pair_0 31 rfl) rfl rfl ?_
        refine x_iload_n (i := 2) (dxX3_pair_1 0 rfl) rfl rfl ?_
        refine cl_3_32 (kisCZ hLs13 io) (Nat.le_of_ble_eq_true rfl) (dxX3_pair_1 1 rfl) h (fun v16 s15 h => ?_) (Nat.le_refl _) (Nat.le_refl _)
        obtain ⟨hFs15, h⟩ := h
        have hKs15 : kd s15 = kd σ := hFs15.1.trans hKs13
        have hLs15 : LayZ s15 := hLs13.fr hFs15
        refine x_iconst (v := 4) (dxX3_pair_1 2 rfl) rfl ?_
        refine x_icmp_gt (tgt := 62) (dxX3_pair_1 3 rfl) (by decide) (fun hc => ?_) (fun hc => ?_)
        · replace h := h.1 hc
          refine x_iconst (v := 0) (dxX3_pair_1 6 rfl) rfl ?_
          exact x_iret (ty := .boolean) rfl rfl (dxX3_pair_1 7 rfl) ⟨_, rfl, h⟩
        · replace h := h.2 hc
          refine x_iconst (v := 1) (dxX3_pair_1 4 rfl) rfl ?_
          refine x_goto (tgt := 63) (dxX3_pair_1 5 rfl) (by decide) ?_
          exact x_iret (ty := .boolean) rfl rfl (dxX3_pair_1 7 rfl) ⟨_, rfl, h⟩
    · replace h := h.2 hc
      refine x_iload_n (i := 2) (dxX3_pair_0 18 rfl) rfl rfl ?_
      refine x_iconst (v := 1) (dxX3_pair_0 19 rfl) rfl ?_
      refine x_iadd (dxX3_pair_0 20 rfl) ?_
      refine x_goto (tgt := 35) (dxX3_pair_0 21 rfl) (by decide) ?_
      refine x_topi (fun x17 e18 => ?_)
      replace h := h x17 e18
      refine x_istore (dxX3_pair_0 23 rfl) (Nat.le_of_ble_eq_true rfl) rfl rfl ?_
      refine x_aload_n (i := 0) (dxX3_pair_0 24 rfl) rfl rfl ?_
      refine x_iload_n (i := 1) (dxX3_pair_0 25 rfl) rfl rfl ?_
      refine x_iload (dxX3_pair_0 26 rfl) rfl ?_
      refine cl_3_32 (kisCZ hL io) (Nat.le_of_ble_eq_true rfl) (dxX3_pair_0 27 rfl) h (fun v20 s19 h => ?_) (Nat.le_refl _) (Nat.le_refl _)
      obtain ⟨hFs19, h⟩ := h
      have hKs19 : kd s19 = kd σ := hFs19.1.trans (rfl : kd σ = kd σ)
      have hLs19 : LayZ s19 := hL.fr hFs19
      refine x_iconst (v := 4) (dxX3_pair_0 28 rfl) rfl ?_
      refine x_icmp_gt (tgt := 62) (dxX3_pair_0 29 rfl) (by decide) (fun hc => ?_) (fun hc => ?_)
      · replace h := h.1 hc
        refine x_iconst (v := 0) (dxX3_pair_1 6 rfl) rfl ?_
        exact x_iret (ty := .boolean) rfl rfl (dxX3_pair_1 7 rfl) ⟨_, rfl, h⟩
      · replace h := h.2 hc
        refine x_aload_n (i := 0) (dxX3_pair_0 30 rfl) rfl rfl ?_
        refine x_iload_n (i := 3) (dxX3_pair_0 31 rfl) rfl rfl ?_
        refine x_iload_n (i := 2) (dxX3_pair_1 0 rfl) rfl rfl ?_
        refine cl_3_32 (kisCZ hLs19 io) (Nat.le_of_ble_eq_true rfl) (dxX3_pair_1 1 rfl) h (fun v22 s21 h => ?_) (Nat.le_refl _) (Nat.le_refl _)
        obtain ⟨hFs21, h⟩ := h
        have hKs21 : kd s21 = kd σ := hFs21.1.trans hKs19
        have hLs21 : LayZ s21 := hLs19.fr hFs21
        refine x_iconst (v := 4) (dxX3_pair_1 2 rfl) rfl ?_
        refine x_icmp_gt (tgt := 62) (dxX3_pair_1 3 rfl) (by decide) (fun hc => ?_) (fun hc => ?_)
        · replace h := h.1 hc
          refine x_iconst (v := 0) (dxX3_pair_1 6 rfl) rfl ?_
          exact x_iret (ty := .boolean) rfl rfl (dxX3_pair_1 7 rfl) ⟨_, rfl, h⟩
        · replace h := h.2 hc
          refine x_iconst (v := 1) (dxX3_pair_1 4 rfl) rfl ?_
          refine x_goto (tgt := 63) (dxX3_pair_1 5 rfl) (by decide) ?_
          exact x_iret (ty := .boolean) rfl rfl (dxX3_pair_1 7 rfl) ⟨_, rfl, h⟩
theorem vcX3_uniteZ {g : GV} {d : Nat} {P : Int32 → PS → Prop} {σ : PS} (hL : LayZ σ) (o : Nat) (io : isC o) (p0 : Int32) (p1 : Int32) (h : vp_in p0 22 ∧ vp_in p1 22 ∧ ∀ x3 : Int32, x3 = jmin (mi σ (o + 1) (Int32.toNatClampNeg p0)) (mi σ (o + 1) (Int32.toNatClampNeg p1)) → vp_in p0 22 ∧ vp_in p1 22 ∧ ∀ x7 : Int32, x7 = jmax (mi σ (o + 1) (Int32.toNatClampNeg p0)) (mi σ (o + 1) (Int32.toNatClampNeg p1)) → (x3 = x7 → vp_in x3 22 ∧ P (mi σ (o + 2) (Int32.toNatClampNeg x3)) σ) ∧ (¬ x3 = x7 → VX3_unite g d P 43 [some (.ref o), none, none, some (.int x3), some (.int x7), some (.int x7)] [] σ)) : CX3_unite g d [.ref o, .int p0, .int p1] σ P := by
  refine x_entry (L := [some (.ref o), some (.int p0), some (.int p1), none, none, none]) pn_3 (Nat.le_of_ble_eq_true rfl) ⟨3, rfl⟩ ?_
  show VX3_unite g d P 0 [some (.ref o), some (.int p0), some (.int p1), none, none, none] [] σ
  refine x_aload_n (i := 0) (dxX3_unite_0 0 rfl) rfl rfl ?_
  refine gf_3_9 (kisCZ hL io) (risC_1Z hL io) (dxX3_unite_0 1 rfl) ?_
  refine x_iload_n (i := 1) (dxX3_unite_0 2 rfl) rfl rfl ?_
  obtain ⟨hi1, h⟩ := h
  refine x_iald (kisC_1Z hL io) hi1 (dxX3_unite_0 3 rfl) ?_
  refine x_aload_n (i := 0) (dxX3_unite_0 4 rfl) rfl rfl ?_
  refine gf_3_9 (kisCZ hL io) (risC_1Z hL io) (dxX3_unite_0 5 rfl) ?_
  refine x_iload_n (i := 2) (dxX3_unite_0 6 rfl) rfl rfl ?_
  obtain ⟨hi2, h⟩ := h
  refine x_iald (kisC_1Z hL io) hi2 (dxX3_unite_0 7 rfl) ?_
  refine cl_3_36 (Nat.le_of_ble_eq_true rfl) (dxX3_unite_0 8 rfl) ?_
  refine x_topi (fun x3 e4 => ?_)
  replace h := h x3 e4
  refine x_istore_n (i := 3) (dxX3_unite_0 9 rfl) rfl (Nat.le_of_ble_eq_true rfl) rfl rfl ?_
  refine x_aload_n (i := 0) (dxX3_unite_0 10 rfl) rfl rfl ?_
  refine gf_3_9 (kisCZ hL io) (risC_1Z hL io) (dxX3_unite_0 11 rfl) ?_
  refine x_iload_n (i := 1) (dxX3_unite_0 12 rfl) rfl rfl ?_
  obtain ⟨hi5, h⟩ := h
  refine x_iald (kisC_1Z hL io) hi5 (dxX3_unite_0 13 rfl) ?_
  refine x_aload_n (i := 0) (dxX3_unite_0 14 rfl) rfl rfl ?_
  refine gf_3_9 (kisCZ hL io) (risC_1Z hL io) (dxX3_unite_0 15 rfl) ?_
  refine x_iload_n (i := 2) (dxX3_unite_0 16 rfl) rfl rfl ?_
  obtain ⟨hi6, h⟩ := h
  refine x_iald (kisC_1Z hL io) hi6 (dxX3_unite_0 17 rfl) ?_
  refine cl_3_41 (Nat.le_of_ble_eq_true rfl) (dxX3_unite_0 18 rfl) ?_
  refine x_topi (fun x7 e8 => ?_)
  replace h := h x7 e8
  refine x_istore (dxX3_unite_0 19 rfl) (Nat.le_of_ble_eq_true rfl) rfl rfl ?_
  refine x_iload_n (i := 3) (dxX3_unite_0 20 rfl) rfl rfl ?_
  refine x_iload (dxX3_unite_0 21 rfl) rfl ?_
  refine x_icmp_eq (tgt := 104) (dxX3_unite_0 22 rfl) (by decide) (fun hc => ?_) (fun hc => ?_)
  · replace h := h.1 hc
    refine x_aload_n (i := 0) (dxX3_unite_1 26 rfl) rfl rfl ?_
    refine gf_3_15 (kisCZ hL io) (risC_2Z hL io) (dxX3_unite_1 27 rfl) ?_
    refine x_iload_n (i := 3) (dxX3_unite_1 28 rfl) rfl rfl ?_
    obtain ⟨hi9, h⟩ := h
    refine x_iald (kisC_2Z hL io) hi9 (dxX3_unite_1 29 rfl) ?_
    exact x_iret (ty := .int) rfl rfl (dxX3_unite_1 30 rfl) ⟨_, rfl, h⟩
  · replace h := h.2 hc
    refine x_iload (dxX3_unite_0 23 rfl) rfl ?_
    refine x_istore (dxX3_unite_0 24 rfl) (Nat.le_of_ble_eq_true rfl) rfl rfl ?_
    refine x_mask [true, false, false, true, true, true] (L1 := [some (.ref o), none, none, some (.int x3), some (.int x7), some (.int x7)]) rfl ?_
    exact h
theorem vcX3_unite_43Z {g : GV} {d : Nat} {P : Int32 → PS → Prop} {σ : PS} (hL : LayZ σ) (l0 : Nat) (il0 : isC l0) (l3 : Int32) (l4 : Int32) (l5 : Int32) (h : ((mi σ l0 0) ≤ l5 → vp_in l3 22 ∧ vp_in l4 22 ∧ vp_in l3 22 ∧ ∀ s13 : PS, s13 = si σ (l0 + 2) (Int32.toNatClampNeg l3) ((mi σ (l0 + 2) (Int32.toNatClampNeg l3)) + (mi σ (l0 + 2) (Int32.toNatClampNeg l4))) → vp_in l3 22 ∧ P (mi s13 (l0 + 2) (Int32.toNatClampNeg l3)) s13) ∧ (¬ (mi σ l0 0) ≤ l5 → vp_in l5 22 ∧ (¬ (mi σ (l0 + 1) (Int32.toNatClampNeg l5)) = l4 → vp_in l5 22 ∧ vp_in l5 22 ∧ ∀ s19 : PS, s19 = si σ (l0 + 1) (Int32.toNatClampNeg l5) (mi σ (l0 + 1) (Int32.toNatClampNeg l5)) → ∀ x21 : Int32, x21 = l5 + 1 → VX3_unite g d P 43 [some (.ref l0), none, none, some (.int l3), some (.int l4), some (.int x21)] [] s19) ∧ ((mi σ (l0 + 1) (Int32.toNatClampNeg l5)) = l4 → vp_in l5 22 ∧ ∀ s24 : PS, s24 = si σ (l0 + 1) (Int32.toNatClampNeg l5) l3 → ∀ x26 : Int32, x26 = l5 + 1 → VX3_unite g d P 43 [some (.ref l0), none, none, some (.int l3), some (.int l4), some (.int x26)] [] s24))) : VX3_unite g d P 43 [some (.ref l0), none, none, some (.int l3), some (.int l4), some (.int l5)] [] σ := by
  refine x_iload (dxX3_unite_0 25 rfl) rfl ?_
  refine x_aload_n (i := 0) (dxX3_unite_0 26 rfl) rfl rfl ?_
  refine gf_3_24 (kisCZ hL il0) rfl (dxX3_unite_0 27 rfl) ?_
  refine x_icmp_ge (tgt := 88) (dxX3_unite_0 28 rfl) (by decide) (fun hc => ?_) (fun hc => ?_)
  · replace h := h.1 hc
    refine x_aload_n (i := 0) (dxX3_unite_1 15 rfl) rfl rfl ?_
    refine gf_3_15 (kisCZ hL il0) (risC_2Z hL il0) (dxX3_unite_1 16 rfl) ?_
    refine x_iload_n (i := 3) (dxX3_unite_1 17 rfl) rfl rfl ?_
    refine x_dup2 (dxX3_unite_1 18 rfl) rfl rfl ?_
    obtain ⟨hi10, h⟩ := h
    refine x_iald (kisC_2Z hL il0) hi10 (dxX3_unite_1 19 rfl) ?_
    refine x_aload_n (i := 0) (dxX3_unite_1 20 rfl) rfl rfl ?_
    refine gf_3_15 (kisCZ hL il0) (risC_2Z hL il0) (dxX3_unite_1 21 rfl) ?_
    refine x_iload (dxX3_unite_1 22 rfl) rfl ?_
    obtain ⟨hi11, h⟩ := h
    refine x_iald (kisC_2Z hL il0) hi11 (dxX3_unite_1 23 rfl) ?_
    refine x_iadd (dxX3_unite_1 24 rfl) ?_
    obtain ⟨hi12, h⟩ := h
    refine x_iast (kisC_2Z hL il0) hi12 (dxX3_unite_1 25 rfl) ?_
    refine x_sto (fun s13 e14 => ?_)
    replace h := h s13 e14
    have hKs13 : kd s13 = kd σ := by rw [e14]; exact (rfl : kd σ = kd σ)
    have hLs13 : LayZ s13 := by rw [e14]; exact hL.si
    refine x_aload_n (i := 0) (dxX3_unite_1 26 rfl) rfl rfl ?_
    refine gf_3_15 (kisCZ hLs13 il0) (risC_2Z hLs13 il0) (dxX3_unite_1 27 rfl) ?_
    refine x_iload_n (i := 3) (dxX3_unite_1 28 rfl) rfl rfl ?_
    obtain ⟨hi15, h⟩ := h
    refine x_iald (kisC_2Z hLs13 il0) hi15 (dxX3_unite_1 29 rfl) ?_
    exact x_iret (ty := .int) rfl rfl (dxX3_unite_1 30 rfl) ⟨_, rfl, h⟩
  · replace h := h.2 hc
    refine x_aload_n (i := 0) (dxX3_unite_0 29 rfl) rfl rfl ?_
    refine gf_3_9 (kisCZ hL il0) (risC_1Z hL il0) (dxX3_unite_0 30 rfl) ?_
    refine x_iload (dxX3_unite_0 31 rfl) rfl ?_
    refine x_aload_n (i := 0) (dxX3_unite_1 0 rfl) rfl rfl ?_
    refine gf_3_9 (kisCZ hL il0) (risC_1Z hL il0) (dxX3_unite_1 1 rfl) ?_
    refine x_iload (dxX3_unite_1 2 rfl) rfl ?_
    obtain ⟨hi16, h⟩ := h
    refine x_iald (kisC_1Z hL il0) hi16 (dxX3_unite_1 3 rfl) ?_
    refine x_iload (dxX3_unite_1 4 rfl) rfl ?_
    refine x_icmp_ne (tgt := 74) (dxX3_unite_1 5 rfl) (by decide) (fun hc => ?_) (fun hc => ?_)
    · replace h := h.1 hc
      refine x_aload_n (i := 0) (dxX3_unite_1 8 rfl) rfl rfl ?_
      refine gf_3_9 (kisCZ hL il0) (risC_1Z hL il0) (dxX3_unite_1 9 rfl) ?_
      refine x_iload (dxX3_unite_1 10 rfl) rfl ?_
      obtain ⟨hi17, h⟩ := h
      refine x_iald (kisC_1Z hL il0) hi17 (dxX3_unite_1 11 rfl) ?_
      obtain ⟨hi18, h⟩ := h
      refine x_iast (kisC_1Z hL il0) hi18 (dxX3_unite_1 12 rfl) ?_
      refine x_sto (fun s19 e20 => ?_)
      replace h := h s19 e20
      have hKs19 : kd s19 = kd σ := by rw [e20]; exact (rfl : kd σ = kd σ)
      have hLs19 : LayZ s19 := by rw [e20]; exact hL.si
      obtain ⟨x21, e22⟩ : ∃ y : Int32, y = l5 + 1 := ⟨_, rfl⟩
      replace h := h x21 e22
      refine x_iinc (v := x21) (dxX3_unite_1 13 rfl) (i := 5) rfl (by rw [e22]; rfl) (Nat.le_of_ble_eq_true rfl) rfl rfl ?_
      refine x_goto (tgt := 43) (dxX3_unite_1 14 rfl) (by decide) ?_
      exact h
    · replace h := h.2 hc
      refine x_iload_n (i := 3) (dxX3_unite_1 6 rfl) rfl rfl ?_
      refine x_goto (tgt := 81) (dxX3_unite_1 7 rfl) (by decide) ?_
      obtain ⟨hi23, h⟩ := h
      refine x_iast (kisC_1Z hL il0) hi23 (dxX3_unite_1 12 rfl) ?_
      refine x_sto (fun s24 e25 => ?_)
      replace h := h s24 e25
      have hKs24 : kd s24 = kd σ := by rw [e25]; exact (rfl : kd σ = kd σ)
      have hLs24 : LayZ s24 := by rw [e25]; exact hL.si
      obtain ⟨x26, e27⟩ : ∃ y : Int32, y = l5 + 1 := ⟨_, rfl⟩
      replace h := h x26 e27
      refine x_iinc (v := x26) (dxX3_unite_1 13 rfl) (i := 5) rfl (by rw [e27]; rfl) (Nat.le_of_ble_eq_true rfl) rfl rfl ?_
      refine x_goto (tgt := 43) (dxX3_unite_1 14 rfl) (by decide) ?_
      exact h
theorem vcX4_hasEdgeZ {g : GV} {d : Nat} {P : Int32 → PS → Prop} {σ : PS} (hL : LayZ σ) (o : Nat) (io : isF o) (p0 : Int32) (h : (p0 < 0 → P 0 σ) ∧ (¬ p0 < 0 → ((mi σ o 6) ≤ p0 → P 0 σ) ∧ (¬ (mi σ o 6) ≤ p0 → P 1 σ))) : CX4_hasEdge g d [.ref o, .int p0] σ P := by
  refine x_entry (L := [some (.ref o), some (.int p0)]) pn_4 (Nat.le_of_ble_eq_true rfl) ⟨0, rfl⟩ ?_
  show VX4_hasEdge g d P 0 [some (.ref o), some (.int p0)] [] σ
  refine x_iload_n (i := 1) (dxX4_hasEdge_0 0 rfl) rfl rfl ?_
  refine x_if_lt (tgt := 16) (dxX4_hasEdge_0 1 rfl) (by decide) (fun hc => ?_) (fun hc => ?_)
  · replace h := h.1 hc
    refine x_iconst (v := 0) (dxX4_hasEdge_0 8 rfl) rfl ?_
    exact x_iret (ty := .boolean) rfl rfl (dxX4_hasEdge_0 9 rfl) ⟨_, rfl, h⟩
  · replace h := h.2 hc
    refine x_iload_n (i := 1) (dxX4_hasEdge_0 2 rfl) rfl rfl ?_
    refine x_aload_n (i := 0) (dxX4_hasEdge_0 3 rfl) rfl rfl ?_
    refine gf_4_42 (kisFZ hL io) rfl (dxX4_hasEdge_0 4 rfl) ?_
    refine x_icmp_ge (tgt := 16) (dxX4_hasEdge_0 5 rfl) (by decide) (fun hc => ?_) (fun hc => ?_)
    · replace h := h.1 hc
      refine x_iconst (v := 0) (dxX4_hasEdge_0 8 rfl) rfl ?_
      exact x_iret (ty := .boolean) rfl rfl (dxX4_hasEdge_0 9 rfl) ⟨_, rfl, h⟩
    · replace h := h.2 hc
      refine x_iconst (v := 1) (dxX4_hasEdge_0 6 rfl) rfl ?_
      refine x_goto (tgt := 17) (dxX4_hasEdge_0 7 rfl) (by decide) ?_
      exact x_iret (ty := .boolean) rfl rfl (dxX4_hasEdge_0 9 rfl) ⟨_, rfl, h⟩
theorem vcX4_layZ {g : GV} {d : Nat} {P : Int32 → PS → Prop} {σ : PS} (hL : LayZ σ) (o : Nat) (io : isF o) (p0 np0 : Nat) (kp0 : kd σ p0 = some (.inr (0, np0))) (h : (¬ (0 : Int32) < 0 ∧ ¬ (0 : Int32) < 0 ∧ ¬ (16 : Int32) < 0 ∧ Int32.toNatClampNeg (0 : Int32) + Int32.toNatClampNeg (16 : Int32) ≤ np0 ∧ Int32.toNatClampNeg (0 : Int32) + Int32.toNatClampNeg (16 : Int32) ≤ 16) ∧ ∀ s2 : PS, s2 = sa σ (o + 1) (va_cpy (mi σ p0) (mi σ (o + 1)) (Int32.toNatClampNeg (0 : Int32)) (Int32.toNatClampNeg (0 : Int32)) (Int32.toNatClampNeg (16 : Int32))) → CX4_numberCells g d [.ref o] s2 (fun (s4 : PS) => Fr s2 s4 ∧ (¬ (mi s4 o 3) = 0 → CX4_linkCells g d [.ref o] s4 (fun (v7 : Int32) (s6 : PS) => Fr s4 s6 ∧ CX4_hangsTogether g d [.ref o] s6 (fun (v9 : Int32) (s8 : PS) => Fr s6 s8 ∧ (¬ v9 = 0 → CX4_traceRim g d [.ref o] s8 (fun (s10 : PS) => Fr s8 s10 ∧ (¬ (mi s10 o 6) = v7 → P 10 s10) ∧ ((mi s10 o 6) = v7 → P 0 s10))) ∧ (v9 = 0 → P 9 s8)))) ∧ ((mi s4 o 3) = 0 → P 8 s4))) : CX4_lay g (d + 1) [.ref o, .ref p0] σ P := by
  refine x_entry (L := [some (.ref o), some (.ref p0), none]) pn_4 (Nat.le_of_ble_eq_true rfl) ⟨1, rfl⟩ ?_
  show VX4_lay g (d + 1) P 0 [some (.ref o), some (.ref p0), none] [] σ
  refine x_aload_n (i := 1) (dxX4_lay_0 0 rfl) rfl rfl ?_
  refine x_iconst (v := 0) (dxX4_lay_0 1 rfl) rfl ?_
  refine x_aload_n (i := 0) (dxX4_lay_0 2 rfl) rfl rfl ?_
  refine gf_4_11 (kisFZ hL io) (risF_0Z hL io) (dxX4_lay_0 3 rfl) ?_
  refine x_iconst (v := 0) (dxX4_lay_0 4 rfl) rfl ?_
  refine x_bipush (v := 16) (dxX4_lay_0 5 rfl) rfl ?_
  obtain ⟨hc1, h⟩ := h
  refine cl_4_45 ((congrFun (rfl : kd σ = kd σ) _).trans kp0) (kisF_0Z hL io) hc1.1 hc1.2.1 hc1.2.2.1 hc1.2.2.2.1 hc1.2.2.2.2 (Nat.le_of_ble_eq_true rfl) (dxX4_lay_0 6 rfl) ?_
  refine x_sto (fun s2 e3 => ?_)
  replace h := h s2 e3
  have hKs2 : kd s2 = kd σ := by rw [e3]; exact (rfl : kd σ = kd σ)
  have hLs2 : LayZ s2 := by rw [e3]; exact hL.sa
  refine x_aload_n (i := 0) (dxX4_lay_0 7 rfl) rfl rfl ?_
  refine cl_4_51 (kisFZ hLs2 io) (Nat.le_of_ble_eq_true rfl) (dxX4_lay_0 8 rfl) h (fun s4 h => ?_) (Nat.le_refl _) (Nat.le_refl _)
  obtain ⟨hFs4, h⟩ := h
  have hKs4 : kd s4 = kd σ := hFs4.1.trans hKs2
  have hLs4 : LayZ s4 := hLs2.fr hFs4
  refine x_aload_n (i := 0) (dxX4_lay_0 9 rfl) rfl rfl ?_
  refine gf_4_38 (kisFZ hLs4 io) rfl (dxX4_lay_0 10 rfl) ?_
  refine x_if_ne (tgt := 26) (dxX4_lay_0 11 rfl) (by decide) (fun hc => ?_) (fun hc => ?_)
  · replace h := h.1 hc
    refine x_aload_n (i := 0) (dxX4_lay_0 14 rfl) rfl rfl ?_
    refine cl_4_54 (kisFZ hLs4 io) (Nat.le_of_ble_eq_true rfl) (dxX4_lay_0 15 rfl) h (fun v7 s6 h => ?_) (Nat.le_refl _) (Nat.le_refl _)
    obtain ⟨hFs6, h⟩ := h
    have hKs6 : kd s6 = kd σ := hFs6.1.trans hKs4
    have hLs6 : LayZ s6 := hLs4.fr hFs6
    refine x_istore_n (i := 2) (dxX4_lay_0 16 rfl) rfl (Nat.le_of_ble_eq_true rfl) rfl rfl ?_
    refine x_aload_n (i := 0) (dxX4_lay_0 17 rfl) rfl rfl ?_
    refine cl_4_58 (kisFZ hLs6 io) (Nat.le_of_ble_eq_true rfl) (dxX4_lay_0 18 rfl) h (fun v9 s8 h => ?_) (Nat.le_refl _) (Nat.le_refl _)
    obtain ⟨hFs8, h⟩ := h
    have hKs8 : kd s8 = kd σ := hFs8.1.trans hKs6
    have hLs8 : LayZ s8 := hLs6.fr hFs8
    refine x_if_ne (tgt := 41) (dxX4_lay_0 19 rfl) (by decide) (fun hc => ?_) (fun hc => ?_)
    · replace h := h.1 hc
      refine x_aload_n (i := 0) (dxX4_lay_0 22 rfl) rfl rfl ?_
      refine cl_4_62 (kisFZ hLs8 io) (Nat.le_of_ble_eq_true rfl) (dxX4_lay_0 23 rfl) h (fun s10 h => ?_) (Nat.le_refl _) (Nat.le_refl _)
      obtain ⟨hFs10, h⟩ := h
      have hKs10 : kd s10 = kd σ := hFs10.1.trans hKs8
      have hLs10 : LayZ s10 := hLs8.fr hFs10
      refine x_aload_n (i := 0) (dxX4_lay_0 24 rfl) rfl rfl ?_
      refine gf_4_42 (kisFZ hLs10 io) rfl (dxX4_lay_0 25 rfl) ?_
      refine x_iload_n (i := 2) (dxX4_lay_0 26 rfl) rfl rfl ?_
      refine x_icmp_ne (tgt := 57) (dxX4_lay_0 27 rfl) (by decide) (fun hc => ?_) (fun hc => ?_)
      · replace h := h.1 hc
        refine x_bipush (v := 10) (dxX4_lay_0 30 rfl) rfl ?_
        exact x_iret (ty := .int) rfl rfl (dxX4_lay_0 31 rfl) ⟨_, rfl, h⟩
      · replace h := h.2 hc
        refine x_iconst (v := 0) (dxX4_lay_0 28 rfl) rfl ?_
        refine x_goto (tgt := 59) (dxX4_lay_0 29 rfl) (by decide) ?_
        exact x_iret (ty := .int) rfl rfl (dxX4_lay_0 31 rfl) ⟨_, rfl, h⟩
    · replace h := h.2 hc
      refine x_bipush (v := 9) (dxX4_lay_0 20 rfl) rfl ?_
      exact x_iret (ty := .int) rfl rfl (dxX4_lay_0 21 rfl) ⟨_, rfl, h⟩
  · replace h := h.2 hc
    refine x_bipush (v := 8) (dxX4_lay_0 12 rfl) rfl ?_
    exact x_iret (ty := .int) rfl rfl (dxX4_lay_0 13 rfl) ⟨_, rfl, h⟩
theorem vcX4_numberCellsZ {g : GV} {d : Nat} {P : PS → Prop} {σ : PS} (hL : LayZ σ) (o : Nat) (io : isF o) (h : ∀ s1 : PS, s1 = si σ o 3 0 → VX4_numberCells g d P 7 [some (.ref o), some (.int 0), none] [] s1) : CX4_numberCells g d [.ref o] σ P := by
  refine x_entry (L := [some (.ref o), none, none]) pn_4 (Nat.le_of_ble_eq_true rfl) ⟨2, rfl⟩ ?_
  show VX4_numberCells g d P 0 [some (.ref o), none, none] [] σ
  refine x_aload_n (i := 0) (dxX4_numberCells_0 0 rfl) rfl rfl ?_
  refine x_iconst (v := 0) (dxX4_numberCells_0 1 rfl) rfl ?_
  refine pf_4_38 (kisFZ hL io) (dxX4_numberCells_0 2 rfl) ?_
  refine x_sto (fun s1 e2 => ?_)
  replace h := h s1 e2
  have hKs1 : kd s1 = kd σ := by rw [e2]; exact (rfl : kd σ = kd σ)
  have hLs1 : LayZ s1 := by rw [e2]; exact hL.si
  refine x_iconst (v := 0) (dxX4_numberCells_0 3 rfl) rfl ?_
  refine x_istore_n (i := 1) (dxX4_numberCells_0 4 rfl) rfl (Nat.le_of_ble_eq_true rfl) rfl rfl ?_
  exact h
theorem vcX4_numberCells_7Z {g : GV} {d : Nat} {P : PS → Prop} {σ : PS} (hL : LayZ σ) (l0 : Nat) (il0 : isF l0) (l1 : Int32) (h : (16 ≤ l1 → P σ) ∧ (¬ 16 ≤ l1 → VX4_numberCells g d P 15 [some (.ref l0), some (.int l1), some (.int 0)] [] σ)) : VX4_numberCells g d P 7 [some (.ref l0), some (.int l1), none] [] σ := by
  refine x_iload_n (i := 1) (dxX4_numberCells_0 5 rfl) rfl rfl ?_
  refine x_bipush (v := 16) (dxX4_numberCells_0 6 rfl) rfl ?_
  refine x_icmp_ge (tgt := 85) (dxX4_numberCells_0 7 rfl) (by decide) (fun hc => ?_) (fun hc => ?_)
  · replace h := h.1 hc
    exact x_vret rfl (dxX4_numberCells_1 16 rfl) ⟨rfl, h⟩
  · replace h := h.2 hc
    refine x_iconst (v := 0) (dxX4_numberCells_0 8 rfl) rfl ?_
    refine x_istore_n (i := 2) (dxX4_numberCells_0 9 rfl) rfl (Nat.le_of_ble_eq_true rfl) rfl rfl ?_
    exact h
theorem vcX4_numberCells_15Z {g : GV} {d : Nat} {P : PS → Prop} {σ : PS} (hL : LayZ σ) (l0 : Nat) (il0 : isF l0) (l1 : Int32) (l2 : Int32) (h : (16 ≤ l2 → ∀ x3 : Int32, x3 = l1 + 1 → VX4_numberCells g d P 7 [some (.ref l0), some (.int x3), none] [] σ) ∧ (¬ 16 ≤ l2 → vp_in l1 16 ∧ (((jshr (mi σ (l0 + 1) (Int32.toNatClampNeg l1)) l2) &&& 1) = 0 → ∀ x6 : Int32, x6 = l2 + 1 → VX4_numberCells g d P 15 [some (.ref l0), some (.int l1), some (.int x6)] [] σ) ∧ (¬ ((jshr (mi σ (l0 + 1) (Int32.toNatClampNeg l1)) l2) &&& 1) = 0 → (10 ≤ (mi σ l0 3) → ∀ x8 : Int32, x8 = l2 + 1 → VX4_numberCells g d P 15 [some (.ref l0), some (.int l1), some (.int x8)] [] σ) ∧ (¬ 10 ≤ (mi σ l0 3) → vp_in (mi σ l0 3) 10 ∧ ∀ s11 : PS, s11 = si σ (l0 + 2) (Int32.toNatClampNeg (mi σ l0 3)) l2 → vp_in (mi s11 l0 3) 10 ∧ ∀ s14 : PS, s14 = si s11 (l0 + 3) (Int32.toNatClampNeg (mi s11 l0 3)) l1 → ∀ s16 : PS, s16 = si s14 l0 3 ((mi s14 l0 3) + 1) → ∀ x18 : Int32, x18 = l2 + 1 → VX4_numberCells g d P 15 [some (.ref l0), some (.int l1), some (.int x18)] [] s16)))) : VX4_numberCells g d P 15 [some (.ref l0), some (.int l1), some (.int l2)] [] σ := by
  refine x_iload_n (i := 2) (dxX4_numberCells_0 10 rfl) rfl rfl ?_
  refine x_bipush (v := 16) (dxX4_numberCells_0 11 rfl) rfl ?_
  refine x_icmp_ge (tgt := 79) (dxX4_numberCells_0 12 rfl) (by decide) (fun hc => ?_) (fun hc => ?_)
  · replace h := h.1 hc
    obtain ⟨x3, e4⟩ : ∃ y : Int32, y = l1 + 1 := ⟨_, rfl⟩
    replace h := h x3 e4
    refine x_iinc (v := x3) (dxX4_numberCells_1 14 rfl) (i := 1) rfl (by rw [e4]; rfl) (Nat.le_of_ble_eq_true rfl) rfl rfl ?_
    refine x_goto (tgt := 7) (dxX4_numberCells_1 15 rfl) (by decide) ?_
    refine x_mask [true, true, false] (L1 := [some (.ref l0), some (.int x3), none]) rfl ?_
    exact h
  · replace h := h.2 hc
    refine x_aload_n (i := 0) (dxX4_numberCells_0 13 rfl) rfl rfl ?_
    refine gf_4_11 (kisFZ hL il0) (risF_0Z hL il0) (dxX4_numberCells_0 14 rfl) ?_
    refine x_iload_n (i := 1) (dxX4_numberCells_0 15 rfl) rfl rfl ?_
    obtain ⟨hi5, h⟩ := h
    refine x_iald (kisF_0Z hL il0) hi5 (dxX4_numberCells_0 16 rfl) ?_
    refine x_iload_n (i := 2) (dxX4_numberCells_0 17 rfl) rfl rfl ?_
    refine x_ishr (dxX4_numberCells_0 18 rfl) ?_
    refine x_iconst (v := 1) (dxX4_numberCells_0 19 rfl) rfl ?_
    refine x_iand (dxX4_numberCells_0 20 rfl) ?_
    refine x_if_eq (tgt := 73) (dxX4_numberCells_0 21 rfl) (by decide) (fun hc => ?_) (fun hc => ?_)
    · replace h := h.1 hc
      obtain ⟨x6, e7⟩ : ∃ y : Int32, y = l2 + 1 := ⟨_, rfl⟩
      replace h := h x6 e7
      refine x_iinc (v := x6) (dxX4_numberCells_1 12 rfl) (i := 2) rfl (by rw [e7]; rfl) (Nat.le_of_ble_eq_true rfl) rfl rfl ?_
      refine x_goto (tgt := 15) (dxX4_numberCells_1 13 rfl) (by decide) ?_
      exact h
    · replace h := h.2 hc
      refine x_aload_n (i := 0) (dxX4_numberCells_0 22 rfl) rfl rfl ?_
      refine gf_4_38 (kisFZ hL il0) rfl (dxX4_numberCells_0 23 rfl) ?_
      refine x_bipush (v := 10) (dxX4_numberCells_0 24 rfl) rfl ?_
      refine x_icmp_ge (tgt := 73) (dxX4_numberCells_0 25 rfl) (by decide) (fun hc => ?_) (fun hc => ?_)
      · replace h := h.1 hc
        obtain ⟨x8, e9⟩ : ∃ y : Int32, y = l2 + 1 := ⟨_, rfl⟩
        replace h := h x8 e9
        refine x_iinc (v := x8) (dxX4_numberCells_1 12 rfl) (i := 2) rfl (by rw [e9]; rfl) (Nat.le_of_ble_eq_true rfl) rfl rfl ?_
        refine x_goto (tgt := 15) (dxX4_numberCells_1 13 rfl) (by decide) ?_
        exact h
      · replace h := h.2 hc
        refine x_aload_n (i := 0) (dxX4_numberCells_0 26 rfl) rfl rfl ?_
        refine gf_4_17 (kisFZ hL il0) (risF_1Z hL il0) (dxX4_numberCells_0 27 rfl) ?_
        refine x_aload_n (i := 0) (dxX4_numberCells_0 28 rfl) rfl rfl ?_
        refine gf_4_38 (kisFZ hL il0) rfl (dxX4_numberCells_0 29 rfl) ?_
        refine x_iload_n (i := 2) (dxX4_numberCells_0 30 rfl) rfl rfl ?_
        obtain ⟨hi10, h⟩ := h
        refine x_iast (kisF_1Z hL il0) hi10 (dxX4_numberCells_0 31 rfl) ?_
        refine x_sto (fun s11 e12 => ?_)
        replace h := h s11 e12
        have hKs11 : kd s11 = kd σ := by rw [e12]; exact (rfl : kd σ = kd σ)
        have hLs11 : LayZ s11 := by rw [e12]; exact hL.si
        refine x_aload_n (i := 0) (dxX4_numberCells_1 0 rfl) rfl rfl ?_
        refine gf_4_20 (kisFZ hLs11 il0) (risF_2Z hLs11 il0) (dxX4_numberCells_1 1 rfl) ?_
        refine x_aload_n (i := 0) (dxX4_numberCells_1 2 rfl) rfl rfl ?_
        refine gf_4_38 (kisFZ hLs11 il0) rfl (dxX4_numberCells_1 3 rfl) ?_
        refine x_iload_n (i := 1) (dxX4_numberCells_1 4 rfl) rfl rfl ?_
        obtain ⟨hi13, h⟩ := h
        refine x_iast (kisF_2Z hLs11 il0) hi13 (dxX4_numberCells_1 5 rfl) ?_
        refine x_sto (fun s14 e15 => ?_)
        replace h := h s14 e15
        have hKs14 : kd s14 = kd σ := by rw [e15]; exact hKs11
        have hLs14 : LayZ s14 := by rw [e15]; exact hLs11.si
        refine x_aload_n (i := 0) (dxX4_numberCells_1 6 rfl) rfl rfl ?_
        refine x_dup (dxX4_numberCells_1 7 rfl) rfl ?_
        refine gf_4_38 (kisFZ hLs14 il0) rfl (dxX4_numberCells_1 8 rfl) ?_
        refine x_iconst (v := 1) (dxX4_numberCells_1 9 rfl) rfl ?_
        refine x_iadd (dxX4_numberCells_1 10 rfl) ?_
        refine pf_4_38 (kisFZ hLs14 il0) (dxX4_numberCells_1 11 rfl) ?_
        refine x_sto (fun s16 e17 => ?_)
        replace h := h s16 e17
        have hKs16 : kd s16 = kd σ := by rw [e17]; exact hKs14
        have hLs16 : LayZ s16 := by rw [e17]; exact hLs14.si
        obtain ⟨x18, e19⟩ : ∃ y : Int32, y = l2 + 1 := ⟨_, rfl⟩
        replace h := h x18 e19
        refine x_iinc (v := x18) (dxX4_numberCells_1 12 rfl) (i := 2) rfl (by rw [e19]; rfl) (Nat.le_of_ble_eq_true rfl) rfl rfl ?_
        refine x_goto (tgt := 15) (dxX4_numberCells_1 13 rfl) (by decide) ?_
        exact h
theorem vcX4_linkCellsZ {g : GV} {d : Nat} {P : Int32 → PS → Prop} {σ : PS} (hL : LayZ σ) (o : Nat) (io : isF o) (h : VX4_linkCells g (d + 1) P 4 [some (.ref o), some (.int 0), some (.int 0), none, none] [] σ) : CX4_linkCells g (d + 1) [.ref o] σ P := by
  refine x_entry (L := [some (.ref o), none, none, none, none]) pn_4 (Nat.le_of_ble_eq_true rfl) ⟨4, rfl⟩ ?_
  show VX4_linkCells g (d + 1) P 0 [some (.ref o), none, none, none, none] [] σ
  refine x_iconst (v := 0) (dxX4_linkCells_0 0 rfl) rfl ?_
  refine x_istore_n (i := 1) (dxX4_linkCells_0 1 rfl) rfl (Nat.le_of_ble_eq_true rfl) rfl rfl ?_
  refine x_iconst (v := 0) (dxX4_linkCells_0 2 rfl) rfl ?_
  refine x_istore_n (i := 2) (dxX4_linkCells_0 3 rfl) rfl (Nat.le_of_ble_eq_true rfl) rfl rfl ?_
  exact h
theorem vcX4_linkCells_4Z {g : GV} {d : Nat} {P : Int32 → PS → Prop} {σ : PS} (hL : LayZ σ) (l0 : Nat) (il0 : isF l0) (l1 : Int32) (l2 : Int32) (h : ((mi σ l0 3) ≤ l2 → P l1 σ) ∧ (¬ (mi σ l0 3) ≤ l2 → VX4_linkCells g (d + 1) P 14 [some (.ref l0), some (.int l1), some (.int l2), some (.int 0), none] [] σ)) : VX4_linkCells g (d + 1) P 4 [some (.ref l0), some (.int l1), some (.int l2), none, none] [] σ := by
  refine x_iload_n (i := 2) (dxX4_linkCells_0 4 rfl) rfl rfl ?_
  refine x_aload_n (i := 0) (dxX4_linkCells_0 5 rfl) rfl rfl ?_
  refine gf_4_38 (kisFZ hL il0) rfl (dxX4_linkCells_0 6 rfl) ?_
  refine x_icmp_ge (tgt := 98) (dxX4_linkCells_0 7 rfl) (by decide) (fun hc => ?_) (fun hc => ?_)
  · replace h := h.1 hc
    refine x_iload_n (i := 1) (dxX4_linkCells_1 31 rfl) rfl rfl ?_
    exact x_iret (ty := .int) rfl rfl (dxX4_linkCells_2 0 rfl) ⟨_, rfl, h⟩
  · replace h := h.2 hc
    refine x_iconst (v := 0) (dxX4_linkCells_0 8 rfl) rfl ?_
    refine x_istore_n (i := 3) (dxX4_linkCells_0 9 rfl) rfl (Nat.le_of_ble_eq_true rfl) rfl rfl ?_
    exact h
theorem vcX4_linkCells_14Z {g : GV} {d : Nat} {P : Int32 → PS → Prop} {σ : PS} (hL : LayZ σ) (l0 : Nat) (il0 : isF l0) (l1 : Int32) (l2 : Int32) (l3 : Int32) (h : (4 ≤ l3 → ∀ x1 : Int32, x1 = l2 + 1 → VX4_linkCells g (d + 1) P 4 [some (.ref l0), some (.int l1), some (.int x1), none, none] [] σ) ∧ (¬ 4 ≤ l3 → vp_in l2 10 ∧ vp_in l3 4 ∧ vp_in l2 10 ∧ vp_in l3 4 ∧ CX4_cellAt g d [.ref l0, .int ((mi σ (l0 + 2) (Int32.toNatClampNeg l2)) + (stepX (Int32.toNatClampNeg l3))), .int ((mi σ (l0 + 3) (Int32.toNatClampNeg l2)) + (stepY (Int32.toNatClampNeg l3)))] σ (fun (v8 : Int32) (s7 : PS) => Fr σ s7 ∧ vp_in ((l2 * 4) + l3) 40 ∧ ∀ s10 : PS, s10 = si s7 (l0 + 4) (Int32.toNatClampNeg ((l2 * 4) + l3)) v8 → vp_in ((l2 * 4) + l3) 40 ∧ ∀ s13 : PS, s13 = si s10 (l0 + 5) (Int32.toNatClampNeg ((l2 * 4) + l3)) (-1) → (¬ v8 = (-1) → ∀ x15 : Int32, x15 = l1 + 0 → ∀ x17 : Int32, x17 = l3 + 1 → VX4_linkCells g (d + 1) P 14 [some (.ref l0), some (.int x15), some (.int l2), some (.int x17), none] [] s13) ∧ (v8 = (-1) → ∀ x19 : Int32, x19 = l1 + 1 → ∀ x21 : Int32, x21 = l3 + 1 → VX4_linkCells g (d + 1) P 14 [some (.ref l0), some (.int x19), some (.int l2), some (.int x21), none] [] s13)))) : VX4_linkCells g (d + 1) P 14 [some (.ref l0), some (.int l1), some (.int l2), some (.int l3), none] [] σ := by
  refine x_iload_n (i := 3) (dxX4_linkCells_0 10 rfl) rfl rfl ?_
  refine x_iconst (v := 4) (dxX4_linkCells_0 11 rfl) rfl ?_
  refine x_icmp_ge (tgt := 92) (dxX4_linkCells_0 12 rfl) (by decide) (fun hc => ?_) (fun hc => ?_)
  · replace h := h.1 hc
    obtain ⟨x1, e2⟩ : ∃ y : Int32, y = l2 + 1 := ⟨_, rfl⟩
    replace h := h x1 e2
    refine x_iinc (v := x1) (dxX4_linkCells_1 29 rfl) (i := 2) rfl (by rw [e2]; rfl) (Nat.le_of_ble_eq_true rfl) rfl rfl ?_
    refine x_goto (tgt := 4) (dxX4_linkCells_1 30 rfl) (by decide) ?_
    refine x_mask [true, true, true, false, false] (L1 := [some (.ref l0), some (.int l1), some (.int x1), none, none]) rfl ?_
    exact h
  · replace h := h.2 hc
    refine x_aload_n (i := 0) (dxX4_linkCells_0 13 rfl) rfl rfl ?_
    refine x_aload_n (i := 0) (dxX4_linkCells_0 14 rfl) rfl rfl ?_
    refine gf_4_17 (kisFZ hL il0) (risF_1Z hL il0) (dxX4_linkCells_0 15 rfl) ?_
    refine x_iload_n (i := 2) (dxX4_linkCells_0 16 rfl) rfl rfl ?_
    obtain ⟨hi3, h⟩ := h
    refine x_iald (kisF_1Z hL il0) hi3 (dxX4_linkCells_0 17 rfl) ?_
    refine x_getsN (Or.inl ⟨rfl, rfl⟩) (by decide +kernel) (dxX4_linkCells_0 18 rfl) ?_
    refine x_iload_n (i := 3) (dxX4_linkCells_0 19 rfl) rfl rfl ?_
    obtain ⟨hi4, h⟩ := h
    refine x_ti hi4 (dxX4_linkCells_0 20 rfl) ?_
    refine x_iadd (dxX4_linkCells_0 21 rfl) ?_
    refine x_aload_n (i := 0) (dxX4_linkCells_0 22 rfl) rfl rfl ?_
    refine gf_4_20 (kisFZ hL il0) (risF_2Z hL il0) (dxX4_linkCells_0 23 rfl) ?_
    refine x_iload_n (i := 2) (dxX4_linkCells_0 24 rfl) rfl rfl ?_
    obtain ⟨hi5, h⟩ := h
    refine x_iald (kisF_2Z hL il0) hi5 (dxX4_linkCells_0 25 rfl) ?_
    refine x_getsN (Or.inr ⟨rfl, rfl⟩) (by decide +kernel) (dxX4_linkCells_0 26 rfl) ?_
    refine x_iload_n (i := 3) (dxX4_linkCells_0 27 rfl) rfl rfl ?_
    obtain ⟨hi6, h⟩ := h
    refine x_ti2 hi6 (dxX4_linkCells_0 28 rfl) ?_
    refine x_iadd (dxX4_linkCells_0 29 rfl) ?_
    refine cl_4_71 (kisFZ hL il0) (Nat.le_of_ble_eq_true rfl) (dxX4_linkCells_0 30 rfl) h (fun v8 s7 h => ?_) (Nat.le_refl _) (Nat.le_refl _)
    obtain ⟨hFs7, h⟩ := h
    have hKs7 : kd s7 = kd σ := hFs7.1.trans (rfl : kd σ = kd σ)
    have hLs7 : LayZ s7 := hL.fr hFs7
    refine x_istore (dxX4_linkCells_0 31 rfl) (Nat.le_of_ble_eq_true rfl) rfl rfl ?_
    refine x_aload_n (i := 0) (dxX4_linkCells_1 0 rfl) rfl rfl ?_
    refine gf_4_23 (kisFZ hLs7 il0) (risF_4Z hLs7 il0) (dxX4_linkCells_1 1 rfl) ?_
    refine x_iload_n (i := 2) (dxX4_linkCells_1 2 rfl) rfl rfl ?_
    refine x_iconst (v := 4) (dxX4_linkCells_1 3 rfl) rfl ?_
    refine x_imul (dxX4_linkCells_1 4 rfl) ?_
    refine x_iload_n (i := 3) (dxX4_linkCells_1 5 rfl) rfl rfl ?_
    refine x_iadd (dxX4_linkCells_1 6 rfl) ?_
    refine x_iload (dxX4_linkCells_1 7 rfl) rfl ?_
    obtain ⟨hi9, h⟩ := h
    refine x_iast (kisF_4Z hLs7 il0) hi9 (dxX4_linkCells_1 8 rfl) ?_
    refine x_sto (fun s10 e11 => ?_)
    replace h := h s10 e11
    have hKs10 : kd s10 = kd σ := by rw [e11]; exact hKs7
    have hLs10 : LayZ s10 := by rw [e11]; exact hLs7.si
    refine x_aload_n (i := 0) (dxX4_linkCells_1 9 rfl) rfl rfl ?_
    refine gf_4_26 (kisFZ hLs10 il0) (risF_5Z hLs10 il0) (dxX4_linkCells_1 10 rfl) ?_
    refine x_iload_n (i := 2) (dxX4_linkCells_1 11 rfl) rfl rfl ?_
    refine x_iconst (v := 4) (dxX4_linkCells_1 12 rfl) rfl ?_
    refine x_imul (dxX4_linkCells_1 13 rfl) ?_
    refine x_iload_n (i := 3) (dxX4_linkCells_1 14 rfl) rfl rfl ?_
    refine x_iadd (dxX4_linkCells_1 15 rfl) ?_
    refine x_iconst (v := (-1)) (dxX4_linkCells_1 16 rfl) rfl ?_
    obtain ⟨hi12, h⟩ := h
    refine x_iast (kisF_5Z hLs10 il0) hi12 (dxX4_linkCells_1 17 rfl) ?_
    refine x_sto (fun s13 e14 => ?_)
    replace h := h s13 e14
    have hKs13 : kd s13 = kd σ := by rw [e14]; exact hKs10
    have hLs13 : LayZ s13 := by rw [e14]; exact hLs10.si
    refine x_iload_n (i := 1) (dxX4_linkCells_1 18 rfl) rfl rfl ?_
    refine x_iload (dxX4_linkCells_1 19 rfl) rfl ?_
    refine x_iconst (v := (-1)) (dxX4_linkCells_1 20 rfl) rfl ?_
    refine x_icmp_ne (tgt := 83) (dxX4_linkCells_1 21 rfl) (by decide) (fun hc => ?_) (fun hc => ?_)
    · replace h := h.1 hc
      refine x_iconst (v := 0) (dxX4_linkCells_1 24 rfl) rfl ?_
      refine x_iadd (dxX4_linkCells_1 25 rfl) ?_
      refine x_topi (fun x15 e16 => ?_)
      replace h := h x15 e16
      refine x_istore_n (i := 1) (dxX4_linkCells_1 26 rfl) rfl (Nat.le_of_ble_eq_true rfl) rfl rfl ?_
      obtain ⟨x17, e18⟩ : ∃ y : Int32, y = l3 + 1 := ⟨_, rfl⟩
      replace h := h x17 e18
      refine x_iinc (v := x17) (dxX4_linkCells_1 27 rfl) (i := 3) rfl (by rw [e18]; rfl) (Nat.le_of_ble_eq_true rfl) rfl rfl ?_
      refine x_goto (tgt := 14) (dxX4_linkCells_1 28 rfl) (by decide) ?_
      refine x_mask [true, true, true, true, false] (L1 := [some (.ref l0), some (.int x15), some (.int l2), some (.int x17), none]) rfl ?_
      exact h
    · replace h := h.2 hc
      refine x_iconst (v := 1) (dxX4_linkCells_1 22 rfl) rfl ?_
      refine x_goto (tgt := 84) (dxX4_linkCells_1 23 rfl) (by decide) ?_
      refine x_iadd (dxX4_linkCells_1 25 rfl) ?_
      refine x_topi (fun x19 e20 => ?_)
      replace h := h x19 e20
      refine x_istore_n (i := 1) (dxX4_linkCells_1 26 rfl) rfl (Nat.le_of_ble_eq_true rfl) rfl rfl ?_
      obtain ⟨x21, e22⟩ : ∃ y : Int32, y = l3 + 1 := ⟨_, rfl⟩
      replace h := h x21 e22
      refine x_iinc (v := x21) (dxX4_linkCells_1 27 rfl) (i := 3) rfl (by rw [e22]; rfl) (Nat.le_of_ble_eq_true rfl) rfl rfl ?_
      refine x_goto (tgt := 14) (dxX4_linkCells_1 28 rfl) (by decide) ?_
      refine x_mask [true, true, true, true, false] (L1 := [some (.ref l0), some (.int x19), some (.int l2), some (.int x21), none]) rfl ?_
      exact h
theorem vcX4_cellAtZ {g : GV} {d : Nat} {P : Int32 → PS → Prop} {σ : PS} (hL : LayZ σ) (o : Nat) (io : isF o) (p0 : Int32) (p1 : Int32) (h : VX4_cellAt g d P 2 [some (.ref o), some (.int p0), some (.int p1), some (.int 0)] [] σ) : CX4_cellAt g d [.ref o, .int p0, .int p1] σ P := by
  refine x_entry (L := [some (.ref o), some (.int p0), some (.int p1), none]) pn_4 (Nat.le_of_ble_eq_true rfl) ⟨1, rfl⟩ ?_
  show VX4_cellAt g d P 0 [some (.ref o), some (.int p0), some (.int p1), none] [] σ
  refine x_iconst (v := 0) (dxX4_cellAt_0 0 rfl) rfl ?_
  refine x_istore_n (i := 3) (dxX4_cellAt_0 1 rfl) rfl (Nat.le_of_ble_eq_true rfl) rfl rfl ?_
  exact h
theorem vcX4_cellAt_2Z {g : GV} {d : Nat} {P : Int32 → PS → Prop} {σ : PS} (hL : LayZ σ) (l0 : Nat) (il0 : isF l0) (l1 : Int32) (l2 : Int32) (l3 : Int32) (h : ((mi σ l0 3) ≤ l3 → P (-1) σ) ∧ (¬ (mi σ l0 3) ≤ l3 → vp_in l3 10 ∧ (¬ (mi σ (l0 + 2) (Int32.toNatClampNeg l3)) = l1 → ∀ x2 : Int32, x2 = l3 + 1 → VX4_cellAt g d P 2 [some (.ref l0), some (.int l1), some (.int l2), some (.int x2)] [] σ) ∧ ((mi σ (l0 + 2) (Int32.toNatClampNeg l3)) = l1 → vp_in l3 10 ∧ (¬ (mi σ (l0 + 3) (Int32.toNatClampNeg l3)) = l2 → ∀ x5 : Int32, x5 = l3 + 1 → VX4_cellAt g d P 2 [some (.ref l0), some (.int l1), some (.int l2), some (.int x5)] [] σ) ∧ ((mi σ (l0 + 3) (Int32.toNatClampNeg l3)) = l2 → P l3 σ)))) : VX4_cellAt g d P 2 [some (.ref l0), some (.int l1), some (.int l2), some (.int l3)] [] σ := by
  refine x_iload_n (i := 3) (dxX4_cellAt_0 2 rfl) rfl rfl ?_
  refine x_aload_n (i := 0) (dxX4_cellAt_0 3 rfl) rfl rfl ?_
  refine gf_4_38 (kisFZ hL il0) rfl (dxX4_cellAt_0 4 rfl) ?_
  refine x_icmp_ge (tgt := 38) (dxX4_cellAt_0 5 rfl) (by decide) (fun hc => ?_) (fun hc => ?_)
  · replace h := h.1 hc
    refine x_iconst (v := (-1)) (dxX4_cellAt_0 22 rfl) rfl ?_
    exact x_iret (ty := .int) rfl rfl (dxX4_cellAt_0 23 rfl) ⟨_, rfl, h⟩
  · replace h := h.2 hc
    refine x_aload_n (i := 0) (dxX4_cellAt_0 6 rfl) rfl rfl ?_
    refine gf_4_17 (kisFZ hL il0) (risF_1Z hL il0) (dxX4_cellAt_0 7 rfl) ?_
    refine x_iload_n (i := 3) (dxX4_cellAt_0 8 rfl) rfl rfl ?_
    obtain ⟨hi1, h⟩ := h
    refine x_iald (kisF_1Z hL il0) hi1 (dxX4_cellAt_0 9 rfl) ?_
    refine x_iload_n (i := 1) (dxX4_cellAt_0 10 rfl) rfl rfl ?_
    refine x_icmp_ne (tgt := 32) (dxX4_cellAt_0 11 rfl) (by decide) (fun hc => ?_) (fun hc => ?_)
    · replace h := h.1 hc
      obtain ⟨x2, e3⟩ : ∃ y : Int32, y = l3 + 1 := ⟨_, rfl⟩
      replace h := h x2 e3
      refine x_iinc (v := x2) (dxX4_cellAt_0 20 rfl) (i := 3) rfl (by rw [e3]; rfl) (Nat.le_of_ble_eq_true rfl) rfl rfl ?_
      refine x_goto (tgt := 2) (dxX4_cellAt_0 21 rfl) (by decide) ?_
      exact h
    · replace h := h.2 hc
      refine x_aload_n (i := 0) (dxX4_cellAt_0 12 rfl) rfl rfl ?_
      refine gf_4_20 (kisFZ hL il0) (risF_2Z hL il0) (dxX4_cellAt_0 13 rfl) ?_
      refine x_iload_n (i := 3) (dxX4_cellAt_0 14 rfl) rfl rfl ?_
      obtain ⟨hi4, h⟩ := h
      refine x_iald (kisF_2Z hL il0) hi4 (dxX4_cellAt_0 15 rfl) ?_
      refine x_iload_n (i := 2) (dxX4_cellAt_0 16 rfl) rfl rfl ?_
      refine x_icmp_ne (tgt := 32) (dxX4_cellAt_0 17 rfl) (by decide) (fun hc => ?_) (fun hc => ?_)
      · replace h := h.1 hc
        obtain ⟨x5, e6⟩ : ∃ y : Int32, y = l3 + 1 := ⟨_, rfl⟩
        replace h := h x5 e6
        refine x_iinc (v := x5) (dxX4_cellAt_0 20 rfl) (i := 3) rfl (by rw [e6]; rfl) (Nat.le_of_ble_eq_true rfl) rfl rfl ?_
        refine x_goto (tgt := 2) (dxX4_cellAt_0 21 rfl) (by decide) ?_
        exact h
      · replace h := h.2 hc
        refine x_iload_n (i := 3) (dxX4_cellAt_0 18 rfl) rfl rfl ?_
        exact x_iret (ty := .int) rfl rfl (dxX4_cellAt_0 19 rfl) ⟨_, rfl, h⟩
theorem vcX4_hangsTogetherZ {g : GV} {d : Nat} {P : Int32 → PS → Prop} {σ : PS} (hL : LayZ σ) (o : Nat) (io : isF o) (h : VX4_hangsTogether g d P 4 [some (.ref o), some (.int 1), some (.int 0), none] [] σ) : CX4_hangsTogether g d [.ref o] σ P := by
  refine x_entry (L := [some (.ref o), none, none, none]) pn_4 (Nat.le_of_ble_eq_true rfl) ⟨3, rfl⟩ ?_
  show VX4_hangsTogether g d P 0 [some (.ref o), none, none, none] [] σ
  refine x_iconst (v := 1) (dxX4_hangsTogether_0 0 rfl) rfl ?_
  refine x_istore_n (i := 1) (dxX4_hangsTogether_0 1 rfl) rfl (Nat.le_of_ble_eq_true rfl) rfl rfl ?_
  refine x_iconst (v := 0) (dxX4_hangsTogether_0 2 rfl) rfl ?_
  refine x_istore_n (i := 2) (dxX4_hangsTogether_0 3 rfl) rfl (Nat.le_of_ble_eq_true rfl) rfl rfl ?_
  exact h
theorem vcX4_hangsTogether_4Z {g : GV} {d : Nat} {P : Int32 → PS → Prop} {σ : PS} (hL : LayZ σ) (l0 : Nat) (il0 : isF l0) (l1 : Int32) (l2 : Int32) (h : ((mi σ l0 3) ≤ l2 → (¬ l1 = ((jshl 1 (mi σ l0 3)) - 1) → P 0 σ) ∧ (l1 = ((jshl 1 (mi σ l0 3)) - 1) → P 1 σ)) ∧ (¬ (mi σ l0 3) ≤ l2 → VX4_hangsTogether g d P 14 [some (.ref l0), some (.int l1), some (.int l2), some (.int 0)] [] σ)) : VX4_hangsTogether g d P 4 [some (.ref l0), some (.int l1), some (.int l2), none] [] σ := by
  refine x_iload_n (i := 2) (dxX4_hangsTogether_0 4 rfl) rfl rfl ?_
  refine x_aload_n (i := 0) (dxX4_hangsTogether_0 5 rfl) rfl rfl ?_
  refine gf_4_38 (kisFZ hL il0) rfl (dxX4_hangsTogether_0 6 rfl) ?_
  refine x_icmp_ge (tgt := 67) (dxX4_hangsTogether_0 7 rfl) (by decide) (fun hc => ?_) (fun hc => ?_)
  · replace h := h.1 hc
    refine x_iload_n (i := 1) (dxX4_hangsTogether_1 11 rfl) rfl rfl ?_
    refine x_iconst (v := 1) (dxX4_hangsTogether_1 12 rfl) rfl ?_
    refine x_aload_n (i := 0) (dxX4_hangsTogether_1 13 rfl) rfl rfl ?_
    refine gf_4_38 (kisFZ hL il0) rfl (dxX4_hangsTogether_1 14 rfl) ?_
    refine x_ishl (dxX4_hangsTogether_1 15 rfl) ?_
    refine x_iconst (v := 1) (dxX4_hangsTogether_1 16 rfl) rfl ?_
    refine x_isub (dxX4_hangsTogether_1 17 rfl) ?_
    refine x_icmp_ne (tgt := 83) (dxX4_hangsTogether_1 18 rfl) (by decide) (fun hc => ?_) (fun hc => ?_)
    · replace h := h.1 hc
      refine x_iconst (v := 0) (dxX4_hangsTogether_1 21 rfl) rfl ?_
      exact x_iret (ty := .boolean) rfl rfl (dxX4_hangsTogether_1 22 rfl) ⟨_, rfl, h⟩
    · replace h := h.2 hc
      refine x_iconst (v := 1) (dxX4_hangsTogether_1 19 rfl) rfl ?_
      refine x_goto (tgt := 84) (dxX4_hangsTogether_1 20 rfl) (by decide) ?_
      exact x_iret (ty := .boolean) rfl rfl (dxX4_hangsTogether_1 22 rfl) ⟨_, rfl, h⟩
  · replace h := h.2 hc
    refine x_iconst (v := 0) (dxX4_hangsTogether_0 8 rfl) rfl ?_
    refine x_istore_n (i := 3) (dxX4_hangsTogether_0 9 rfl) rfl (Nat.le_of_ble_eq_true rfl) rfl rfl ?_
    exact h
theorem vcX4_hangsTogether_14Z {g : GV} {d : Nat} {P : Int32 → PS → Prop} {σ : PS} (hL : LayZ σ) (l0 : Nat) (il0 : isF l0) (l1 : Int32) (l2 : Int32) (l3 : Int32) (h : (((mi σ l0 3) * 4) ≤ l3 → ∀ x1 : Int32, x1 = l2 + 1 → VX4_hangsTogether g d P 4 [some (.ref l0), some (.int l1), some (.int x1), none] [] σ) ∧ (¬ ((mi σ l0 3) * 4) ≤ l3 → (((jshr l1 (l3 / 4)) &&& 1) = 0 → ∀ x3 : Int32, x3 = l3 + 1 → VX4_hangsTogether g d P 14 [some (.ref l0), some (.int l1), some (.int l2), some (.int x3)] [] σ) ∧ (¬ ((jshr l1 (l3 / 4)) &&& 1) = 0 → vp_in l3 40 ∧ ((mi σ (l0 + 4) (Int32.toNatClampNeg l3)) = (-1) → ∀ x6 : Int32, x6 = l3 + 1 → VX4_hangsTogether g d P 14 [some (.ref l0), some (.int l1), some (.int l2), some (.int x6)] [] σ) ∧ (¬ (mi σ (l0 + 4) (Int32.toNatClampNeg l3)) = (-1) → vp_in l3 40 ∧ ∀ x9 : Int32, x9 = l1 ||| (jshl 1 (mi σ (l0 + 4) (Int32.toNatClampNeg l3))) → ∀ x11 : Int32, x11 = l3 + 1 → VX4_hangsTogether g d P 14 [some (.ref l0), some (.int x9), some (.int l2), some (.int x11)] [] σ)))) : VX4_hangsTogether g d P 14 [some (.ref l0), some (.int l1), some (.int l2), some (.int l3)] [] σ := by
  refine x_iload_n (i := 3) (dxX4_hangsTogether_0 10 rfl) rfl rfl ?_
  refine x_aload_n (i := 0) (dxX4_hangsTogether_0 11 rfl) rfl rfl ?_
  refine gf_4_38 (kisFZ hL il0) rfl (dxX4_hangsTogether_0 12 rfl) ?_
  refine x_iconst (v := 4) (dxX4_hangsTogether_0 13 rfl) rfl ?_
  refine x_imul (dxX4_hangsTogether_0 14 rfl) ?_
  refine x_icmp_ge (tgt := 61) (dxX4_hangsTogether_0 15 rfl) (by decide) (fun hc => ?_) (fun hc => ?_)
  · replace h := h.1 hc
    obtain ⟨x1, e2⟩ : ∃ y : Int32, y = l2 + 1 := ⟨_, rfl⟩
    replace h := h x1 e2
    refine x_iinc (v := x1) (dxX4_hangsTogether_1 9 rfl) (i := 2) rfl (by rw [e2]; rfl) (Nat.le_of_ble_eq_true rfl) rfl rfl ?_
    refine x_goto (tgt := 4) (dxX4_hangsTogether_1 10 rfl) (by decide) ?_
    refine x_mask [true, true, true, false] (L1 := [some (.ref l0), some (.int l1), some (.int x1), none]) rfl ?_
    exact h
  · replace h := h.2 hc
    refine x_iload_n (i := 1) (dxX4_hangsTogether_0 16 rfl) rfl rfl ?_
    refine x_iload_n (i := 3) (dxX4_hangsTogether_0 17 rfl) rfl rfl ?_
    refine x_iconst (v := 4) (dxX4_hangsTogether_0 18 rfl) rfl ?_
    refine x_idiv (dxX4_hangsTogether_0 19 rfl) (by decide) ?_
    refine x_ishr (dxX4_hangsTogether_0 20 rfl) ?_
    refine x_iconst (v := 1) (dxX4_hangsTogether_0 21 rfl) rfl ?_
    refine x_iand (dxX4_hangsTogether_0 22 rfl) ?_
    refine x_if_eq (tgt := 55) (dxX4_hangsTogether_0 23 rfl) (by decide) (fun hc => ?_) (fun hc => ?_)
    · replace h := h.1 hc
      obtain ⟨x3, e4⟩ : ∃ y : Int32, y = l3 + 1 := ⟨_, rfl⟩
      replace h := h x3 e4
      refine x_iinc (v := x3) (dxX4_hangsTogether_1 7 rfl) (i := 3) rfl (by rw [e4]; rfl) (Nat.le_of_ble_eq_true rfl) rfl rfl ?_
      refine x_goto (tgt := 14) (dxX4_hangsTogether_1 8 rfl) (by decide) ?_
      exact h
    · replace h := h.2 hc
      refine x_aload_n (i := 0) (dxX4_hangsTogether_0 24 rfl) rfl rfl ?_
      refine gf_4_23 (kisFZ hL il0) (risF_4Z hL il0) (dxX4_hangsTogether_0 25 rfl) ?_
      refine x_iload_n (i := 3) (dxX4_hangsTogether_0 26 rfl) rfl rfl ?_
      obtain ⟨hi5, h⟩ := h
      refine x_iald (kisF_4Z hL il0) hi5 (dxX4_hangsTogether_0 27 rfl) ?_
      refine x_iconst (v := (-1)) (dxX4_hangsTogether_0 28 rfl) rfl ?_
      refine x_icmp_eq (tgt := 55) (dxX4_hangsTogether_0 29 rfl) (by decide) (fun hc => ?_) (fun hc => ?_)
      · replace h := h.1 hc
        obtain ⟨x6, e7⟩ : ∃ y : Int32, y = l3 + 1 := ⟨_, rfl⟩
        replace h := h x6 e7
        refine x_iinc (v := x6) (dxX4_hangsTogether_1 7 rfl) (i := 3) rfl (by rw [e7]; rfl) (Nat.le_of_ble_eq_true rfl) rfl rfl ?_
        refine x_goto (tgt := 14) (dxX4_hangsTogether_1 8 rfl) (by decide) ?_
        exact h
      · replace h := h.2 hc
        refine x_iload_n (i := 1) (dxX4_hangsTogether_0 30 rfl) rfl rfl ?_
        refine x_iconst (v := 1) (dxX4_hangsTogether_0 31 rfl) rfl ?_
        refine x_aload_n (i := 0) (dxX4_hangsTogether_1 0 rfl) rfl rfl ?_
        refine gf_4_23 (kisFZ hL il0) (risF_4Z hL il0) (dxX4_hangsTogether_1 1 rfl) ?_
        refine x_iload_n (i := 3) (dxX4_hangsTogether_1 2 rfl) rfl rfl ?_
        obtain ⟨hi8, h⟩ := h
        refine x_iald (kisF_4Z hL il0) hi8 (dxX4_hangsTogether_1 3 rfl) ?_
        refine x_ishl (dxX4_hangsTogether_1 4 rfl) ?_
        refine x_ior (dxX4_hangsTogether_1 5 rfl) ?_
        refine x_topi (fun x9 e10 => ?_)
        replace h := h x9 e10
        refine x_istore_n (i := 1) (dxX4_hangsTogether_1 6 rfl) rfl (Nat.le_of_ble_eq_true rfl) rfl rfl ?_
        obtain ⟨x11, e12⟩ : ∃ y : Int32, y = l3 + 1 := ⟨_, rfl⟩
        replace h := h x11 e12
        refine x_iinc (v := x11) (dxX4_hangsTogether_1 7 rfl) (i := 3) rfl (by rw [e12]; rfl) (Nat.le_of_ble_eq_true rfl) rfl rfl ?_
        refine x_goto (tgt := 14) (dxX4_hangsTogether_1 8 rfl) (by decide) ?_
        exact h
theorem vcX4_traceRimZ {g : GV} {d : Nat} {P : PS → Prop} {σ : PS} (hL : LayZ σ) (o : Nat) (io : isF o) (h : ∀ s1 : PS, s1 = si σ o 6 0 → VX4_traceRim g d P 14 [some (.ref o), some (.int 0), some (.int 0), some (.int 0), some (.int 0), none, none, none] [] s1) : CX4_traceRim g d [.ref o] σ P := by
  refine x_entry (L := [some (.ref o), none, none, none, none, none, none, none]) pn_4 (Nat.le_of_ble_eq_true rfl) ⟨7, rfl⟩ ?_
  show VX4_traceRim g d P 0 [some (.ref o), none, none, none, none, none, none, none] [] σ
  refine x_aload_n (i := 0) (dxX4_traceRim_0 0 rfl) rfl rfl ?_
  refine x_iconst (v := 0) (dxX4_traceRim_0 1 rfl) rfl ?_
  refine pf_4_42 (kisFZ hL io) (dxX4_traceRim_0 2 rfl) ?_
  refine x_sto (fun s1 e2 => ?_)
  replace h := h s1 e2
  have hKs1 : kd s1 = kd σ := by rw [e2]; exact (rfl : kd σ = kd σ)
  have hLs1 : LayZ s1 := by rw [e2]; exact hL.si
  refine x_iconst (v := 0) (dxX4_traceRim_0 3 rfl) rfl ?_
  refine x_istore_n (i := 1) (dxX4_traceRim_0 4 rfl) rfl (Nat.le_of_ble_eq_true rfl) rfl rfl ?_
  refine x_iconst (v := 0) (dxX4_traceRim_0 5 rfl) rfl ?_
  refine x_istore_n (i := 2) (dxX4_traceRim_0 6 rfl) rfl (Nat.le_of_ble_eq_true rfl) rfl rfl ?_
  refine x_iconst (v := 0) (dxX4_traceRim_0 7 rfl) rfl ?_
  refine x_istore_n (i := 3) (dxX4_traceRim_0 8 rfl) rfl (Nat.le_of_ble_eq_true rfl) rfl rfl ?_
  refine x_iconst (v := 0) (dxX4_traceRim_0 9 rfl) rfl ?_
  refine x_istore (dxX4_traceRim_0 10 rfl) (Nat.le_of_ble_eq_true rfl) rfl rfl ?_
  exact h
theorem vcX4_traceRim_14Z {g : GV} {d : Nat} {P : PS → Prop} {σ : PS} (hL : LayZ σ) (l0 : Nat) (il0 : isF l0) (l1 : Int32) (l2 : Int32) (l3 : Int32) (l4 : Int32) (h : (22 ≤ l4 → ∀ s3 : PS, s3 = si σ (l0 + 8) (Int32.toNatClampNeg 0) l3 → P s3) ∧ (¬ 22 ≤ l4 → vp_in ((l1 * 4) + l2) 40 ∧ (¬ (mi σ (l0 + 5) (Int32.toNatClampNeg ((l1 * 4) + l2))) = (-1) → ∀ s6 : PS, s6 = si σ (l0 + 8) (Int32.toNatClampNeg 0) l3 → P s6) ∧ ((mi σ (l0 + 5) (Int32.toNatClampNeg ((l1 * 4) + l2))) = (-1) → vp_in ((l1 * 4) + l2) 40 ∧ ∀ s9 : PS, s9 = si σ (l0 + 5) (Int32.toNatClampNeg ((l1 * 4) + l2)) l4 → vp_in l4 22 ∧ ∀ s12 : PS, s12 = si s9 (l0 + 6) (Int32.toNatClampNeg l4) l1 → vp_in l4 22 ∧ ∀ s15 : PS, s15 = si s12 (l0 + 7) (Int32.toNatClampNeg l4) l2 → vp_in l4 22 ∧ ∀ s18 : PS, s18 = si s15 (l0 + 8) (Int32.toNatClampNeg l4) l3 → ∀ s20 : PS, s20 = si s18 l0 6 ((mi s18 l0 6) + 1) → ∀ x22 : Int32, x22 = jrem (l2 + 1) 4 → vp_in ((l1 * 4) + x22) 40 ∧ ∀ x25 : Int32, x25 = mi s20 (l0 + 4) (Int32.toNatClampNeg ((l1 * 4) + x22)) → (¬ x25 = (-1) → vp_in ((x25 * 4) + l2) 40 ∧ ∀ x28 : Int32, x28 = mi s20 (l0 + 4) (Int32.toNatClampNeg ((x25 * 4) + l2)) → (¬ x25 = (-1) → (¬ x28 = (-1) → ∀ x30 : Int32, x30 = jrem (l2 + 3) 4 → ∀ x32 : Int32, x32 = l4 + 1 → VX4_traceRim g d P 14 [some (.ref l0), some (.int x28), some (.int x30), some (.int 3), some (.int x32), none, none, none] [] s20) ∧ (x28 = (-1) → ∀ x34 : Int32, x34 = l4 + 1 → VX4_traceRim g d P 14 [some (.ref l0), some (.int x25), some (.int l2), some (.int 2), some (.int x34), none, none, none] [] s20)) ∧ (x25 = (-1) → ∀ x36 : Int32, x36 = l4 + 1 → VX4_traceRim g d P 14 [some (.ref l0), some (.int l1), some (.int x22), some (.int 1), some (.int x36), none, none, none] [] s20)) ∧ (x25 = (-1) → (¬ x25 = (-1) → ∀ x38 : Int32, x38 = l4 + 1 → VX4_traceRim g d P 14 [some (.ref l0), some (.int x25), some (.int l2), some (.int 2), some (.int x38), none, none, none] [] s20) ∧ (x25 = (-1) → ∀ x40 : Int32, x40 = l4 + 1 → VX4_traceRim g d P 14 [some (.ref l0), some (.int l1), some (.int x22), some (.int 1), some (.int x40), none, none, none] [] s20))))) : VX4_traceRim g d P 14 [some (.ref l0), some (.int l1), some (.int l2), some (.int l3), some (.int l4), none, none, none] [] σ := by
  refine x_iload (dxX4_traceRim_0 11 rfl) rfl ?_
  refine x_bipush (v := 22) (dxX4_traceRim_0 12 rfl) rfl ?_
  refine x_icmp_ge (tgt := 169) (dxX4_traceRim_0 13 rfl) (by decide) (fun hc => ?_) (fun hc => ?_)
  · replace h := h.1 hc
    refine x_aload_n (i := 0) (dxX4_traceRim_3 15 rfl) rfl rfl ?_
    refine gf_4_35 (kisFZ hL il0) (risF_9Z hL il0) (dxX4_traceRim_3 16 rfl) ?_
    refine x_iconst (v := 0) (dxX4_traceRim_3 17 rfl) rfl ?_
    refine x_iload_n (i := 3) (dxX4_traceRim_3 18 rfl) rfl rfl ?_
    refine x_iast (kisF_9Z hL il0) (vpl 22 0 rfl) (dxX4_traceRim_3 19 rfl) ?_
    refine x_sto (fun s3 e4 => ?_)
    replace h := h s3 e4
    have hKs3 : kd s3 = kd σ := by rw [e4]; exact (rfl : kd σ = kd σ)
    have hLs3 : LayZ s3 := by rw [e4]; exact hL.si
    exact x_vret rfl (dxX4_traceRim_3 20 rfl) ⟨rfl, h⟩
  · replace h := h.2 hc
    refine x_aload_n (i := 0) (dxX4_traceRim_0 14 rfl) rfl rfl ?_
    refine gf_4_26 (kisFZ hL il0) (risF_5Z hL il0) (dxX4_traceRim_0 15 rfl) ?_
    refine x_iload_n (i := 1) (dxX4_traceRim_0 16 rfl) rfl rfl ?_
    refine x_iconst (v := 4) (dxX4_traceRim_0 17 rfl) rfl ?_
    refine x_imul (dxX4_traceRim_0 18 rfl) ?_
    refine x_iload_n (i := 2) (dxX4_traceRim_0 19 rfl) rfl rfl ?_
    refine x_iadd (dxX4_traceRim_0 20 rfl) ?_
    obtain ⟨hi5, h⟩ := h
    refine x_iald (kisF_5Z hL il0) hi5 (dxX4_traceRim_0 21 rfl) ?_
    refine x_iconst (v := (-1)) (dxX4_traceRim_0 22 rfl) rfl ?_
    refine x_icmp_ne (tgt := 169) (dxX4_traceRim_0 23 rfl) (by decide) (fun hc => ?_) (fun hc => ?_)
    · replace h := h.1 hc
      refine x_aload_n (i := 0) (dxX4_traceRim_3 15 rfl) rfl rfl ?_
      refine gf_4_35 (kisFZ hL il0) (risF_9Z hL il0) (dxX4_traceRim_3 16 rfl) ?_
      refine x_iconst (v := 0) (dxX4_traceRim_3 17 rfl) rfl ?_
      refine x_iload_n (i := 3) (dxX4_traceRim_3 18 rfl) rfl rfl ?_
      refine x_iast (kisF_9Z hL il0) (vpl 22 0 rfl) (dxX4_traceRim_3 19 rfl) ?_
      refine x_sto (fun s6 e7 => ?_)
      replace h := h s6 e7
      have hKs6 : kd s6 = kd σ := by rw [e7]; exact (rfl : kd σ = kd σ)
      have hLs6 : LayZ s6 := by rw [e7]; exact hL.si
      exact x_vret rfl (dxX4_traceRim_3 20 rfl) ⟨rfl, h⟩
    · replace h := h.2 hc
      refine x_aload_n (i := 0) (dxX4_traceRim_0 24 rfl) rfl rfl ?_
      refine gf_4_26 (kisFZ hL il0) (risF_5Z hL il0) (dxX4_traceRim_0 25 rfl) ?_
      refine x_iload_n (i := 1) (dxX4_traceRim_0 26 rfl) rfl rfl ?_
      refine x_iconst (v := 4) (dxX4_traceRim_0 27 rfl) rfl ?_
      refine x_imul (dxX4_traceRim_0 28 rfl) ?_
      refine x_iload_n (i := 2) (dxX4_traceRim_0 29 rfl) rfl rfl ?_
      refine x_iadd (dxX4_traceRim_0 30 rfl) ?_
      refine x_iload (dxX4_traceRim_0 31 rfl) rfl ?_
      obtain ⟨hi8, h⟩ := h
      refine x_iast (kisF_5Z hL il0) hi8 (dxX4_traceRim_1 0 rfl) ?_
      refine x_sto (fun s9 e10 => ?_)
      replace h := h s9 e10
      have hKs9 : kd s9 = kd σ := by rw [e10]; exact (rfl : kd σ = kd σ)
      have hLs9 : LayZ s9 := by rw [e10]; exact hL.si
      refine x_aload_n (i := 0) (dxX4_traceRim_1 1 rfl) rfl rfl ?_
      refine gf_4_29 (kisFZ hLs9 il0) (risF_7Z hLs9 il0) (dxX4_traceRim_1 2 rfl) ?_
      refine x_iload (dxX4_traceRim_1 3 rfl) rfl ?_
      refine x_iload_n (i := 1) (dxX4_traceRim_1 4 rfl) rfl rfl ?_
      obtain ⟨hi11, h⟩ := h
      refine x_iast (kisF_7Z hLs9 il0) hi11 (dxX4_traceRim_1 5 rfl) ?_
      refine x_sto (fun s12 e13 => ?_)
      replace h := h s12 e13
      have hKs12 : kd s12 = kd σ := by rw [e13]; exact hKs9
      have hLs12 : LayZ s12 := by rw [e13]; exact hLs9.si
      refine x_aload_n (i := 0) (dxX4_traceRim_1 6 rfl) rfl rfl ?_
      refine gf_4_32 (kisFZ hLs12 il0) (risF_8Z hLs12 il0) (dxX4_traceRim_1 7 rfl) ?_
      refine x_iload (dxX4_traceRim_1 8 rfl) rfl ?_
      refine x_iload_n (i := 2) (dxX4_traceRim_1 9 rfl) rfl rfl ?_
      obtain ⟨hi14, h⟩ := h
      refine x_iast (kisF_8Z hLs12 il0) hi14 (dxX4_traceRim_1 10 rfl) ?_
      refine x_sto (fun s15 e16 => ?_)
      replace h := h s15 e16
      have hKs15 : kd s15 = kd σ := by rw [e16]; exact hKs12
      have hLs15 : LayZ s15 := by rw [e16]; exact hLs12.si
      refine x_aload_n (i := 0) (dxX4_traceRim_1 11 rfl) rfl rfl ?_
      refine gf_4_35 (kisFZ hLs15 il0) (risF_9Z hLs15 il0) (dxX4_traceRim_1 12 rfl) ?_
      refine x_iload (dxX4_traceRim_1 13 rfl) rfl ?_
      refine x_iload_n (i := 3) (dxX4_traceRim_1 14 rfl) rfl rfl ?_
      obtain ⟨hi17, h⟩ := h
      refine x_iast (kisF_9Z hLs15 il0) hi17 (dxX4_traceRim_1 15 rfl) ?_
      refine x_sto (fun s18 e19 => ?_)
      replace h := h s18 e19
      have hKs18 : kd s18 = kd σ := by rw [e19]; exact hKs15
      have hLs18 : LayZ s18 := by rw [e19]; exact hLs15.si
      refine x_aload_n (i := 0) (dxX4_traceRim_1 16 rfl) rfl rfl ?_
      refine x_dup (dxX4_traceRim_1 17 rfl) rfl ?_
      refine gf_4_42 (kisFZ hLs18 il0) rfl (dxX4_traceRim_1 18 rfl) ?_
      refine x_iconst (v := 1) (dxX4_traceRim_1 19 rfl) rfl ?_
      refine x_iadd (dxX4_traceRim_1 20 rfl) ?_
      refine pf_4_42 (kisFZ hLs18 il0) (dxX4_traceRim_1 21 rfl) ?_
      refine x_sto (fun s20 e21 => ?_)
      replace h := h s20 e21
      have hKs20 : kd s20 = kd σ := by rw [e21]; exact hKs18
      have hLs20 : LayZ s20 := by rw [e21]; exact hLs18.si
      refine x_iload_n (i := 2) (dxX4_traceRim_1 22 rfl) rfl rfl ?_
      refine x_iconst (v := 1) (dxX4_traceRim_1 23 rfl) rfl ?_
      refine x_iadd (dxX4_traceRim_1 24 rfl) ?_
      refine x_iconst (v := 4) (dxX4_traceRim_1 25 rfl) rfl ?_
      refine x_irem (dxX4_traceRim_1 26 rfl) (by decide) ?_
      refine x_topi (fun x22 e23 => ?_)
      replace h := h x22 e23
      refine x_istore (dxX4_traceRim_1 27 rfl) (Nat.le_of_ble_eq_true rfl) rfl rfl ?_
      refine x_aload_n (i := 0) (dxX4_traceRim_1 28 rfl) rfl rfl ?_
      refine gf_4_23 (kisFZ hLs20 il0) (risF_4Z hLs20 il0) (dxX4_traceRim_1 29 rfl) ?_
      refine x_iload_n (i := 1) (dxX4_traceRim_1 30 rfl) rfl rfl ?_
      refine x_iconst (v := 4) (dxX4_traceRim_1 31 rfl) rfl ?_
      refine x_imul (dxX4_traceRim_2 0 rfl) ?_
      refine x_iload (dxX4_traceRim_2 1 rfl) rfl ?_
      refine x_iadd (dxX4_traceRim_2 2 rfl) ?_
      obtain ⟨hi24, h⟩ := h
      refine x_iald (kisF_4Z hLs20 il0) hi24 (dxX4_traceRim_2 3 rfl) ?_
      refine x_topi (fun x25 e26 => ?_)
      replace h := h x25 e26
      refine x_istore (dxX4_traceRim_2 4 rfl) (Nat.le_of_ble_eq_true rfl) rfl rfl ?_
      refine x_iload (dxX4_traceRim_2 5 rfl) rfl ?_
      refine x_iconst (v := (-1)) (dxX4_traceRim_2 6 rfl) rfl ?_
      refine x_icmp_ne (tgt := 111) (dxX4_traceRim_2 7 rfl) (by decide) (fun hc => ?_) (fun hc => ?_)
      · replace h := h.1 hc
        refine x_aload_n (i := 0) (dxX4_traceRim_2 10 rfl) rfl rfl ?_
        refine gf_4_23 (kisFZ hLs20 il0) (risF_4Z hLs20 il0) (dxX4_traceRim_2 11 rfl) ?_
        refine x_iload (dxX4_traceRim_2 12 rfl) rfl ?_
        refine x_iconst (v := 4) (dxX4_traceRim_2 13 rfl) rfl ?_
        refine x_imul (dxX4_traceRim_2 14 rfl) ?_
        refine x_iload_n (i := 2) (dxX4_traceRim_2 15 rfl) rfl rfl ?_
        refine x_iadd (dxX4_traceRim_2 16 rfl) ?_
        obtain ⟨hi27, h⟩ := h
        refine x_iald (kisF_4Z hLs20 il0) hi27 (dxX4_traceRim_2 17 rfl) ?_
        refine x_topi (fun x28 e29 => ?_)
        replace h := h x28 e29
        refine x_istore (dxX4_traceRim_2 18 rfl) (Nat.le_of_ble_eq_true rfl) rfl rfl ?_
        refine x_iload (dxX4_traceRim_2 19 rfl) rfl ?_
        refine x_iconst (v := (-1)) (dxX4_traceRim_2 20 rfl) rfl ?_
        refine x_icmp_ne (tgt := 138) (dxX4_traceRim_2 21 rfl) (by decide) (fun hc => ?_) (fun hc => ?_)
        · replace h := h.1 hc
          refine x_iload (dxX4_traceRim_2 27 rfl) rfl ?_
          refine x_iconst (v := (-1)) (dxX4_traceRim_2 28 rfl) rfl ?_
          refine x_icmp_ne (tgt := 152) (dxX4_traceRim_2 29 rfl) (by decide) (fun hc => ?_) (fun hc => ?_)
          · replace h := h.1 hc
            refine x_iload (dxX4_traceRim_3 3 rfl) rfl ?_
            refine x_istore_n (i := 1) (dxX4_traceRim_3 4 rfl) rfl (Nat.le_of_ble_eq_true rfl) rfl rfl ?_
            refine x_iload_n (i := 2) (dxX4_traceRim_3 5 rfl) rfl rfl ?_
            refine x_iconst (v := 3) (dxX4_traceRim_3 6 rfl) rfl ?_
            refine x_iadd (dxX4_traceRim_3 7 rfl) ?_
            refine x_iconst (v := 4) (dxX4_traceRim_3 8 rfl) rfl ?_
            refine x_irem (dxX4_traceRim_3 9 rfl) (by decide) ?_
            refine x_topi (fun x30 e31 => ?_)
            replace h := h x30 e31
            refine x_istore_n (i := 2) (dxX4_traceRim_3 10 rfl) rfl (Nat.le_of_ble_eq_true rfl) rfl rfl ?_
            refine x_iconst (v := 3) (dxX4_traceRim_3 11 rfl) rfl ?_
            refine x_istore_n (i := 3) (dxX4_traceRim_3 12 rfl) rfl (Nat.le_of_ble_eq_true rfl) rfl rfl ?_
            obtain ⟨x32, e33⟩ : ∃ y : Int32, y = l4 + 1 := ⟨_, rfl⟩
            replace h := h x32 e33
            refine x_iinc (v := x32) (dxX4_traceRim_3 13 rfl) (i := 4) rfl (by rw [e33]; rfl) (Nat.le_of_ble_eq_true rfl) rfl rfl ?_
            refine x_goto (tgt := 14) (dxX4_traceRim_3 14 rfl) (by decide) ?_
            refine x_mask [true, true, true, true, true, false, false, false] (L1 := [some (.ref l0), some (.int x28), some (.int x30), some (.int 3), some (.int x32), none, none, none]) rfl ?_
            exact h
          · replace h := h.2 hc
            refine x_iload (dxX4_traceRim_2 30 rfl) rfl ?_
            refine x_istore_n (i := 1) (dxX4_traceRim_2 31 rfl) rfl (Nat.le_of_ble_eq_true rfl) rfl rfl ?_
            refine x_iconst (v := 2) (dxX4_traceRim_3 0 rfl) rfl ?_
            refine x_istore_n (i := 3) (dxX4_traceRim_3 1 rfl) rfl (Nat.le_of_ble_eq_true rfl) rfl rfl ?_
            refine x_goto (tgt := 163) (dxX4_traceRim_3 2 rfl) (by decide) ?_
            obtain ⟨x34, e35⟩ : ∃ y : Int32, y = l4 + 1 := ⟨_, rfl⟩
            replace h := h x34 e35
            refine x_iinc (v := x34) (dxX4_traceRim_3 13 rfl) (i := 4) rfl (by rw [e35]; rfl) (Nat.le_of_ble_eq_true rfl) rfl rfl ?_
            refine x_goto (tgt := 14) (dxX4_traceRim_3 14 rfl) (by decide) ?_
            refine x_mask [true, true, true, true, true, false, false, false] (L1 := [some (.ref l0), some (.int x25), some (.int l2), some (.int 2), some (.int x34), none, none, none]) rfl ?_
            exact h
        · replace h := h.2 hc
          refine x_iload (dxX4_traceRim_2 22 rfl) rfl ?_
          refine x_istore_n (i := 2) (dxX4_traceRim_2 23 rfl) rfl (Nat.le_of_ble_eq_true rfl) rfl rfl ?_
          refine x_iconst (v := 1) (dxX4_traceRim_2 24 rfl) rfl ?_
          refine x_istore_n (i := 3) (dxX4_traceRim_2 25 rfl) rfl (Nat.le_of_ble_eq_true rfl) rfl rfl ?_
          refine x_goto (tgt := 163) (dxX4_traceRim_2 26 rfl) (by decide) ?_
          obtain ⟨x36, e37⟩ : ∃ y : Int32, y = l4 + 1 := ⟨_, rfl⟩
          replace h := h x36 e37
          refine x_iinc (v := x36) (dxX4_traceRim_3 13 rfl) (i := 4) rfl (by rw [e37]; rfl) (Nat.le_of_ble_eq_true rfl) rfl rfl ?_
          refine x_goto (tgt := 14) (dxX4_traceRim_3 14 rfl) (by decide) ?_
          refine x_mask [true, true, true, true, true, false, false, false] (L1 := [some (.ref l0), some (.int l1), some (.int x22), some (.int 1), some (.int x36), none, none, none]) rfl ?_
          exact h
      · replace h := h.2 hc
        refine x_iconst (v := (-1)) (dxX4_traceRim_2 8 rfl) rfl ?_
        refine x_goto (tgt := 122) (dxX4_traceRim_2 9 rfl) (by decide) ?_
        refine x_istore (dxX4_traceRim_2 18 rfl) (Nat.le_of_ble_eq_true rfl) rfl rfl ?_
        refine x_iload (dxX4_traceRim_2 19 rfl) rfl ?_
        refine x_iconst (v := (-1)) (dxX4_traceRim_2 20 rfl) rfl ?_
        refine x_icmp_ne (tgt := 138) (dxX4_traceRim_2 21 rfl) (by decide) (fun hc => ?_) (fun hc => ?_)
        · replace h := h.1 hc
          refine x_iload (dxX4_traceRim_2 27 rfl) rfl ?_
          refine x_iconst (v := (-1)) (dxX4_traceRim_2 28 rfl) rfl ?_
          refine x_icmp_ne (tgt := 152) (dxX4_traceRim_2 29 rfl) (by decide) (fun hc => ?_) (fun hc => ?_)
          · exact absurd hc (by decide)
          · clear hc
            refine x_iload (dxX4_traceRim_2 30 rfl) rfl ?_
            refine x_istore_n (i := 1) (dxX4_traceRim_2 31 rfl) rfl (Nat.le_of_ble_eq_true rfl) rfl rfl ?_
            refine x_iconst (v := 2) (dxX4_traceRim_3 0 rfl) rfl ?_
            refine x_istore_n (i := 3) (dxX4_traceRim_3 1 rfl) rfl (Nat.le_of_ble_eq_true rfl) rfl rfl ?_
            refine x_goto (tgt := 163) (dxX4_traceRim_3 2 rfl) (by decide) ?_
            obtain ⟨x38, e39⟩ : ∃ y : Int32, y = l4 + 1 := ⟨_, rfl⟩
            replace h := h x38 e39
            refine x_iinc (v := x38) (dxX4_traceRim_3 13 rfl) (i := 4) rfl (by rw [e39]; rfl) (Nat.le_of_ble_eq_true rfl) rfl rfl ?_
            refine x_goto (tgt := 14) (dxX4_traceRim_3 14 rfl) (by decide) ?_
            refine x_mask [true, true, true, true, true, false, false, false] (L1 := [some (.ref l0), some (.int x25), some (.int l2), some (.int 2), some (.int x38), none, none, none]) rfl ?_
            exact h
        · replace h := h.2 hc
          refine x_iload (dxX4_traceRim_2 22 rfl) rfl ?_
          refine x_istore_n (i := 2) (dxX4_traceRim_2 23 rfl) rfl (Nat.le_of_ble_eq_true rfl) rfl rfl ?_
          refine x_iconst (v := 1) (dxX4_traceRim_2 24 rfl) rfl ?_
          refine x_istore_n (i := 3) (dxX4_traceRim_2 25 rfl) rfl (Nat.le_of_ble_eq_true rfl) rfl rfl ?_
          refine x_goto (tgt := 163) (dxX4_traceRim_2 26 rfl) (by decide) ?_
          obtain ⟨x40, e41⟩ : ∃ y : Int32, y = l4 + 1 := ⟨_, rfl⟩
          replace h := h x40 e41
          refine x_iinc (v := x40) (dxX4_traceRim_3 13 rfl) (i := 4) rfl (by rw [e41]; rfl) (Nat.le_of_ble_eq_true rfl) rfl rfl ?_
          refine x_goto (tgt := 14) (dxX4_traceRim_3 14 rfl) (by decide) ?_
          refine x_mask [true, true, true, true, true, false, false, false] (L1 := [some (.ref l0), some (.int l1), some (.int x22), some (.int 1), some (.int x40), none, none, none]) rfl ?_
          exact h
theorem vcX11_takeFigureZ {g : GV} {d : Nat} {P : PS → Prop} {σ : PS} (hL : LayZ σ) (p0 np0 : Nat) (kp0 : kd σ p0 = some (.inr (0, np0))) (h : CX4_lay g d [.ref 20, .ref p0] σ (fun (v2 : Int32) (s1 : PS) => Fr σ s1 ∧ CX0_forget g d [.ref 38] s1 (fun (s3 : PS) => Fr s1 s3 ∧ ∀ s5 : PS, s5 = si s3 87 1 0 → ∀ s7 : PS, s7 = si s5 133 9 0 → CX11_settle g d [.ref 10] s7 (fun (s9 : PS) => Fr s7 s9 ∧ P s9)))) : CX11_takeFigure g (d + 1) [.ref 10, .ref p0] σ P := by
  refine x_entry (L := [some (.ref 10), some (.ref p0)]) pn_11 (Nat.le_of_ble_eq_true rfl) ⟨0, rfl⟩ ?_
  show VX11_takeFigure g (d + 1) P 0 [some (.ref 10), some (.ref p0)] [] σ
  refine x_aload_n (i := 0) (dxX11_takeFigure_0 0 rfl) rfl rfl ?_
  refine gf_11_26 (kd_10Z hL) (rv_10_2Z hL) (dxX11_takeFigure_0 1 rfl) ?_
  refine x_aload_n (i := 1) (dxX11_takeFigure_0 2 rfl) rfl rfl ?_
  refine cl_11_118 (kd_20Z hL) (Nat.le_of_ble_eq_true rfl) (dxX11_takeFigure_0 3 rfl) h (fun v2 s1 h => ?_) (Nat.le_refl _) (Nat.le_refl _)
  obtain ⟨hFs1, h⟩ := h
  have hKs1 : kd s1 = kd σ := hFs1.1.trans (rfl : kd σ = kd σ)
  have hLs1 : LayZ s1 := hL.fr hFs1
  refine x_pop (dxX11_takeFigure_0 4 rfl) rfl ?_
  refine x_aload_n (i := 0) (dxX11_takeFigure_0 5 rfl) rfl rfl ?_
  refine gf_11_36 (kd_10Z hLs1) (rv_10_4Z hLs1) (dxX11_takeFigure_0 6 rfl) ?_
  refine cl_11_317 (kd_38Z hLs1) (Nat.le_of_ble_eq_true rfl) (dxX11_takeFigure_0 7 rfl) h (fun s3 h => ?_) (Nat.le_refl _) (Nat.le_refl _)
  obtain ⟨hFs3, h⟩ := h
  have hKs3 : kd s3 = kd σ := hFs3.1.trans hKs1
  have hLs3 : LayZ s3 := hLs1.fr hFs3
  refine x_aload_n (i := 0) (dxX11_takeFigure_0 8 rfl) rfl rfl ?_
  refine gf_11_55 (kd_10Z hLs3) (rv_10_7Z hLs3) (dxX11_takeFigure_0 9 rfl) ?_
  refine x_iconst (v := 0) (dxX11_takeFigure_0 10 rfl) rfl ?_
  refine pf_11_320 (Or.inl rfl) (kd_87Z hLs3) (dxX11_takeFigure_0 11 rfl) ?_
  refine x_sto (fun s5 e6 => ?_)
  replace h := h s5 e6
  have hKs5 : kd s5 = kd σ := by rw [e6]; exact hKs3
  have hLs5 : LayZ s5 := by rw [e6]; exact hLs3.si
  refine x_aload_n (i := 0) (dxX11_takeFigure_0 12 rfl) rfl rfl ?_
  refine gf_11_71 (kd_10Z hLs5) (rv_10_9Z hLs5) (dxX11_takeFigure_0 13 rfl) ?_
  refine x_iconst (v := 0) (dxX11_takeFigure_0 14 rfl) rfl ?_
  refine pf_11_323 (Or.inl rfl) (kd_133Z hLs5) (dxX11_takeFigure_0 15 rfl) ?_
  refine x_sto (fun s7 e8 => ?_)
  replace h := h s7 e8
  have hKs7 : kd s7 = kd σ := by rw [e8]; exact hKs5
  have hLs7 : LayZ s7 := by rw [e8]; exact hLs5.si
  refine x_aload_n (i := 0) (dxX11_takeFigure_0 16 rfl) rfl rfl ?_
  refine cl_11_195 (kd_10Z hLs7) (Nat.le_of_ble_eq_true rfl) (dxX11_takeFigure_0 17 rfl) h (fun s9 h => ?_) (Nat.le_refl _) (Nat.le_refl _)
  obtain ⟨hFs9, h⟩ := h
  have hKs9 : kd s9 = kd σ := hFs9.1.trans hKs7
  have hLs9 : LayZ s9 := hLs7.fr hFs9
  exact x_vret rfl (dxX11_takeFigure_0 18 rfl) ⟨rfl, h⟩
theorem vcX11_settleZ {g : GV} {d : Nat} {P : PS → Prop} {σ : PS} (hL : LayZ σ)  (h : CX0_mates g d [.ref 38] σ (fun (v2 : Nat) (s1 : PS) => Fr σ s1 ∧ CX3_start g d [.ref 81, .ref 20] s1 (fun (s3 : PS) => Fr s1 s3 ∧ ∀ s5 : PS, s5 = si s3 10 13 0 → VX11_settle g (d + 1) P 26 [some (.ref 10), some (.ref v2), some (.int 0)] [] s5))) : CX11_settle g (d + 1) [.ref 10] σ P := by
  refine x_entry (L := [some (.ref 10), none, none]) pn_11 (Nat.le_of_ble_eq_true rfl) ⟨2, rfl⟩ ?_
  show VX11_settle g (d + 1) P 0 [some (.ref 10), none, none] [] σ
  refine x_aload_n (i := 0) (dxX11_settle_0 0 rfl) rfl rfl ?_
  refine gf_11_36 (kd_10Z hL) (rv_10_4Z hL) (dxX11_settle_0 1 rfl) ?_
  refine cl_11_147 (kd_38Z hL) (Nat.le_of_ble_eq_true rfl) (dxX11_settle_0 2 rfl) h (fun v2 s1 h => ?_) (Nat.le_refl _) (Nat.le_refl _)
  obtain ⟨hFs1, h⟩ := h
  have hKs1 : kd s1 = kd σ := hFs1.1.trans (rfl : kd σ = kd σ)
  have hLs1 : LayZ s1 := hL.fr hFs1
  refine x_astore_n (i := 1) (dxX11_settle_0 3 rfl) rfl (Nat.le_of_ble_eq_true rfl) rfl rfl ?_
  refine x_aload_n (i := 0) (dxX11_settle_0 4 rfl) rfl rfl ?_
  refine gf_11_43 (kd_10Z hLs1) (rv_10_5Z hLs1) (dxX11_settle_0 5 rfl) ?_
  refine x_aload_n (i := 0) (dxX11_settle_0 6 rfl) rfl rfl ?_
  refine gf_11_26 (kd_10Z hLs1) (rv_10_2Z hLs1) (dxX11_settle_0 7 rfl) ?_
  refine cl_11_324 (kd_81Z hLs1) (Nat.le_of_ble_eq_true rfl) (dxX11_settle_0 8 rfl) h (fun s3 h => ?_) (Nat.le_refl _) (Nat.le_refl _)
  obtain ⟨hFs3, h⟩ := h
  have hKs3 : kd s3 = kd σ := hFs3.1.trans hKs1
  have hLs3 : LayZ s3 := hLs1.fr hFs3
  refine x_aload_n (i := 0) (dxX11_settle_0 9 rfl) rfl rfl ?_
  refine x_iconst (v := 0) (dxX11_settle_0 10 rfl) rfl ?_
  refine pf_11_314 (kd_10Z hLs3) (dxX11_settle_0 11 rfl) ?_
  refine x_sto (fun s5 e6 => ?_)
  replace h := h s5 e6
  have hKs5 : kd s5 = kd σ := by rw [e6]; exact hKs3
  have hLs5 : LayZ s5 := by rw [e6]; exact hLs3.si
  refine x_iconst (v := 0) (dxX11_settle_0 12 rfl) rfl ?_
  refine x_istore_n (i := 2) (dxX11_settle_0 13 rfl) rfl (Nat.le_of_ble_eq_true rfl) rfl rfl ?_
  exact h
theorem vcX11_settle_26Z {g : GV} {d : Nat} {P : PS → Prop} {σ : PS} (hL : LayZ σ) (l1 nl1 : Nat) (kl1 : kd σ l1 = some (.inr (0, nl1))) (l2 : Int32) (h : ((mi σ 20 6) ≤ l2 → CX11_isBody g d [.ref 10] σ (fun (v8 : Int32) (s7 : PS) => Fr σ s7 ∧ (v8 = 0 → ∀ s9 : PS, s9 = si s7 144 3 (-1) → ∀ s11 : PS, s11 = si s9 149 1 0 → P s11) ∧ (¬ v8 = 0 → CX2_fold g d [.ref 129, .ref 20, .ref l1] s7 (fun (s13 : PS) => Fr s7 s13 ∧ ∀ s15 : PS, s15 = si s13 144 3 (-1) → ∀ s17 : PS, s17 = si s15 149 1 0 → P s17)))) ∧ (¬ (mi σ 20 6) ≤ l2 → vp_in l2 nl1 ∧ ((mi σ l1 (Int32.toNatClampNeg l2)) ≤ l2 → ∀ x20 : Int32, x20 = l2 + 1 → VX11_settle g (d + 1) P 26 [some (.ref 10), some (.ref l1), some (.int x20)] [] σ) ∧ (¬ (mi σ l1 (Int32.toNatClampNeg l2)) ≤ l2 → vp_in l2 nl1 ∧ CX3_pair g d [.ref 81, .int l2, .int (mi σ l1 (Int32.toNatClampNeg l2))] σ (fun (v24 : Int32) (s23 : PS) => Fr σ s23 ∧ ∀ s25 : PS, s25 = si s23 10 13 ((mi s23 10 13) + 1) → ∀ x27 : Int32, x27 = l2 + 1 → VX11_settle g (d + 1) P 26 [some (.ref 10), some (.ref l1), some (.int x27)] [] s25)))) : VX11_settle g (d + 1) P 26 [some (.ref 10), some (.ref l1), some (.int l2)] [] σ := by
  refine x_iload_n (i := 2) (dxX11_settle_0 14 rfl) rfl rfl ?_
  refine x_aload_n (i := 0) (dxX11_settle_0 15 rfl) rfl rfl ?_
  refine gf_11_26 (kd_10Z hL) (rv_10_2Z hL) (dxX11_settle_0 16 rfl) ?_
  refine gf_11_311 (kd_20Z hL) rfl (dxX11_settle_0 17 rfl) ?_
  refine x_icmp_ge (tgt := 72) (dxX11_settle_0 18 rfl) (by decide) (fun hc => ?_) (fun hc => ?_)
  · replace h := h.1 hc
    refine x_aload_n (i := 0) (dxX11_settle_1 8 rfl) rfl rfl ?_
    refine cl_11_218 (kd_10Z hL) (Nat.le_of_ble_eq_true rfl) (dxX11_settle_1 9 rfl) h (fun v8 s7 h => ?_) (Nat.le_refl _) (Nat.le_refl _)
    obtain ⟨hFs7, h⟩ := h
    have hKs7 : kd s7 = kd σ := hFs7.1.trans (rfl : kd σ = kd σ)
    have hLs7 : LayZ s7 := hL.fr hFs7
    refine x_if_eq (tgt := 91) (dxX11_settle_1 10 rfl) (by decide) (fun hc => ?_) (fun hc => ?_)
    · replace h := h.1 hc
      refine x_aload_n (i := 0) (dxX11_settle_1 17 rfl) rfl rfl ?_
      refine gf_11_80 (kd_10Z hLs7) (rv_10_10Z hLs7) (dxX11_settle_1 18 rfl) ?_
      refine x_iconst (v := (-1)) (dxX11_settle_1 19 rfl) rfl ?_
      refine pf_11_331 (kd_144Z hLs7) (dxX11_settle_1 20 rfl) ?_
      refine x_sto (fun s9 e10 => ?_)
      replace h := h s9 e10
      have hKs9 : kd s9 = kd σ := by rw [e10]; exact hKs7
      have hLs9 : LayZ s9 := by rw [e10]; exact hLs7.si
      refine x_aload_n (i := 0) (dxX11_settle_1 21 rfl) rfl rfl ?_
      refine gf_11_87 (kd_10Z hLs9) (rv_10_11Z hLs9) (dxX11_settle_1 22 rfl) ?_
      refine x_iconst (v := 0) (dxX11_settle_1 23 rfl) rfl ?_
      refine pf_11_334 (Or.inl rfl) (kd_149Z hLs9) (dxX11_settle_1 24 rfl) ?_
      refine x_sto (fun s11 e12 => ?_)
      replace h := h s11 e12
      have hKs11 : kd s11 = kd σ := by rw [e12]; exact hKs9
      have hLs11 : LayZ s11 := by rw [e12]; exact hLs9.si
      exact x_vret rfl (dxX11_settle_1 25 rfl) ⟨rfl, h⟩
    · replace h := h.2 hc
      refine x_aload_n (i := 0) (dxX11_settle_1 11 rfl) rfl rfl ?_
      refine gf_11_62 (kd_10Z hLs7) (rv_10_8Z hLs7) (dxX11_settle_1 12 rfl) ?_
      refine x_aload_n (i := 0) (dxX11_settle_1 13 rfl) rfl rfl ?_
      refine gf_11_26 (kd_10Z hLs7) (rv_10_2Z hLs7) (dxX11_settle_1 14 rfl) ?_
      refine x_aload_n (i := 1) (dxX11_settle_1 15 rfl) rfl rfl ?_
      refine cl_11_327 (kd_129Z hLs7) (Nat.le_of_ble_eq_true rfl) (dxX11_settle_1 16 rfl) h (fun s13 h => ?_) (Nat.le_refl _) (Nat.le_refl _)
      obtain ⟨hFs13, h⟩ := h
      have hKs13 : kd s13 = kd σ := hFs13.1.trans hKs7
      have hLs13 : LayZ s13 := hLs7.fr hFs13
      refine x_aload_n (i := 0) (dxX11_settle_1 17 rfl) rfl rfl ?_
      refine gf_11_80 (kd_10Z hLs13) (rv_10_10Z hLs13) (dxX11_settle_1 18 rfl) ?_
      refine x_iconst (v := (-1)) (dxX11_settle_1 19 rfl) rfl ?_
      refine pf_11_331 (kd_144Z hLs13) (dxX11_settle_1 20 rfl) ?_
      refine x_sto (fun s15 e16 => ?_)
      replace h := h s15 e16
      have hKs15 : kd s15 = kd σ := by rw [e16]; exact hKs13
      have hLs15 : LayZ s15 := by rw [e16]; exact hLs13.si
      refine x_aload_n (i := 0) (dxX11_settle_1 21 rfl) rfl rfl ?_
      refine gf_11_87 (kd_10Z hLs15) (rv_10_11Z hLs15) (dxX11_settle_1 22 rfl) ?_
      refine x_iconst (v := 0) (dxX11_settle_1 23 rfl) rfl ?_
      refine pf_11_334 (Or.inl rfl) (kd_149Z hLs15) (dxX11_settle_1 24 rfl) ?_
      refine x_sto (fun s17 e18 => ?_)
      replace h := h s17 e18
      have hKs17 : kd s17 = kd σ := by rw [e18]; exact hKs15
      have hLs17 : LayZ s17 := by rw [e18]; exact hLs15.si
      exact x_vret rfl (dxX11_settle_1 25 rfl) ⟨rfl, h⟩
  · replace h := h.2 hc
    refine x_aload_n (i := 1) (dxX11_settle_0 19 rfl) rfl rfl ?_
    refine x_iload_n (i := 2) (dxX11_settle_0 20 rfl) rfl rfl ?_
    obtain ⟨hi19, h⟩ := h
    refine x_iald ((congrFun (rfl : kd σ = kd σ) _).trans kl1) hi19 (dxX11_settle_0 21 rfl) ?_
    refine x_iload_n (i := 2) (dxX11_settle_0 22 rfl) rfl rfl ?_
    refine x_icmp_le (tgt := 66) (dxX11_settle_0 23 rfl) (by decide) (fun hc => ?_) (fun hc => ?_)
    · replace h := h.1 hc
      obtain ⟨x20, e21⟩ : ∃ y : Int32, y = l2 + 1 := ⟨_, rfl⟩
      replace h := h x20 e21
      refine x_iinc (v := x20) (dxX11_settle_1 6 rfl) (i := 2) rfl (by rw [e21]; rfl) (Nat.le_of_ble_eq_true rfl) rfl rfl ?_
      refine x_goto (tgt := 26) (dxX11_settle_1 7 rfl) (by decide) ?_
      exact h
    · replace h := h.2 hc
      refine x_aload_n (i := 0) (dxX11_settle_0 24 rfl) rfl rfl ?_
      refine gf_11_43 (kd_10Z hL) (rv_10_5Z hL) (dxX11_settle_0 25 rfl) ?_
      refine x_iload_n (i := 2) (dxX11_settle_0 26 rfl) rfl rfl ?_
      refine x_aload_n (i := 1) (dxX11_settle_0 27 rfl) rfl rfl ?_
      refine x_iload_n (i := 2) (dxX11_settle_0 28 rfl) rfl rfl ?_
      obtain ⟨hi22, h⟩ := h
      refine x_iald ((congrFun (rfl : kd σ = kd σ) _).trans kl1) hi22 (dxX11_settle_0 29 rfl) ?_
      refine cl_11_188 (kd_81Z hL) (Nat.le_of_ble_eq_true rfl) (dxX11_settle_0 30 rfl) h (fun v24 s23 h => ?_) (Nat.le_refl _) (Nat.le_refl _)
      obtain ⟨hFs23, h⟩ := h
      have hKs23 : kd s23 = kd σ := hFs23.1.trans (rfl : kd σ = kd σ)
      have hLs23 : LayZ s23 := hL.fr hFs23
      refine x_pop (dxX11_settle_0 31 rfl) rfl ?_
      refine x_aload_n (i := 0) (dxX11_settle_1 0 rfl) rfl rfl ?_
      refine x_dup (dxX11_settle_1 1 rfl) rfl ?_
      refine gf_11_314 (kd_10Z hLs23) rfl (dxX11_settle_1 2 rfl) ?_
      refine x_iconst (v := 1) (dxX11_settle_1 3 rfl) rfl ?_
      refine x_iadd (dxX11_settle_1 4 rfl) ?_
      refine pf_11_314 (kd_10Z hLs23) (dxX11_settle_1 5 rfl) ?_
      refine x_sto (fun s25 e26 => ?_)
      replace h := h s25 e26
      have hKs25 : kd s25 = kd σ := by rw [e26]; exact hKs23
      have hLs25 : LayZ s25 := by rw [e26]; exact hLs23.si
      obtain ⟨x27, e28⟩ : ∃ y : Int32, y = l2 + 1 := ⟨_, rfl⟩
      replace h := h x27 e28
      refine x_iinc (v := x27) (dxX11_settle_1 6 rfl) (i := 2) rfl (by rw [e28]; rfl) (Nat.le_of_ble_eq_true rfl) rfl rfl ?_
      refine x_goto (tgt := 26) (dxX11_settle_1 7 rfl) (by decide) ?_
      exact h
theorem vcX11_isBodyZ {g : GV} {d : Nat} {P : Int32 → PS → Prop} {σ : PS} (hL : LayZ σ)  (h : (¬ ((mi σ 10 13) * 2) = (mi σ 20 6) → P 0 σ) ∧ (((mi σ 10 13) * 2) = (mi σ 20 6) → P 1 σ)) : CX11_isBody g d [.ref 10] σ P := by
  refine x_entry (L := [some (.ref 10)]) pn_11 (Nat.le_of_ble_eq_true rfl) ⟨0, rfl⟩ ?_
  show VX11_isBody g d P 0 [some (.ref 10)] [] σ
  refine x_aload_n (i := 0) (dxX11_isBody_0 0 rfl) rfl rfl ?_
  refine gf_11_314 (kd_10Z hL) rfl (dxX11_isBody_0 1 rfl) ?_
  refine x_iconst (v := 2) (dxX11_isBody_0 2 rfl) rfl ?_
  refine x_imul (dxX11_isBody_0 3 rfl) ?_
  refine x_aload_n (i := 0) (dxX11_isBody_0 4 rfl) rfl rfl ?_
  refine gf_11_26 (kd_10Z hL) (rv_10_2Z hL) (dxX11_isBody_0 5 rfl) ?_
  refine gf_11_311 (kd_20Z hL) rfl (dxX11_isBody_0 6 rfl) ?_
  refine x_icmp_ne (tgt := 20) (dxX11_isBody_0 7 rfl) (by decide) (fun hc => ?_) (fun hc => ?_)
  · replace h := h.1 hc
    refine x_iconst (v := 0) (dxX11_isBody_0 10 rfl) rfl ?_
    exact x_iret (ty := .boolean) rfl rfl (dxX11_isBody_0 11 rfl) ⟨_, rfl, h⟩
  · replace h := h.2 hc
    refine x_iconst (v := 1) (dxX11_isBody_0 8 rfl) rfl ?_
    refine x_goto (tgt := 21) (dxX11_isBody_0 9 rfl) (by decide) ?_
    exact x_iret (ty := .boolean) rfl rfl (dxX11_isBody_0 11 rfl) ⟨_, rfl, h⟩
theorem vcJ7_fill_53178Z {g : GV} {d : Nat} {P : PS → Prop} {σ : PS} (hL : LayZ σ) (p0 np0 : Nat) (kp0 : kd σ p0 = some (.inr (0, np0))) (p1 : Int32) (h : ∀ x1 : Int32, x1 = nI np0 → VJ7_fill_53178 g d P 5 [some (.ref p0), some (.int p1), some (.int 0), some (.int x1)] [] σ) : CJ7_fill_53178 g d [.ref p0, .int p1] σ P := by
  refine x_entry (L := [some (.ref p0), some (.int p1), none, none]) (by decide +kernel) (Nat.le_of_ble_eq_true rfl) ⟨2, rfl⟩ ?_
  show VJ7_fill_53178 g d P 0 [some (.ref p0), some (.int p1), none, none] [] σ
  refine x_iconst (v := 0) (dxJ7_fill_53178_0 0 rfl) rfl ?_
  refine x_istore_n (i := 2) (dxJ7_fill_53178_0 1 rfl) rfl (Nat.le_of_ble_eq_true rfl) rfl rfl ?_
  refine x_aload_n (i := 0) (dxJ7_fill_53178_0 2 rfl) rfl rfl ?_
  refine x_alen (Nat.le_of_ble_eq_true rfl) ((congrFun (rfl : kd σ = kd σ) _).trans kp0) (dxJ7_fill_53178_0 3 rfl) ?_
  refine x_topi (fun x1 e2 => ?_)
  replace h := h x1 e2
  refine x_istore_n (i := 3) (dxJ7_fill_53178_0 4 rfl) rfl (Nat.le_of_ble_eq_true rfl) rfl rfl ?_
  exact h
theorem vcJ7_fill_53178_5Z {g : GV} {d : Nat} {P : PS → Prop} {σ : PS} (hL : LayZ σ) (l0 nl0 : Nat) (kl0 : kd σ l0 = some (.inr (0, nl0))) (l1 : Int32) (l2 : Int32) (l3 : Int32) (h : (l3 ≤ l2 → P σ) ∧ (¬ l3 ≤ l2 → vp_in l2 nl0 ∧ ∀ s4 : PS, s4 = si σ l0 (Int32.toNatClampNeg l2) l1 → ∀ x6 : Int32, x6 = l2 + 1 → VJ7_fill_53178 g d P 5 [some (.ref l0), some (.int l1), some (.int x6), some (.int l3)] [] s4)) : VJ7_fill_53178 g d P 5 [some (.ref l0), some (.int l1), some (.int l2), some (.int l3)] [] σ := by
  refine x_iload_n (i := 2) (dxJ7_fill_53178_0 5 rfl) rfl rfl ?_
  refine x_iload_n (i := 3) (dxJ7_fill_53178_0 6 rfl) rfl rfl ?_
  refine x_icmp_ge (tgt := 20) (dxJ7_fill_53178_0 7 rfl) (by decide) (fun hc => ?_) (fun hc => ?_)
  · replace h := h.1 hc
    exact x_vret rfl (dxJ7_fill_53178_0 14 rfl) ⟨rfl, h⟩
  · replace h := h.2 hc
    refine x_aload_n (i := 0) (dxJ7_fill_53178_0 8 rfl) rfl rfl ?_
    refine x_iload_n (i := 2) (dxJ7_fill_53178_0 9 rfl) rfl rfl ?_
    refine x_iload_n (i := 1) (dxJ7_fill_53178_0 10 rfl) rfl rfl ?_
    obtain ⟨hi3, h⟩ := h
    refine x_iast ((congrFun (rfl : kd σ = kd σ) _).trans kl0) hi3 (dxJ7_fill_53178_0 11 rfl) ?_
    refine x_sto (fun s4 e5 => ?_)
    replace h := h s4 e5
    have hKs4 : kd s4 = kd σ := by rw [e5]; exact (rfl : kd σ = kd σ)
    have hLs4 : LayZ s4 := by rw [e5]; exact hL.si
    obtain ⟨x6, e7⟩ : ∃ y : Int32, y = l2 + 1 := ⟨_, rfl⟩
    replace h := h x6 e7
    refine x_iinc (v := x6) (dxJ7_fill_53178_0 12 rfl) (i := 2) rfl (by rw [e7]; rfl) (Nat.le_of_ble_eq_true rfl) rfl rfl ?_
    refine x_goto (tgt := 5) (dxJ7_fill_53178_0 13 rfl) (by decide) ?_
    exact h
theorem Ch.layZ {Pm Pl : Nat → Nat → Prop} {σ s : PS} (h : Ch Pm Pl σ s) (hL : LayZ σ) : LayZ s := hL.fr h.1
theorem sp_unite_loopZ {g : GV} {d o E lo hi : Nat} {lf qf : Nat → Nat} {P : Int32 → PS → Prop} (io : isC o) (hlo : lo < hi) (hhi : hi < E) (hq : ∀ i, i < E → qf i ≤ 1000) :
    ∀ (n k : Nat) (σ : PS), n = E - k → k ≤ E → LayZ σ → mi σ o 0 = nI E → E ≤ 22 → (∀ i, i < E → lf i ≤ i) → (∀ i, i < E → mi σ (o + 1) i = nI (if i < k ∧ lf i = hi then lo else lf i)) → (∀ i, i < E → mi σ (o + 2) i = nI (qf i)) →
      (∀ s, mi s o 0 = nI E → (∀ i, i < E → mi s (o + 1) i = nI (if lf i = hi then lo else lf i)) → (∀ i, i < E → mi s (o + 2) i = nI (if i = lo then qf lo + qf hi else qf i)) → Ch (chC o) noL σ s → P (nI (qf lo + qf hi)) s) →
      VX3_unite g d P 43 [some (.ref o), none, none, some (.int (nI lo)), some (.int (nI hi)), some (.int (nI k))] [] σ := by
  intro n
  induction n with
  | zero =>
    intro k σ hn hk hL h0 hE hlf h1 h2 hp
    have hkE : k = E := by omega
    subst hkE
    have e1 := h2 lo (by omega)
    have e2 := h2 hi hhi
    have b1 := hq lo (by omega)
    have b2 := hq hi hhi
    refine vcX3_unite_43Z hL o io _ _ _ ⟨fun _ => ?_, fun hc => ?_⟩
    · simp (disch := omega) only [zIN, zCL, e1, e2, nI_add]
      refine ⟨by omega, by omega, by omega, fun s es => ⟨by omega, ?_⟩⟩
      have hv : mi s (o + 2) lo = nI (qf lo + qf hi) := by rw [es, mi_si, if_pos ⟨rfl, rfl⟩]
      rw [hv]
      refine hp s ?_ ?_ ?_ ?_
      · rw [es, mi_si, if_neg (by omega)]; exact h0
      · intro i hi'
        rw [es, mi_si, if_neg (by omega), h1 i hi']
        congr 1
        by_cases q : lf i = hi <;> simp [q, hi']
      · intro i hi'
        rw [es, mi_si]
        by_cases q : i = lo
        · subst q; simp
        · rw [if_neg (by omega), if_neg q]; exact h2 i hi'
      · rw [es]; exact Ch.rf.si (Or.inr rfl)
    · exact absurd (by rw [h0]; simp (disch := omega) only [zLE]; omega) hc
  | succ n ih =>
    intro k σ hn hk hL h0 hE hlf h1 h2 hp
    have e1 := h1 k (by omega)
    have hlk := hlf k (by omega)
    rw [if_neg (by omega)] at e1
    refine vcX3_unite_43Z hL o io _ _ _ ⟨fun hc => ?_, fun _ => ?_⟩
    · rw [h0] at hc
      simp (disch := omega) only [zLE] at hc
      omega
    · simp (disch := omega) only [zIN, zCL, e1, zEQ]
      refine ⟨by omega, fun hne => ⟨by omega, by omega, fun s es x ex => ?_⟩, fun heq => ⟨by omega, fun s es x ex => ?_⟩⟩
      · rw [ex, lit32, nI_add]
        refine ih (k + 1) s (by omega) (by omega) (by rw [es]; exact hL.si) (by rw [es, mi_si, if_neg (by omega)]; exact h0) hE hlf ?_ ?_ (fun s2 a1 a2 a3 a4 => hp s2 a1 a2 a3 ((by rw [es]; exact Ch.rf.si (Or.inl rfl) : Ch (chC o) noL σ s).trans a4))
        · intro i hi'
          rw [es, mi_si]
          by_cases q : i = k
          · subst q
            rw [if_pos ⟨rfl, rfl⟩, if_neg (by omega)]
          · rw [if_neg (by omega), h1 i hi']
            congr 1
            by_cases q2 : i < k
            · simp [q2, show i < k + 1 by omega]
            · simp [q2, show ¬ i < k + 1 by omega]
        · intro i hi'
          rw [es, mi_si, if_neg (by omega)]
          exact h2 i hi'
      · rw [ex, lit32, nI_add]
        refine ih (k + 1) s (by omega) (by omega) (by rw [es]; exact hL.si) (by rw [es, mi_si, if_neg (by omega)]; exact h0) hE hlf ?_ ?_ (fun s2 a1 a2 a3 a4 => hp s2 a1 a2 a3 ((by rw [es]; exact Ch.rf.si (Or.inl rfl) : Ch (chC o) noL σ s).trans a4))
        · intro i hi'
          rw [es, mi_si]
          by_cases q : i = k
          · subst q
            rw [if_pos ⟨rfl, rfl⟩, if_pos ⟨by omega, heq⟩]
          · rw [if_neg (by omega), h1 i hi']
            congr 1
            by_cases q2 : i < k
            · simp [q2, show i < k + 1 by omega]
            · simp [q2, show ¬ i < k + 1 by omega]
        · intro i hi'
          rw [es, mi_si, if_neg (by omega)]
          exact h2 i hi'
theorem sp_uniteZ {g : GV} {d o E a b : Nat} {lf qf : Nat → Nat} {σ : PS} (hL : LayZ σ) (io : isC o) (hC : Cor σ o E lf qf) (hP : Prt E lf) (hq : ∀ i, i < E → qf i ≤ 1000) (ha : a < E) (hb : b < E) :
    CX3_unite g d [.ref o, .int (nI a), .int (nI b)] σ (fun v s => v = nI (uQ lf qf a b (min (lf a) (lf b))) ∧ Cor s o E (uL lf a b) (uQ lf qf a b) ∧ Ch (chC o) noL σ s) := by
  obtain ⟨h0, hE, h1, h2⟩ := id hC
  have e1 := h1 a ha
  have e2 := h1 b hb
  have l1 := hP a ha
  have l2 := hP b hb
  refine vcX3_uniteZ hL o io _ _ ?_
  simp (disch := omega) only [zIN, zCL, e1, e2, zMIN, zMAX]
  refine ⟨by omega, by omega, fun x3 e3 => ⟨by omega, by omega, fun x7 e7 => ⟨fun hc => ?_, fun hc => ?_⟩⟩⟩
  · rw [e3, e7] at hc
    simp (disch := omega) only [zEQ] at hc
    have e := h2 (min (lf a) (lf b)) (by omega)
    rw [e3]
    simp (disch := omega) only [zIN, zCL, e]
    have hab : lf a = lf b := by omega
    refine ⟨by omega, ?_, ⟨h0, hE, fun i hi => ?_, fun i hi => ?_⟩, Ch.rf⟩
    · unfold uQ; rw [if_neg (by omega)]
    · rw [h1 i hi]; unfold uL; congr 1; split <;> omega
    · rw [h2 i hi]; unfold uQ; rw [if_neg (by omega)]
  · rw [e3, e7] at hc ⊢
    simp (disch := omega) only [zEQ] at hc
    have hab : ¬ lf a = lf b := fun q => hc (by omega)
    refine sp_unite_loopZ io (by omega) (by omega) hq (E - max (lf a) (lf b)) (max (lf a) (lf b)) σ rfl (by omega) hL h0 hE (fun i hi => (hP i hi).1) (fun i hi => ?_) h2 (fun s a0 a1 a2 a3 => ⟨?_, ⟨a0, hE, fun i hi => ?_, fun i hi => ?_⟩, a3⟩)
    · rw [h1 i hi, if_neg (fun q => by have := (hP i hi).1; omega)]
    · unfold uQ; rw [if_pos ⟨hab, rfl⟩]
    · rw [a1 i hi]; rfl
    · rw [a2 i hi]
      unfold uQ
      by_cases q : i = min (lf a) (lf b)
      · rw [if_pos q, if_pos ⟨hab, q⟩]
      · rw [if_neg q, if_neg (fun z => q z.2)]
theorem sp_pairZ {g : GV} {d o E a b : Nat} {lf qf : Nat → Nat} {σ : PS} (hL : LayZ σ) (io : isC o) (hC : Cor σ o E lf qf) (hP : Prt E lf) (hq : ∀ i, i < E → qf i ≤ 500) (ha : a < E) (hb : b < E) :
    CX3_pair g (d + 1) [.ref o, .int (nI a), .int (nI b)] σ (fun v s => Ch (chC o) noL σ s ∧ (v = if pS1 E lf qf a b ≤ 4 ∧ pS2 E lf qf a b ≤ 4 then 1 else 0) ∧ (pS1 E lf qf a b ≤ 4 ∧ pS2 E lf qf a b ≤ 4 → Cor s o E (pL E lf a b) (pQ E lf qf a b))) := by
  have h0 := hC.1
  have hE := hC.2.1
  have ea : nI a + 1 = nI (a + 1) := nI_1 a
  have eb : nI b + 1 = nI (b + 1) := nI_1 b
  have key : CX3_unite g d [.ref o, .int (nI a), .int (nI (nxE E b))] σ (fun (v : Int32) (s : PS) => Fr σ s ∧ (4 < v → (Ch (chC o) noL σ s ∧ ((0 : Int32) = if pS1 E lf qf a b ≤ 4 ∧ pS2 E lf qf a b ≤ 4 then 1 else 0) ∧ (pS1 E lf qf a b ≤ 4 ∧ pS2 E lf qf a b ≤ 4 → Cor s o E (pL E lf a b) (pQ E lf qf a b)))) ∧ (¬ 4 < v → CX3_unite g d [.ref o, .int (nI (nxE E a)), .int (nI b)] s (fun (w : Int32) (t : PS) => Fr s t ∧ (4 < w → (Ch (chC o) noL σ t ∧ ((0 : Int32) = if pS1 E lf qf a b ≤ 4 ∧ pS2 E lf qf a b ≤ 4 then 1 else 0) ∧ (pS1 E lf qf a b ≤ 4 ∧ pS2 E lf qf a b ≤ 4 → Cor t o E (pL E lf a b) (pQ E lf qf a b)))) ∧ (¬ 4 < w → (Ch (chC o) noL σ t ∧ ((1 : Int32) = if pS1 E lf qf a b ≤ 4 ∧ pS2 E lf qf a b ≤ 4 then 1 else 0) ∧ (pS1 E lf qf a b ≤ 4 ∧ pS2 E lf qf a b ≤ 4 → Cor t o E (pL E lf a b) (pQ E lf qf a b))))))) := by
    have hx := nxE_lt (a := b) (show 0 < E by omega)
    have hy := nxE_lt (a := a) (show 0 < E by omega)
    refine Ct.imp (sp_uniteZ hL io hC hP (fun i hi => by have := hq i hi; omega) ha hx) (fun r s q => ?_)
    obtain ⟨v, rfl, rfl, hC1, hc1⟩ := q
    have b1 : pS1 E lf qf a b ≤ 1000 := uQ_le (fun i hi => (hP i hi).1) ha hx hq _ (by have := (hP a ha).1; omega)
    refine ⟨_, rfl, hc1.fr, fun h4 => ?_, fun h4 => ?_⟩
    · have h4' : ¬ pS1 E lf qf a b ≤ 4 := by
        have : 4 < nI (pS1 E lf qf a b) := h4
        rw [lit32] at this
        simp (disch := omega) only [zLT] at this
        omega
      exact ⟨hc1, by rw [if_neg (fun z => h4' z.1)], fun z => absurd z.1 h4'⟩
    · have h4' : pS1 E lf qf a b ≤ 4 := by
        have : ¬ 4 < nI (pS1 E lf qf a b) := h4
        rw [lit32] at this
        simp (disch := omega) only [zLT] at this
        omega
      have hP1 := hP.uL ha hx
      have hq1 : ∀ i, i < E → uQ lf qf a (nxE E b) i ≤ 1000 := uQ_le (fun i hi => (hP i hi).1) ha hx hq
      refine Ct.imp (sp_uniteZ (hc1.layZ hL) io hC1 hP1 hq1 hy hb) (fun r t q => ?_)
      obtain ⟨w, rfl, rfl, hC2, hc2⟩ := q
      have b2 : pS2 E lf qf a b ≤ 2000 := uQ_le (fun i hi => (hP1 i hi).1) hy hb hq1 _ (by have := (hP1 b hb).1; omega)
      refine ⟨_, rfl, hc2.fr, fun h5 => ?_, fun h5 => ?_⟩
      · have h5' : ¬ pS2 E lf qf a b ≤ 4 := by
          have : 4 < nI (pS2 E lf qf a b) := h5
          rw [lit32] at this
          simp (disch := omega) only [zLT] at this
          omega
        exact ⟨hc1.trans hc2, by rw [if_neg (fun z => h5' z.2)], fun z => absurd z.2 h5'⟩
      · have h5' : pS2 E lf qf a b ≤ 4 := by
          have : ¬ 4 < nI (pS2 E lf qf a b) := h5
          rw [lit32] at this
          simp (disch := omega) only [zLT] at this
          omega
        exact ⟨hc1.trans hc2, by rw [if_pos ⟨h4', h5'⟩], fun _ => hC2⟩
  refine vcX3_pairZ hL o io _ _ ?_
  simp (disch := omega) only [ea, eb, h0, zLE]
  refine ⟨fun h1 => ⟨fun h2 => ?_, fun h2 x ex => ?_⟩, fun h1 x ex => ⟨fun h2 => ?_, fun h2 y ey => ?_⟩⟩
  · rw [show nxE E b = 0 from if_neg (by omega), show nxE E a = 0 from if_neg (by omega)] at key
    exact key
  · rw [ex]
    rw [show nxE E b = b + 1 from if_pos (by omega), show nxE E a = 0 from if_neg (by omega)] at key
    exact key
  · rw [ex]
    rw [show nxE E b = 0 from if_neg (by omega), show nxE E a = a + 1 from if_pos (by omega)] at key
    exact key
  · rw [ex, ey]
    rw [show nxE E b = b + 1 from if_pos (by omega), show nxE E a = a + 1 from if_pos (by omega)] at key
    exact key
theorem sp_start_loopZ {g : GV} {d o p E : Nat} {q : Nat → Nat} {P : PS → Prop} (io : isC o) (ip : isF p) :
    ∀ (n k : Nat) (σ : PS), n = E - k → k ≤ E → E ≤ 22 → LayZ σ → mi σ o 0 = nI E → (∀ i, i < E → mi σ (p + 8) i = nI (q i)) → (∀ i, i < k → mi σ (o + 1) i = nI i) → (∀ i, i < k → mi σ (o + 2) i = nI (q i)) →
      (∀ s, Cor s o E (fun i => i) q → Ch (chC0 o) noL σ s → P s) →
      VX3_start g d P 10 [some (.ref o), some (.ref p), some (.int (nI k))] [] σ := by
  intro n
  induction n with
  | zero =>
    intro k σ hn hk hE hL h0 hq h1 h2 hp
    have hkE : k = E := by omega
    subst hkE
    refine vcX3_start_10Z hL o io p ip _ ⟨fun _ => hp σ ⟨h0, hE, h1, h2⟩ Ch.rf, fun hc => ?_⟩
    exact absurd (by rw [h0]; simp (disch := omega) only [zLE]; omega) hc
  | succ n ih =>
    intro k σ hn hk hE hL h0 hq h1 h2 hp
    have hne := isC_F io ip
    have n1 := hne 1 8 (by omega) (by omega)
    have n2 := hne 2 8 (by omega) (by omega)
    have e1 := hq k (by omega)
    refine vcX3_start_10Z hL o io p ip _ ⟨fun hc => ?_, fun _ => ?_⟩
    · rw [h0] at hc
      simp (disch := omega) only [zLE] at hc
      omega
    · simp (disch := omega) only [zIN, zCL]
      refine ⟨by omega, fun s4 e4 => ⟨by omega, by omega, fun s8 e8 x10 e10 => ?_⟩⟩
      have e5 : mi s4 (p + 8) k = nI (q k) := by rw [e4, mi_si, if_neg (by omega)]; exact e1
      rw [e5] at e8
      have c8 : Ch (chC0 o) noL σ s8 := by rw [e8, e4]; exact (Ch.rf.si (Or.inr (Or.inl rfl))).si (Or.inr (Or.inr rfl))
      rw [e10, lit32, nI_add]
      refine ih (k + 1) s8 (by omega) (by omega) hE (c8.layZ hL) ?_ ?_ ?_ ?_ (fun s a1 a2 => hp s a1 (c8.trans a2))
      · rw [e8, mi_si, if_neg (by omega), e4, mi_si, if_neg (by omega)]; exact h0
      · intro i hi
        rw [e8, mi_si, if_neg (by omega), e4, mi_si, if_neg (by omega)]; exact hq i hi
      · intro i hi
        rw [e8, mi_si, if_neg (by omega), e4, mi_si]
        by_cases z : i = k
        · rw [if_pos ⟨rfl, z⟩, z]
        · rw [if_neg (by omega)]; exact h1 i (by omega)
      · intro i hi
        rw [e8, mi_si]
        by_cases z : i = k
        · rw [if_pos ⟨rfl, z⟩, z]
        · rw [if_neg (by omega), e4, mi_si, if_neg (by omega)]; exact h2 i (by omega)
theorem sp_startZ {g : GV} {d o p E : Nat} {q : Nat → Nat} {σ : PS} (hL : LayZ σ) (io : isC o) (ip : isF p) (hE : E ≤ 22) (h0 : mi σ p 6 = nI E) (hq : ∀ i, i < E → mi σ (p + 8) i = nI (q i)) :
    CX3_start g d [.ref o, .ref p] σ (fun s => Cor s o E (fun i => i) q ∧ Ch (chC0 o) noL σ s) := by
  have hne := isC_F io ip
  have n0 := hne 0 8 (by omega) (by omega)
  refine vcX3_startZ hL o io p ip (fun s1 e1 => ?_)
  have c1 : Ch (chC0 o) noL σ s1 := by rw [e1]; exact Ch.rf.si (Or.inl rfl)
  refine sp_start_loopZ io ip E 0 s1 (by omega) (by omega) hE (c1.layZ hL) (by rw [e1, mi_si, if_pos ⟨rfl, rfl⟩]; exact h0) (fun i hi => by rw [e1, mi_si, if_neg (by omega)]; exact hq i hi) (fun i hi => by omega) (fun i hi => by omega) (fun s a b => ⟨a, c1.trans b⟩)
theorem sp_hasEdgeZ {g : GV} {d o E : Nat} {σ : PS} (hL : LayZ σ) (io : isF o) (h0 : mi σ o 6 = nI E) (a : Int32) :
    CX4_hasEdge g d [.ref o, .int a] σ (fun v s => v = (if 0 ≤ a ∧ a < nI E then 1 else 0) ∧ s = σ) := by
  refine vcX4_hasEdgeZ hL o io _ ?_
  rw [h0]
  refine ⟨fun h => ⟨?_, rfl⟩, fun h => ⟨fun h2 => ⟨?_, rfl⟩, fun h2 => ⟨?_, rfl⟩⟩⟩
  · rw [if_neg (fun q => Int32.not_lt.mpr q.1 h)]
  · rw [if_neg (fun q => Int32.not_le.mpr q.2 h2)]
  · rw [if_pos ⟨Int32.not_lt.mp h, Int32.not_le.mp h2⟩]
theorem sp_cellAt4Z {g : GV} {d o n : Nat} {x y : Nat → Nat} {σ : PS} (hL : LayZ σ) (io : isF o) (hM : FC σ o n x y) (a b : Int32) :
    CX4_cellAt g d [.ref o, .int a, .int b] σ (fun v s => v = oI (fnd (fun k => decide (nI (x k) = a) && decide (nI (y k) = b)) n) ∧ s = σ) := by
  obtain ⟨h0, hn, hb, h1, h2⟩ := hM
  have loop : ∀ (z k : Nat), z = n - k → k ≤ n → (∀ j, j < k → (decide (nI (x j) = a) && decide (nI (y j) = b)) = false) → VX4_cellAt g d (fun v s => v = oI (fnd (fun k => decide (nI (x k) = a) && decide (nI (y k) = b)) n) ∧ s = σ) 2 [some (.ref o), some (.int a), some (.int b), some (.int (nI k))] [] σ := by
    intro z
    induction z with
    | zero =>
      intro k hz hk hp
      have hkn : k = n := by omega
      subst hkn
      refine vcX4_cellAt_2Z hL o io _ _ _ ⟨fun _ => ⟨by rw [fnd_no hp]; rfl, rfl⟩, fun hc => ?_⟩
      exact absurd (by rw [h0]; simp (disch := omega) only [zLE]; omega) hc
    | succ z ih =>
      intro k hz hk hp
      have e1 := h1 k (by omega)
      have e2 := h2 k (by omega)
      have hi := ih (k + 1) (by omega) (by omega)
      refine vcX4_cellAt_2Z hL o io _ _ _ ⟨fun hc => ?_, fun _ => ?_⟩
      · rw [h0] at hc
        simp (disch := omega) only [zLE] at hc
        omega
      · simp (disch := omega) only [zIN, zCL, e1, e2]
        refine ⟨by omega, fun hne x2 q2 => ?_, fun heq => ⟨by omega, fun hne x5 q5 => ?_, fun heq2 => ⟨?_, trivial⟩⟩⟩
        · rw [inc q2]
          exact hi (fun j hj => by
            by_cases e : j = k
            · subst e; simp [hne]
            · exact hp j (by omega))
        · rw [inc q5]
          exact hi (fun j hj => by
            by_cases e : j = k
            · subst e; simp [hne]
            · exact hp j (by omega))
        · rw [fnd_is (k := k) (by omega) (by simp [heq, heq2]) hp]
          rfl
  exact vcX4_cellAtZ hL o io _ _ (loop n 0 rfl (Nat.zero_le _) (fun j hj => by omega))
theorem sp_linkCellsZ {g : GV} {d o n : Nat} {x y : Nat → Nat} {σ : PS} (hL : LayZ σ) (io : isF o) (hM : FC σ o n x y) :
    CX4_linkCells g (d + 1) [.ref o] σ (fun v s => v = nI (opc n x y) ∧ FN s o n x y ∧ (∀ q, q < 4 * n → mi s (o + 5) q = -1) ∧ Ch (fun a _ => a = o + 4 ∨ a = o + 5) noL σ s) := by
  have hn := hM.2.1
  generalize hP : (fun (v : Int32) (s : PS) => v = nI (opc n x y) ∧ FN s o n x y ∧ (∀ q, q < 4 * n → mi s (o + 5) q = -1) ∧ Ch (fun a _ => a = o + 4 ∨ a = o + 5) noL σ s) = P
  have fcs : ∀ s, Ch (fun a _ => a = o + 4 ∨ a = o + 5) noL σ s → FC s o n x y := fun s c => hM.ch c (by omega) (fun i _ => by omega) (fun i _ => by omega)
  have l14 : ∀ (c : Nat), c < n → (∀ s, Ch (fun a _ => a = o + 4 ∨ a = o + 5) noL σ s → (∀ q, q < 4 * (c + 1) → mi s (o + 4) q = oI (bhd n x y (q / 4) (q % 4)) ∧ mi s (o + 5) q = -1) → VX4_linkCells g (d + 1) P 4 [some (.ref o), some (.int (nI (cnt (fun q => (bhd n x y (q / 4) (q % 4)).isNone) (4 * (c + 1))))), some (.int (nI (c + 1))), none, none] [] s) →
      ∀ (z t : Nat) (s : PS), z = 4 - t → t ≤ 4 → Ch (fun a _ => a = o + 4 ∨ a = o + 5) noL σ s → (∀ q, q < 4 * c + t → mi s (o + 4) q = oI (bhd n x y (q / 4) (q % 4)) ∧ mi s (o + 5) q = -1) →
        VX4_linkCells g (d + 1) P 14 [some (.ref o), some (.int (nI (cnt (fun q => (bhd n x y (q / 4) (q % 4)).isNone) (4 * c + t)))), some (.int (nI c)), some (.int (nI t)), none] [] s := by
    intro c hc K z
    induction z with
    | zero =>
      intro t s hz ht cs hq
      have e : t = 4 := by omega
      subst e
      refine vcX4_linkCells_14Z (cs.layZ hL) o io _ _ _ ⟨fun _ x3 e3 => ?_, fun hc => absurd (show (4 : Int32) ≤ nI 4 by decide) hc⟩
      rw [inc e3]
      exact K s cs hq
    | succ z ih =>
      intro t s hz ht cs hq
      have hF := fcs s cs
      have hcn := cnt_le (fun q => (bhd n x y (q / 4) (q % 4)).isNone) (4 * c + t)
      have e4 : cnt (fun q => (bhd n x y (q / 4) (q % 4)).isNone) (4 * c + (t + 1)) = cnt (fun q => (bhd n x y (q / 4) (q % 4)).isNone) (4 * c + t) + (if (bhd n x y c t).isNone then 1 else 0) := by
        show cnt _ (4 * c + t + 1) = _
        simp only [cnt, show (4 * c + t) / 4 = c by omega, show (4 * c + t) % 4 = t by omega]
      have em : nI c * 4 + nI t = nI (4 * c + t) := by rw [lit32 4, pk_mul, nI_add, Nat.mul_comm]
      refine vcX4_linkCells_14Z (cs.layZ hL) o io _ _ _ ⟨fun hc => ?_, fun _ => ?_⟩
      · rw [lit32 4, zLE (by omega) (by omega)] at hc
        omega
      · rw [em]
        simp (disch := omega) only [zIN, zCL, hF.2.2.2.1 c hc, hF.2.2.2.2 c hc]
        refine ⟨by omega, by omega, by omega, by omega, Ct.imp (sp_cellAt4Z (cs.layZ hL) io hF _ _) (fun r s1 q => ?_)⟩
        obtain ⟨v, rfl, rfl, rfl⟩ := q
        rw [bhd_I hF.2.2.1 hc (by omega)]
        refine ⟨_, rfl, Fr.rf, by omega, fun s10 e10 => ⟨by omega, fun s13 e13 => ?_⟩⟩
        have c2 : Ch (fun a _ => a = o + 4 ∨ a = o + 5) noL σ s13 := by rw [e13, e10]; exact (cs.si (Or.inl rfl)).si (Or.inr rfl)
        have hi := ih (t + 1) s13 (by omega) (by omega) c2 (fun q hq2 => by
          rw [e13, e10]
          simp only [mi_si]
          by_cases e : q = 4 * c + t
          · subst e
            simp [show (4 * c + t) / 4 = c by omega, show (4 * c + t) % 4 = t by omega]
          · have := hq q (by omega)
            simp [e, this.1, this.2])
        rw [e4] at hi
        rw [oI_m1 bhd_lt (by omega)]
        refine ⟨fun hv x15 e15 x17 e17 => ?_, fun hv x19 e19 x21 e21 => ?_⟩
        · rw [show (bhd n x y c t).isNone = false by cases hb : bhd n x y c t <;> simp_all] at hi
          rw [inc e17, e15, lit32 0, nI_add]
          exact hi
        · rw [show (bhd n x y c t).isNone = true by rw [hv]; rfl] at hi
          rw [inc e21, inc e19]
          exact hi
  have l4 : ∀ (z c : Nat) (s : PS), z = n - c → c ≤ n → Ch (fun a _ => a = o + 4 ∨ a = o + 5) noL σ s → (∀ q, q < 4 * c → mi s (o + 4) q = oI (bhd n x y (q / 4) (q % 4)) ∧ mi s (o + 5) q = -1) →
      VX4_linkCells g (d + 1) P 4 [some (.ref o), some (.int (nI (cnt (fun q => (bhd n x y (q / 4) (q % 4)).isNone) (4 * c)))), some (.int (nI c)), none, none] [] s := by
    intro z
    induction z with
    | zero =>
      intro c s hz hc cs hq
      have e : c = n := by omega
      subst e
      refine vcX4_linkCells_4Z (cs.layZ hL) o io _ _ ⟨fun _ => ?_, fun hc => ?_⟩
      · rw [← hP]
        exact ⟨rfl, ⟨fcs s cs, fun q h => (hq q h).1⟩, fun q h => (hq q h).2, cs⟩
      · exact absurd (by rw [(fcs s cs).1]; simp (disch := omega) only [zLE]; omega) hc
    | succ z ih =>
      intro c s hz hc cs hq
      refine vcX4_linkCells_4Z (cs.layZ hL) o io _ _ ⟨fun hcc => ?_, fun _ => ?_⟩
      · rw [(fcs s cs).1, zLE (by omega) (by omega)] at hcc
        omega
      · exact l14 c (by omega) (fun s2 c2 h2 => ih (c + 1) s2 (by omega) (by omega) c2 h2) 4 0 s rfl (by omega) cs hq
  exact vcX4_linkCellsZ hL o io (l4 n 0 σ rfl (by omega) Ch.rf (fun q hq => by omega))
theorem sp_hangs4Z {g : GV} {d o n : Nat} {x y : Nat → Nat} {σ : PS} (hL : LayZ σ) (io : isF o) (hM : FN σ o n x y) (hn0 : 0 < n) :
    CX4_hangsTogether g d [.ref o] σ (fun v t => v = (if itr n x y n = 2 ^ n - 1 then 1 else 0) ∧ t = σ) := by
  have hn := hM.1.2.1
  have h0 := hM.1.1
  have hp := p2_10 hn
  generalize hP : (fun (v : Int32) (t : PS) => v = (if itr n x y n = 2 ^ n - 1 then (1 : Int32) else 0) ∧ t = σ) = P
  have l14 : ∀ (r : Nat), VX4_hangsTogether g d P 4 [some (.ref o), some (.int (nI (itr n x y (r + 1)))), some (.int (nI (r + 1))), none] [] σ →
      ∀ (z q : Nat), z = 4 * n - q → q ≤ 4 * n → VX4_hangsTogether g d P 14 [some (.ref o), some (.int (nI (swf n x y q (itr n x y r)))), some (.int (nI r)), some (.int (nI q))] [] σ := by
    intro r K z
    induction z with
    | zero =>
      intro q hz hq
      have e : q = 4 * n := by omega
      subst e
      refine vcX4_hangsTogether_14Z hL o io _ _ _ ⟨fun _ x1 e1 => ?_, fun hc => ?_⟩
      · rw [inc e1]; exact K
      · exact absurd (by rw [h0, lit32 4, pk_mul, zLE (by omega) (by omega)]; omega) hc
    | succ z ih =>
      intro q hz hq
      have hm : swf n x y q (itr n x y r) < 2 ^ n := swf_lt (itr_lt hn0 r)
      have hi := ih (q + 1) (by omega) (by omega)
      rw [swf_q] at hi
      have e1 := hM.2 q (by omega)
      refine vcX4_hangsTogether_14Z hL o io _ _ _ ⟨fun hc => ?_, fun _ => ?_⟩
      · rw [h0, lit32 4, pk_mul, zLE (by omega) (by omega)] at hc
        omega
      · rw [lit32 4, zDIV (by omega) (by omega) (by omega), zBIT (by omega) (by omega)]
        simp (disch := omega) only [zIN, zCL, e1, oI_m1 (bhd_lt (n := n) (x := x) (y := y)) (show n < 1000 by omega)]
        refine ⟨fun hf x3 e3 => ?_, fun hf => ⟨by omega, fun hb x6 e6 => ?_, fun hb => ⟨by omega, fun x9 e9 x11 e11 => ?_⟩⟩⟩
        · have : ¬ (swf n x y q (itr n x y r)).testBit (q / 4) = true := fun z => by rw [if_pos z] at hf; exact absurd hf (by decide)
          rw [if_neg this] at hi
          rw [inc e3]; exact hi
        · have : (swf n x y q (itr n x y r)).testBit (q / 4) = true := Classical.byContradiction fun z => hf (by rw [if_neg z])
          rw [if_pos this, hb] at hi
          rw [inc e6]; exact hi
        · have : (swf n x y q (itr n x y r)).testBit (q / 4) = true := Classical.byContradiction fun z => hf (by rw [if_neg z])
          rw [if_pos this] at hi
          cases hb2 : bhd n x y (q / 4) (q % 4) with
          | none => exact absurd hb2 hb
          | some b =>
            rw [hb2] at hi e9
            have hbn := bhd_lt b hb2
            have e9' : x9 = nI (swf n x y q (itr n x y r) ||| 2 ^ b) := by rw [e9]; exact zOR1 (by omega)
            rw [inc e11, e9']
            exact hi
  have l4 : ∀ (z r : Nat), z = n - r → r ≤ n → VX4_hangsTogether g d P 4 [some (.ref o), some (.int (nI (itr n x y r))), some (.int (nI r)), none] [] σ := by
    intro z
    induction z with
    | zero =>
      intro r hz hr
      have e : r = n := by omega
      subst e
      have hlt := itr_lt (x := x) (y := y) hn0 r
      refine vcX4_hangsTogether_4Z hL o io _ _ ⟨fun _ => ?_, fun hc => ?_⟩
      · rw [h0, zFULL (by omega), zEQ (by omega) (by omega), ← hP]
        exact ⟨fun hne => ⟨by rw [if_neg hne], rfl⟩, fun heq => ⟨by rw [if_pos heq], rfl⟩⟩
      · exact absurd (by rw [h0, zLE (by omega) (by omega)]; omega) hc
    | succ z ih =>
      intro r hz hr
      refine vcX4_hangsTogether_4Z hL o io _ _ ⟨fun hc => ?_, fun _ => ?_⟩
      · rw [h0, zLE (by omega) (by omega)] at hc
        omega
      · exact l14 r (ih (r + 1) (by omega) (by omega)) (4 * n) 0 rfl (by omega)
  exact vcX4_hangsTogetherZ hL o io (l4 n 0 rfl (by omega))
theorem sp_traceRimZ {g : GV} {d o n E : Nat} {x y : Nat → Nat} {σ : PS} (hL : LayZ σ) (io : isF o) (hM : FN σ o n x y) (hA : ∀ q, q < 4 * n → mi σ (o + 5) q = -1) (hD : Dst n x y) (ho : Opn n x y (0, 0)) (hE : Per n x y E) (hE4 : E ≤ 22) :
    CX4_traceRim g d [.ref o] σ (fun s => FF s o n x y E ∧ Ch (chR o) noL σ s) := by
  have hn := hM.1.2.1
  have hpos := hE.1
  generalize hP : (fun (s : PS) => FF s o n x y E ∧ Ch (chR o) noL σ s) = P
  have fns : ∀ s, Ch (chR o) noL σ s → FN s o n x y := fun s c => hM.ch c (by simp [chR]) (fun i => by simp [chR]) (fun i => by simp [chR]) (fun i => by simp [chR])
  have loop : ∀ (z k : Nat) (s : PS), z = E - k → k ≤ E → Ch (chR o) noL σ s → mi s o 6 = nI k → (∀ j, j < k → mi s (o + 6) j = nI (tr n x y j).1 ∧ mi s (o + 7) j = nI (tr n x y j).2 ∧ mi s (o + 8) j = nI (if j = 0 then 0 else wy n x y (j - 1))) → (∀ q, q < 4 * n → mi s (o + 5) q = oI (eAt n x y k q)) →
      VX4_traceRim g d P 14 [some (.ref o), some (.int (nI (tr n x y k).1)), some (.int (nI (tr n x y k).2)), some (.int (nI (if k = 0 then 0 else wy n x y (k - 1)))), some (.int (nI k)), none, none, none] [] s := by
    intro z
    induction z with
    | zero =>
      intro k s hz hk c h6 hj hq
      have e : k = E := by omega
      subst e
      have fin : ∀ s6 : PS, s6 = si s (o + 8) (Int32.toNatClampNeg 0) (nI (if k = 0 then 0 else wy n x y (k - 1))) → P s6 := by
        intro s6 e6
        rw [cl0, if_neg (by omega)] at e6
        have c2 : Ch (chR o) noL σ s6 := by rw [e6]; exact c.si (Or.inl ⟨by omega, by omega⟩)
        rw [← hP]
        refine ⟨⟨fns _ c2, ?_, fun j hj2 => ?_, fun q hq2 => ?_⟩, c2⟩
        · rw [e6, mi_si, if_neg (by omega)]; exact h6
        · obtain ⟨a1, a2, a3⟩ := hj j hj2
          rw [e6]
          unfold qt
          simp only [mi_si]
          by_cases q : j = 0
          · subst q; simp [a1, a2]
          · simp [q, a1, a2, a3]
        · rw [e6, mi_si, if_neg (by omega)]; exact hq q hq2
      have e1 : eAt n x y k 0 = some 0 := by
        refine fnd_is hpos ?_ (fun j hj => by omega)
        show (4 * (tr n x y 0).1 + (tr n x y 0).2 == 0) = true
        rfl
      rw [hE.2.1]
      refine vcX4_traceRim_14Z (c.layZ hL) o io _ _ _ _ ⟨fun _ => fin, fun _ => ?_⟩
      rw [lit32 4, pk_mul, nI_add]
      simp (disch := omega) only [zIN, zCL]
      refine ⟨by omega, fun _ => fin, fun hc => ?_⟩
      exfalso
      rw [show 0 * 4 + 0 = 0 from rfl, hq 0 (by have := ho.1; omega), e1] at hc
      exact absurd hc (by decide)
    | succ z ih =>
      intro k s hz hk c h6 hj hq
      obtain ⟨o1, o2, o3⟩ := tr_open hD ho k
      have em : nI (tr n x y k).1 * 4 + nI (tr n x y k).2 = nI (4 * (tr n x y k).1 + (tr n x y k).2) := by rw [lit32 4, pk_mul, nI_add, Nat.mul_comm]
      have hno : eAt n x y k (4 * (tr n x y k).1 + (tr n x y k).2) = none := by
        refine fnd_no (fun j hj2 => ?_)
        cases hb : (4 * (tr n x y j).1 + (tr n x y j).2 == 4 * (tr n x y k).1 + (tr n x y k).2) with
        | false => rfl
        | true =>
          have a := (tr_open hD ho j).2.1
          simp only [beq_iff_eq] at hb
          have := hE.2.2.2 j k (by omega) (by omega) (Prod.ext (by omega) (by omega))
          omega
      have eq1 := hq (4 * (tr n x y k).1 + (tr n x y k).2) (by omega)
      rw [hno] at eq1
      refine vcX4_traceRim_14Z (c.layZ hL) o io _ _ _ _ ⟨fun hc => ?_, fun _ => ?_⟩
      · rw [lit32 22, zLE (by omega) (by omega)] at hc
        omega
      · rw [em]
        simp (disch := omega) only [zIN, zCL]
        rw [eq1]
        refine ⟨by omega, fun hc => absurd rfl hc, fun _ => ⟨by omega, fun s9 e9 => ⟨by omega, fun s12 e12 => ⟨by omega, fun s15 e15 => ⟨by omega, fun s18 e18 s20 e20 x22 e22 => ?_⟩⟩⟩⟩⟩
        have f18 : mi s18 o 6 = nI k := by
          rw [e18, mi_si, if_neg (by omega), e15, mi_si, if_neg (by omega), e12, mi_si, if_neg (by omega), e9, mi_si, if_neg (by omega)]; exact h6
        rw [f18, lit32 1, nI_add] at e20
        have c2 : Ch (chR o) noL σ s20 := by
          rw [e20, e18, e15, e12, e9]
          exact ((((c.si (Or.inl ⟨by omega, by omega⟩)).si (Or.inl ⟨by omega, by omega⟩)).si (Or.inl ⟨by omega, by omega⟩)).si (Or.inl ⟨by omega, by omega⟩)).si (Or.inr ⟨rfl, rfl⟩)
        have hN := fns _ c2
        have K : VX4_traceRim g d P 14 [some (.ref o), some (.int (nI (tr n x y (k + 1)).1)), some (.int (nI (tr n x y (k + 1)).2)), some (.int (nI (wy n x y k))), some (.int (nI (k + 1))), none, none, none] [] s20 := by
          have := ih (k + 1) s20 (by omega) (by omega) c2 ?_ (fun j hj2 => ?_) (fun q hq2 => ?_)
          · rw [if_neg (by omega), show k + 1 - 1 = k by omega] at this
            exact this
          · rw [e20, mi_si, if_pos ⟨rfl, rfl⟩]
          · rw [e20, e18, e15, e12, e9]
            simp only [mi_si]
            by_cases q : j = k
            · subst q
              simp
            · obtain ⟨a1, a2, a3⟩ := hj j (by omega)
              simp [q, a1, a2, a3]
          · rw [e20, e18, e15, e12, e9]
            rw [eAt_step hD ho hE (by omega)]
            simp only [mi_si]
            by_cases q2 : q = 4 * (tr n x y k).1 + (tr n x y k).2
            · simp [q2, oI]
            · simp [q2, hq q hq2]
        have etr : tr n x y (k + 1) = (rimS n x y ((tr n x y k).1, (tr n x y k).2)).1 := rfl
        have ewy : wy n x y k = (rimS n x y ((tr n x y k).1, (tr n x y k).2)).2 := rfl
        rw [etr, ewy] at K
        clear ih hj hq e9 e12 e15 e18 e20 f18 etr ewy em hno eq1
        generalize (tr n x y k).1 = cc at *
        generalize (tr n x y k).2 = ss at *
        rw [zm1 (by omega)] at e22
        subst e22
        have em : nI cc * 4 + nI ((ss + 1) % 4) = nI (4 * cc + (ss + 1) % 4) := by rw [lit32 4, pk_mul, nI_add, Nat.mul_comm]
        have e1 := hN.2 (4 * cc + (ss + 1) % 4) (by omega)
        rw [show (4 * cc + (ss + 1) % 4) / 4 = cc by omega, show (4 * cc + (ss + 1) % 4) % 4 = (ss + 1) % 4 by omega] at e1
        rw [em]
        simp (disch := omega) only [zIN, zCL, e1]
        refine ⟨by omega, fun x25 e25 => ?_⟩
        rcases rim_cases n x y cc ss with ⟨h1, e⟩ | ⟨a, h1, h2, e⟩ | ⟨a, b, h1, h2, e⟩ <;> rw [e] at K <;> rw [h1] at e25 <;> simp only [oI] at e25
        · refine ⟨fun hc => absurd e25 hc, fun _ => ⟨fun hc => absurd e25 hc, fun _ x40 e40 => ?_⟩⟩
          rw [inc e40]; exact K
        · have ha := (bhd_s h1).1
          have ne1 : ¬ x25 = -1 := by rw [e25]; exact m1_ne (by omega)
          have e2 := hN.2 (4 * a + ss) (by omega)
          rw [show (4 * a + ss) / 4 = a by omega, show (4 * a + ss) % 4 = ss by omega, h2] at e2
          have em2 : x25 * 4 + nI ss = nI (4 * a + ss) := by rw [e25, lit32 4, pk_mul, nI_add, Nat.mul_comm]
          refine ⟨fun _ => ?_, fun hc => absurd hc ne1⟩
          rw [em2]
          simp (disch := omega) only [zIN, zCL, e2]
          refine ⟨by omega, fun x28 e28 => ⟨fun _ => ⟨fun hc => absurd e28 hc, fun _ x34 e34 => ?_⟩, fun hc => absurd hc ne1⟩⟩
          rw [inc e34, e25]; exact K
        · have ha := (bhd_s h1).1
          have hb := (bhd_s h2).1
          have ne1 : ¬ x25 = -1 := by rw [e25]; exact m1_ne (by omega)
          have e2 := hN.2 (4 * a + ss) (by omega)
          rw [show (4 * a + ss) / 4 = a by omega, show (4 * a + ss) % 4 = ss by omega, h2] at e2
          have em2 : x25 * 4 + nI ss = nI (4 * a + ss) := by rw [e25, lit32 4, pk_mul, nI_add, Nat.mul_comm]
          refine ⟨fun _ => ?_, fun hc => absurd hc ne1⟩
          rw [em2]
          simp (disch := omega) only [zIN, zCL, e2]
          refine ⟨by omega, fun x28 e28 => ⟨fun _ => ⟨fun _ x30 e30 x32 e32 => ?_, fun hc => ?_⟩, fun hc => absurd hc ne1⟩⟩
          · rw [inc e32, e30, e28, zm3 (by omega)]; exact K
          · rw [e28] at hc
            exact absurd hc (m1_ne (by omega))
  refine vcX4_traceRimZ hL o io (fun s1 e1 => ?_)
  have c1 : Ch (chR o) noL σ s1 := by rw [e1]; exact Ch.rf.si (Or.inr ⟨rfl, rfl⟩)
  exact loop E 0 s1 rfl (by omega) c1 (by rw [e1, mi_si, if_pos ⟨rfl, rfl⟩]; rfl) (fun j hj => by omega) (fun q hq => by rw [e1, mi_si, if_neg (by omega), hA q hq]; rfl)
theorem sp_numberCellsZ {g : GV} {d o : Nat} {rw' : Nat → Nat} {gr : Nat → Bool} {σ : PS} (hL : LayZ σ) (io : isF o) (hr : ∀ r, r < 16 → mi σ (o + 1) r = nI (rw' r) ∧ rw' r < 65536) (hg : ∀ k, k < 256 → gr k = (rw' (k / 16)).testBit (k % 16)) (hn : cnt gr 256 ≤ 10) :
    CX4_numberCells g d [.ref o] σ (fun s => FC s o (cnt gr 256) (gX gr) (gY gr) ∧ Ch (chN o) noL σ s) := by
  generalize hP : (fun (s : PS) => FC s o (cnt gr 256) (gX gr) (gY gr) ∧ Ch (chN o) noL σ s) = P
  have l15 : ∀ (r : Nat), r < 16 → (∀ s, Ch (chN o) noL σ s → mi s o 3 = nI (cnt gr (16 * (r + 1))) → (∀ i, i < cnt gr (16 * (r + 1)) → mi s (o + 2) i = nI (gX gr i) ∧ mi s (o + 3) i = nI (gY gr i)) → VX4_numberCells g d P 7 [some (.ref o), some (.int (nI (r + 1))), none] [] s) →
      ∀ (z t : Nat) (s : PS), z = 16 - t → t ≤ 16 → Ch (chN o) noL σ s → mi s o 3 = nI (cnt gr (16 * r + t)) → (∀ i, i < cnt gr (16 * r + t) → mi s (o + 2) i = nI (gX gr i) ∧ mi s (o + 3) i = nI (gY gr i)) →
        VX4_numberCells g d P 15 [some (.ref o), some (.int (nI r)), some (.int (nI t))] [] s := by
    intro r hr2 K z
    induction z with
    | zero =>
      intro t s hz ht c h0 hi
      have e : t = 16 := by omega
      subst e
      refine vcX4_numberCells_15Z (c.layZ hL) o io _ _ ⟨fun _ x3 e3 => ?_, fun hc => absurd (show (16 : Int32) ≤ nI 16 by decide) hc⟩
      rw [inc e3]
      exact K s c h0 hi
    | succ z ih =>
      intro t s hz ht c h0 hi
      obtain ⟨r1, r2⟩ := hr r hr2
      have r3 : mi s (o + 1) r = nI (rw' r) := by rw [c.i (by simp [chN])]; exact r1
      have hgk := hg (16 * r + t) (by omega)
      rw [show (16 * r + t) / 16 = r by omega, show (16 * r + t) % 16 = t by omega] at hgk
      have hcm := cnt_mono_n (gr := gr) (show 16 * r + t ≤ 256 by omega)
      refine vcX4_numberCells_15Z (c.layZ hL) o io _ _ ⟨fun hc => ?_, fun _ => ?_⟩
      · rw [lit32 16, zLE (by omega) (by omega)] at hc
        omega
      · simp (disch := omega) only [zIN, zCL, r3]
        rw [zBIT (by omega) (by omega), ← hgk]
        refine ⟨by omega, fun hf x6 e6 => ?_, fun hf => ?_⟩
        · have hgf : gr (16 * r + t) = false := by
            cases hq : gr (16 * r + t) with
            | false => rfl
            | true => rw [hq] at hf; exact absurd hf (by decide)
          have ec : cnt gr (16 * r + (t + 1)) = cnt gr (16 * r + t) := by
            show cnt gr (16 * r + t + 1) = _
            rw [cnt_s, hgf]; simp
          rw [inc e6]
          exact ih (t + 1) s (by omega) (by omega) c (by rw [ec]; exact h0) (fun i hi2 => hi i (by omega))
        · have hgt : gr (16 * r + t) = true := by
            cases hq : gr (16 * r + t) with
            | true => rfl
            | false => rw [hq] at hf; exact absurd rfl hf
          obtain ⟨a1, a2⟩ := g_at (by omega) hgt
          have ec : cnt gr (16 * r + (t + 1)) = cnt gr (16 * r + t) + 1 := by
            show cnt gr (16 * r + t + 1) = _
            rw [cnt_s, hgt]; simp
          rw [h0]
          refine ⟨fun hc => ?_, fun _ => ?_⟩
          · rw [lit32 10, zLE (by omega) (by omega)] at hc
            omega
          · simp (disch := omega) only [zIN, zCL]
            refine ⟨by omega, fun s11 e11 => ?_⟩
            have f11 : mi s11 o 3 = nI (cnt gr (16 * r + t)) := by rw [e11, mi_si, if_neg (by omega)]; exact h0
            rw [f11]
            simp (disch := omega) only [zIN, zCL]
            refine ⟨by omega, fun s14 e14 s16 e16 x18 e18 => ?_⟩
            have f14 : mi s14 o 3 = nI (cnt gr (16 * r + t)) := by rw [e14, mi_si, if_neg (by omega)]; exact f11
            rw [f14, lit32 1, nI_add] at e16
            have c2 : Ch (chN o) noL σ s16 := by rw [e16, e14, e11]; exact ((c.si (by simp [chN])).si (by simp [chN])).si (by simp [chN])
            rw [inc e18]
            refine ih (t + 1) s16 (by omega) (by omega) c2 ?_ (fun i hi2 => ?_)
            · rw [e16, mi_si, if_pos ⟨rfl, rfl⟩, ec]
            · rw [e16, e14, e11]
              simp only [mi_si]
              by_cases q : i = cnt gr (16 * r + t)
              · subst q
                have hx : gX gr (cnt gr (16 * r + t)) = t := by unfold gX; rw [a1]; omega
                have hy : gY gr (cnt gr (16 * r + t)) = r := by unfold gY; rw [a1]; omega
                simp [hx, hy]
              · have := hi i (by omega)
                simp [q, this.1, this.2]
  have l7 : ∀ (z r : Nat) (s : PS), z = 16 - r → r ≤ 16 → Ch (chN o) noL σ s → mi s o 3 = nI (cnt gr (16 * r)) → (∀ i, i < cnt gr (16 * r) → mi s (o + 2) i = nI (gX gr i) ∧ mi s (o + 3) i = nI (gY gr i)) →
      VX4_numberCells g d P 7 [some (.ref o), some (.int (nI r)), none] [] s := by
    intro z
    induction z with
    | zero =>
      intro r s hz hr2 c h0 hi
      have e : r = 16 := by omega
      subst e
      refine vcX4_numberCells_7Z (c.layZ hL) o io _ ⟨fun _ => ?_, fun hc => absurd (show (16 : Int32) ≤ nI 16 by decide) hc⟩
      rw [← hP]
      exact ⟨⟨h0, hn, fun i h => g_b h, fun i h => (hi i h).1, fun i h => (hi i h).2⟩, c⟩
    | succ z ih =>
      intro r s hz hr2 c h0 hi
      refine vcX4_numberCells_7Z (c.layZ hL) o io _ ⟨fun hc => ?_, fun _ => ?_⟩
      · rw [lit32 16, zLE (by omega) (by omega)] at hc
        omega
      · exact l15 r (by omega) (fun s2 c2 a b => ih (r + 1) s2 (by omega) (by omega) c2 a b) 16 0 s rfl (by omega) c h0 hi
  refine vcX4_numberCellsZ hL o io (fun s1 e1 => ?_)
  exact l7 16 0 s1 rfl (by omega) (by rw [e1]; exact Ch.rf.si (by simp [chN])) (by rw [e1, mi_si, if_pos ⟨rfl, rfl⟩]; rfl) (fun i hi => absurd hi (Nat.not_lt_zero _))
theorem sp_layZ {g : GV} {d o p np : Nat} {rw' : Nat → Nat} {gr : Nat → Bool} {σ : PS} (hL : LayZ σ) (io : isF o) (hk : kd σ p = some (.inr (0, np))) (hnp : 16 ≤ np) (hpo : p < o ∨ o + 8 < p) (hr : ∀ r, r < 16 → mi σ p r = nI (rw' r) ∧ rw' r < 65536) (hg : ∀ k, k < 256 → gr k = (rw' (k / 16)).testBit (k % 16)) (hn : cnt gr 256 ≤ 10) :
    CX4_lay g (d + 2) [.ref o, .ref p] σ (fun v s => Ch (chF o) noL σ s ∧ (∃ E, (0 < cnt gr 256 → Per (cnt gr 256) (gX gr) (gY gr) E ∧ E ≤ opc (cnt gr 256) (gX gr) (gY gr)) ∧ v = nI (fgF (cnt gr 256) (gX gr) (gY gr) E) ∧ (fgF (cnt gr 256) (gX gr) (gY gr) E = 0 → FF s o (cnt gr 256) (gX gr) (gY gr) E ∧ E ≤ 22)) ∧ ∀ r, r < 16 → mi s (o + 1) r = nI (rw' r)) := by
  have hx : ∃ E, 0 < cnt gr 256 → Per (cnt gr 256) (gX gr) (gY gr) E ∧ E ≤ opc (cnt gr 256) (gX gr) (gY gr) := by
    by_cases h : 0 < cnt gr 256
    · obtain ⟨E, a, b, c, e, f⟩ := rim_period (g_dst gr) (g_opn h)
      exact ⟨E, fun _ => ⟨⟨a, c, e, f⟩, b⟩⟩
    · exact ⟨0, fun q => absurd q h⟩
  obtain ⟨E, hE⟩ := hx
  refine vcX4_layZ hL o io p np hk ⟨⟨by decide, by decide, by decide, by rw [cl0, cl16]; omega, by decide⟩, fun s2 e2 => ?_⟩
  rw [cl0, cl16] at e2
  have c2 : Ch (chF o) noL σ s2 := by rw [e2]; exact Ch.rf.sa (fun k => Or.inl ⟨by omega, by omega⟩)
  have hr2 : ∀ r, r < 16 → mi s2 (o + 1) r = nI (rw' r) ∧ rw' r < 65536 := by
    intro r h
    rw [e2, mi_sa, if_pos rfl, cpy0 h]
    exact hr r h
  refine Ct.imp (sp_numberCellsZ (c2.layZ hL) io hr2 hg hn) (fun r s4 q => ?_)
  obtain ⟨rfl, hC, c4'⟩ := q
  have c4 : Ch (chF o) noL σ s4 := c2.trans (c4'.mono (fun a i h => by rcases h with h | h | h <;> exact ⟨by omega, by omega⟩) (fun _ _ h => h))
  have hr4 : ∀ r, r < 16 → mi s4 (o + 1) r = nI (rw' r) := fun r h => by rw [c4'.i (by simp [chN])]; exact (hr2 r h).1
  refine ⟨rfl, c4'.fr, fun hne => ?_, fun heq => ?_⟩
  · rw [hC.1, nI0 (by omega)] at hne
    have hpos : 0 < cnt gr 256 := by omega
    obtain ⟨hper, hle⟩ := hE hpos
    refine Ct.imp (sp_linkCellsZ (c4.layZ hL) io hC) (fun r s6 q => ?_)
    obtain ⟨v, rfl, rfl, hN, hA, c6'⟩ := q
    have c6 : Ch (chF o) noL σ s6 := c4.trans (c6'.mono (fun a i h => by rcases h with h | h <;> exact ⟨by omega, by omega⟩) (fun _ _ h => h))
    have hr6 : ∀ r, r < 16 → mi s6 (o + 1) r = nI (rw' r) := fun r h => by rw [c6'.i (by simp)]; exact hr4 r h
    refine ⟨_, rfl, c6'.fr, Ct.imp (sp_hangs4Z (c6.layZ hL) io hN hpos) (fun r s8 q => ?_)⟩
    obtain ⟨v, rfl, rfl, rfl⟩ := q
    refine ⟨_, rfl, Fr.rf, fun hv => ?_, fun hv => ?_⟩
    · have hh : itr (cnt gr 256) (gX gr) (gY gr) (cnt gr 256) = 2 ^ cnt gr 256 - 1 := Classical.byContradiction fun q => hv (by rw [if_neg q])
      have ho := opc_le hpos (g_dst gr) hh
      have hE22 : E ≤ 22 := by omega
      refine Ct.imp (sp_traceRimZ (c6.layZ hL) io hN hA (g_dst gr) (g_opn hpos) hper hE22) (fun r s10 q => ?_)
      obtain ⟨rfl, hF, c10'⟩ := q
      have c10 : Ch (chF o) noL σ s10 := c6.trans (c10'.mono (fun a i h => by rcases h with h | h <;> exact ⟨by omega, by omega⟩) (fun _ _ h => h))
      have hr10 : ∀ r, r < 16 → mi s10 (o + 1) r = nI (rw' r) := fun r h => by rw [c10'.i (by simp [chR])]; exact hr6 r h
      have hf : fgF (cnt gr 256) (gX gr) (gY gr) E = if E = opc (cnt gr 256) (gX gr) (gY gr) then 0 else 10 := by
        unfold fgF
        rw [if_neg hne, if_pos hh]
      refine ⟨rfl, c10'.fr, ?_⟩
      rw [hF.2.1, zEQ (by omega) (by omega)]
      refine ⟨fun h1 => ⟨c10, ⟨E, hE, by rw [hf, if_neg h1]; rfl, fun h0 => by rw [hf, if_neg h1] at h0; cases h0⟩, hr10⟩, fun h1 => ⟨c10, ⟨E, hE, by rw [hf, if_pos h1]; rfl, fun _ => ⟨hF, hE22⟩⟩, hr10⟩⟩
    · have hh : ¬ itr (cnt gr 256) (gX gr) (gY gr) (cnt gr 256) = 2 ^ cnt gr 256 - 1 := fun q => by rw [if_pos q] at hv; exact absurd hv (by decide)
      have hf : fgF (cnt gr 256) (gX gr) (gY gr) E = 9 := by
        unfold fgF
        rw [if_neg hne, if_neg hh]
      exact ⟨c6, ⟨E, hE, by rw [hf]; rfl, fun h0 => by rw [hf] at h0; cases h0⟩, hr6⟩
  · rw [hC.1, nI0 (by omega)] at heq
    have hf : fgF (cnt gr 256) (gX gr) (gY gr) E = 8 := by
      unfold fgF
      rw [if_pos heq]
    exact ⟨c4, ⟨E, hE, by rw [hf]; rfl, fun h0 => by rw [hf] at h0; cases h0⟩, hr4⟩
theorem sp_turnAt2Z {g : GV} {d o n q : Nat} {f : Nat → Nat} {σ : PS} (hL : LayZ σ) (io : isB o) (hB : BD σ o n f) (hi : ∀ a b, a < 4 * n → b < 4 * n → f (nxs a) = f (nxs b) → a = b) (hq : q < 4 * n) :
    CX2_turnAt g d [.ref o, .int (nI q)] σ (fun v s => v = nI (orb (fun z => f (nxs z)) (4 * n) q) ∧ s = σ) := by
  obtain ⟨h0, hn, h1⟩ := hB
  have hf : ∀ z, z < 4 * n → (fun z => f (nxs z)) z < 4 * n := fun z hz => (h1 _ (nxs_lt hz)).1
  obtain ⟨t0, t1, t2, t3⟩ := orb_is hf hi hq
  generalize hT : orb (fun z => f (nxs z)) (4 * n) q = T at *
  have loop : ∀ (z k : Nat), z = T - k → k < T → VX2_turnAt g d (fun v s => v = nI T ∧ s = σ) 4 [some (.ref o), some (.int (nI q)), some (.int (nI (itf (fun z => f (nxs z)) k q))), some (.int (nI k)), none] [] σ := by
    intro z
    induction z with
    | zero => intro k hz hk; omega
    | succ z ih =>
      intro k hz hk
      have hp := itf_lt hf hq k
      have e1 : nI (itf (fun z => f (nxs z)) k q) / 4 * 4 + jrem (nI (itf (fun z => f (nxs z)) k q) + 1) 4 = nI (nxs (itf (fun z => f (nxs z)) k q)) := by
        rw [zm1 (by omega), lit32 4, zDIV (by omega) (by omega) (by omega), pk_mul, nI_add]
        unfold nxs
        rw [Nat.mul_comm]
      have hx := nxs_lt hp
      obtain ⟨a1, a2, a3⟩ := h1 _ hx
      have es : itf (fun z => f (nxs z)) (k + 1) q = f (nxs (itf (fun z => f (nxs z)) k q)) := rfl
      refine vcX2_turnAt_4Z hL o io _ _ _ (fun x1 q1 => ?_)
      rw [e1] at q1
      subst q1
      generalize itf (fun z => f (nxs z)) k q = P at *
      simp (disch := omega) only [zIN, zCL, a2, a3]
      refine ⟨by omega, by omega, fun x5 q5 x7 q7 => ?_⟩
      have q5' : x5 = nI (f (nxs P)) := by
        rw [q5, lit32 4, pk_mul, nI_add]
        congr 1
        omega
      rw [inc q7, q5', zEQ (by omega) (by omega)]
      refine ⟨fun heq => ?_, fun hne => ⟨fun _ => ?_, fun hc => ?_⟩⟩
      · have : T = k + 1 := by
          rcases Nat.lt_or_ge (k + 1) T with w | w
          · exact absurd (es.trans heq) (t3 (k + 1) (by omega) w)
          · omega
        exact ⟨by rw [this], trivial⟩
      · have hk2 : k + 1 < T := by
          rcases Nat.lt_or_ge (k + 1) T with w | w
          · exact w
          · have : T = k + 1 := by omega
            rw [this, es] at t2
            exact absurd t2 hne
        have := ih (k + 1) (by omega) hk2
        rw [es] at this
        exact this
      · have hk2 : k + 1 < T := by
          rcases Nat.lt_or_ge (k + 1) T with w | w
          · exact w
          · have : T = k + 1 := by omega
            rw [this, es] at t2
            exact absurd t2 hne
        rw [lit32 40, zLT (by omega) (by omega)] at hc
        omega
  exact vcX2_turnAtZ hL o io _ (loop T 0 rfl t0)
theorem sp_foldZ {g : GV} {d o p w nw n E : Nat} {x y m : Nat → Nat} {σ : PS} (hL : LayZ σ) (io : isB o) (ip : isF p) (hk : kd σ w = some (.inr (0, nw))) (hnw : E ≤ nw) (hw : w < o ∨ o + 3 < w) (hF : FF σ p n x y E) (hV : VF n x y E) (hm : Mt E m) (hmw : ∀ e, e < E → mi σ w e = nI (m e)) (hnw2 : nw < 1000) :
    CX2_fold g (d + 1) [.ref o, .ref p, .ref w] σ (fun s => BF s o n x y E m ∧ Ch (chB o) noL σ s) := by
  have hpo := isB_F io ip
  have hn := hV.2.1
  have hE := hV.2.2.2.2.2.2
  generalize hP : (fun (s : PS) => BF s o n x y E m ∧ Ch (chB o) noL σ s) = P
  have hf : ∀ z, z < 4 * n → bdy n x y E m z < 4 * n := fun z hz => bdy_lt hV hz
  have l116 : ∀ (z q : Nat) (s : PS), z = 4 * n - q → q ≤ 4 * n → Ch (chB o) noL σ s → BD s o n (bdy n x y E m) → (∀ j, j < q → mi s (o + 3) j = nI (tn n x y E m j)) →
      VX2_fold g (d + 1) P 116 [some (.ref o), none, none, some (.int (nI q)), none, none] [] s := by
    intro z
    induction z with
    | zero =>
      intro q s hz hq c hb ht
      have e : q = 4 * n := by omega
      subst e
      refine vcX2_fold_116Z (c.layZ hL) o io _ ⟨fun _ => by rw [← hP]; exact ⟨⟨hb, ht⟩, c⟩, fun hc => ?_⟩
      exact absurd (by rw [hb.1, lit32 4, pk_mul, zLE (by omega) (by omega)]; omega) hc
    | succ z ih =>
      intro q s hz hq c hb ht
      refine vcX2_fold_116Z (c.layZ hL) o io _ ⟨fun hc => ?_, fun _ => ?_⟩
      · rw [hb.1, lit32 4, pk_mul, zLE (by omega) (by omega)] at hc
        omega
      · refine Ct.imp (sp_turnAt2Z (c.layZ hL) io hb (rot_inj hV hm) (by omega)) (fun r s1 w1 => ?_)
        obtain ⟨v, rfl, rfl, rfl⟩ := w1
        simp (disch := omega) only [zIN, zCL]
        refine ⟨_, rfl, Fr.rf, by omega, fun s56 e56 x58 e58 => ?_⟩
        have c2 : Ch (chB o) noL σ s56 := by rw [e56]; exact c.si ⟨by omega, by omega⟩
        have c3 : Ch (fun a _ => a = o + 3) noL s1 s56 := by rw [e56]; exact Ch.rf.si rfl
        rw [inc e58]
        refine ih (q + 1) s56 (by omega) (by omega) c2 (hb.ch c3 (by omega) (fun i => by omega) (fun i => by omega)) (fun j hj => ?_)
        rw [e56, mi_si]
        by_cases e : j = q
        · rw [if_pos ⟨rfl, e⟩, e]; rfl
        · rw [if_neg (by omega)]; exact ht j (by omega)
  have l10 : ∀ (z q : Nat) (s : PS), z = 4 * n - q → q ≤ 4 * n → Ch (chB o) noL σ s → mi s o 0 = nI n → (∀ j, j < q → mi s (o + 1) j = nI (bdy n x y E m j / 4) ∧ mi s (o + 2) j = nI (bdy n x y E m j % 4)) →
      VX2_fold g (d + 1) P 10 [some (.ref o), some (.ref p), some (.ref w), some (.int (nI q)), none, none] [] s := by
    intro z
    induction z with
    | zero =>
      intro q s hz hq c h0 hb
      have e : q = 4 * n := by omega
      subst e
      have hkw : kd s w = some (.inr (0, nw)) := by rw [c.fr.1]; exact hk
      refine vcX2_fold_10Z (c.layZ hL) o io p ip w nw hkw _ ⟨fun _ => ?_, fun hc => ?_⟩
      · exact l116 (4 * n) 0 s rfl (by omega) c ⟨h0, hn, fun q h => ⟨hf q h, hb q h⟩⟩ (fun j hj => by omega)
      · exact absurd (by rw [h0, lit32 4, pk_mul, zLE (by omega) (by omega)]; omega) hc
    | succ z ih =>
      intro q s hz hq c h0 hb
      have hkw : kd s w = some (.inr (0, nw)) := by rw [c.fr.1]; exact hk
      have hL2 := c.layZ hL
      have f6 : mi s p 6 = nI E := by rw [c.i (by omega)]; exact hF.2.1
      have f5 : mi s (p + 5) q = oI (eAt n x y E q) := by rw [c.i (by omega)]; exact hF.2.2.2 q (by omega)
      have f4 : mi s (p + 4) q = oI (bhd n x y (q / 4) (q % 4)) := by rw [c.i (by omega)]; exact hF.1.2 q (by omega)
      have nxt : ∀ s2, Ch (chB o) noL σ s2 → mi s2 o 0 = nI n → (∀ j, j < q → mi s2 (o + 1) j = mi s (o + 1) j ∧ mi s2 (o + 2) j = mi s (o + 2) j) → mi s2 (o + 1) q = nI (bdy n x y E m q / 4) → mi s2 (o + 2) q = nI (bdy n x y E m q % 4) → VX2_fold g (d + 1) P 10 [some (.ref o), some (.ref p), some (.ref w), some (.int (nI (q + 1))), none, none] [] s2 := by
        intro s2 c2 g0 g1 g2 g3
        refine ih (q + 1) s2 (by omega) (by omega) c2 g0 (fun j hj => ?_)
        by_cases e : j = q
        · rw [e]; exact ⟨g2, g3⟩
        · rw [(g1 j (by omega)).1, (g1 j (by omega)).2]; exact hb j (by omega)
      refine vcX2_fold_10Z hL2 o io p ip w nw hkw _ ⟨fun hc => ?_, fun _ => ?_⟩
      · rw [h0, lit32 4, pk_mul, zLE (by omega) (by omega)] at hc
        omega
      · simp (disch := omega) only [zIN, zCL, f5]
        refine ⟨by omega, fun x4 e4 => Ct.imp (sp_hasEdgeZ hL2 ip f6 x4) (fun r s6 w1 => ?_)⟩
        obtain ⟨v, rfl, hv, rfl⟩ := w1
        refine ⟨_, rfl, Fr.rf, ?_⟩
        rw [i01 hv]
        cases he : eAt n x y E q with
        | none =>
          rw [he] at e4
          simp only [oI] at e4
          obtain ⟨b, hbb⟩ := eAt_none hV (by omega) he
          have ebd := bdy_b (m := m) he hbb
          have hbn := bhd_lt b hbb
          refine ⟨fun _ => Ct.imp (sp_hasEdgeZ hL2 ip f6 (-1)) (fun r s8 w1 => ?_), fun hc => ?_⟩
          · obtain ⟨v, rfl, hv2, rfl⟩ := w1
            refine ⟨_, rfl, Fr.rf, ?_⟩
            rw [i01 hv2, f4, hbb]
            refine ⟨fun _ => ⟨by omega, by omega, fun s12 e12 => ⟨by omega, fun s15 e15 x17 e17 => ?_⟩⟩, fun hc => ?_⟩
            · rw [inc e17]
              rw [zm2 (by omega)] at e15
              refine nxt s15 (by rw [e15, e12]; exact (c.si ⟨by omega, by omega⟩).si ⟨by omega, by omega⟩) (by rw [e15, mi_si, if_neg (by omega), e12, mi_si, if_neg (by omega)]; exact h0) (fun j hj => ?_) ?_ ?_
              · rw [e15, e12]; simp only [mi_si]; simp [show ¬ j = q by omega]
              · rw [e15, mi_si, if_neg (by omega), e12, mi_si, if_pos ⟨rfl, rfl⟩, ebd]
                show nI b = _
                congr 1
                omega
              · rw [e15, mi_si, if_pos ⟨rfl, rfl⟩, ebd]
                congr 1
                omega
            · exfalso
              have := Classical.not_not.mp hc
              exact absurd this.1 (by decide)
          · exfalso
            have := Classical.not_not.mp hc
            rw [e4] at this
            exact absurd this.1 (by decide)
        | some e =>
          rw [he] at e4
          simp only [oI] at e4
          obtain ⟨hee, het⟩ := eAt_some he
          obtain ⟨m1, m2, m3⟩ := hm e hee
          have ebd := bdy_e (m := m) he
          have fw : mi s6 w e = nI (m e) := by rw [c.i (by omega)]; exact hmw e hee
          have p1 : (0 : Int32) ≤ nI e ∧ nI e < nI E := by rw [lit32 0, zLE (by omega) (by omega), zLT (by omega) (by omega)]; omega
          have p2 : (0 : Int32) ≤ nI (m e) ∧ nI (m e) < nI E := by rw [lit32 0, zLE (by omega) (by omega), zLT (by omega) (by omega)]; omega
          rw [e4]
          simp (disch := omega) only [zIN, zCL, fw]
          refine ⟨fun hc => absurd p1 hc, fun _ => ⟨by omega, fun x30 e30 => Ct.imp (sp_hasEdgeZ hL2 ip f6 x30) (fun r s32 w1 => ?_)⟩⟩
          obtain ⟨v, rfl, hv2, rfl⟩ := w1
          refine ⟨_, rfl, Fr.rf, ?_⟩
          rw [i01 hv2, e30]
          obtain ⟨o1, o2, o3⟩ := tr_open hV.2.2.1 hV.2.2.2.1 (m e)
          have g1 : mi s32 (p + 6) (m e) = nI (tr n x y (m e)).1 := by rw [c.i (by omega)]; exact (hF.2.2.1 (m e) m1).1
          have g2 : mi s32 (p + 7) (m e) = nI (tr n x y (m e)).2 := by rw [c.i (by omega)]; exact (hF.2.2.1 (m e) m1).2.1
          simp (disch := omega) only [zIN, zCL, g1]
          refine ⟨fun hc => absurd p2 hc, fun _ => ⟨by omega, by omega, fun s45 e45 => ⟨by omega, by omega, fun s49 e49 x51 e51 => ?_⟩⟩⟩
          have g3 : mi s45 (p + 7) (m e) = nI (tr n x y (m e)).2 := by rw [e45, mi_si, if_neg (by omega)]; exact g2
          rw [g3] at e49
          rw [inc e51]
          refine nxt s49 (by rw [e49, e45]; exact (c.si ⟨by omega, by omega⟩).si ⟨by omega, by omega⟩) (by rw [e49, mi_si, if_neg (by omega), e45, mi_si, if_neg (by omega)]; exact h0) (fun j hj => ?_) ?_ ?_
          · rw [e49, e45]; simp only [mi_si]; simp [show ¬ j = q by omega]
          · rw [e49, mi_si, if_neg (by omega), e45, mi_si, if_pos ⟨rfl, rfl⟩, ebd]
            congr 1
            unfold trq
            omega
          · rw [e49, mi_si, if_pos ⟨rfl, rfl⟩, ebd]
            congr 1
            unfold trq
            omega
  refine vcX2_foldZ hL o io p ip w nw hk (fun s1 e1 => ?_)
  have c1 : Ch (chB o) noL σ s1 := by rw [e1]; exact Ch.rf.si ⟨by omega, by omega⟩
  exact l10 (4 * n) 0 s1 rfl (by omega) c1 (by rw [e1, mi_si, if_pos ⟨rfl, rfl⟩]; exact hF.1.1.1) (fun j hj => by omega)
theorem sp_fillZ {g : GV} {d o n : Nat} {v : Int32} {σ : PS} (hL : LayZ σ) (hk : kd σ o = some (.inr (0, n))) (hn : n < 1000000) :
    CJ7_fill_53178 g d [.ref o, .int v] σ (fun s => (∀ i, i < n → mi s o i = v) ∧ Ch (fun a i => a = o ∧ i < n) noL σ s) := by
  generalize hP : (fun (s : PS) => (∀ i, i < n → mi s o i = v) ∧ Ch (fun a i => a = o ∧ i < n) noL σ s) = P
  have loop : ∀ (z i : Nat) (s : PS), z = n - i → i ≤ n → Ch (fun a i => a = o ∧ i < n) noL σ s → (∀ j, j < i → mi s o j = v) → VJ7_fill_53178 g d P 5 [some (.ref o), some (.int v), some (.int (nI i)), some (.int (nI n))] [] s := by
    intro z
    induction z with
    | zero =>
      intro i s hz hi cs hq
      have e : i = n := by omega
      subst e
      refine vcJ7_fill_53178_5Z (cs.layZ hL) _ _ ((cs.1.1 ▸ hk)) _ _ _ ⟨fun _ => by rw [← hP]; exact ⟨hq, cs⟩, fun h => absurd (by rw [zLE (by omega) (by omega)]; omega) h⟩
    | succ z ih =>
      intro i s hz hi cs hq
      refine vcJ7_fill_53178_5Z (cs.layZ hL) _ _ ((cs.1.1 ▸ hk)) _ _ _ ⟨fun h => ?_, fun _ => ⟨by rw [zIN (by omega) (by omega)]; omega, fun s4 e4 x6 e6 => ?_⟩⟩
      · rw [zLE (by omega) (by omega)] at h
        omega
      · rw [inc e6]
        rw [zCL (by omega)] at e4
        refine ih (i + 1) s4 (by omega) (by omega) (by rw [e4]; exact cs.si ⟨rfl, by omega⟩) (fun j hj => ?_)
        rw [e4, mi_si]
        by_cases e : j = i
        · rw [if_pos ⟨rfl, e⟩]
        · rw [if_neg (by omega)]; exact hq j (by omega)
  exact vcJ7_fill_53178Z hL o n hk v (fun x e => by rw [e]; exact loop n 0 σ rfl (by omega) Ch.rf (fun j hj => by omega))
theorem sp_matesZ {g : GV} {d at' r : Nat} {σ : PS} (hL : LayZ σ) (h1 : mi σ 38 1 = nI at') (ha : at' ≤ 40) (hr : mr σ 39 at' = some r) :
    CX0_mates g d [.ref 38] σ (fun v s => v = r ∧ s = σ) := by
  refine vcX0_matesZ hL ?_
  rw [h1]
  simp (disch := omega) only [zIN, zCL]
  exact ⟨by omega, r, hr, rfl, trivial⟩
theorem sp_isBody11Z {g : GV} {d p E : Nat} {σ : PS} (hL : LayZ σ) (h1 : mi σ 10 13 = nI p) (h2 : mi σ 20 6 = nI E) (hp : p ≤ 1000) (hE : E ≤ 1000) :
    CX11_isBody g d [.ref 10] σ (fun v s => v = (if 2 * p = E then 1 else 0) ∧ s = σ) := by
  refine vcX11_isBodyZ hL ?_
  rw [h1, h2, lit32 2, pk_mul, zEQ (by omega) (by omega)]
  refine ⟨fun h => ⟨?_, rfl⟩, fun h => ⟨?_, rfl⟩⟩
  · rw [if_neg (by omega)]
  · rw [if_pos (by omega)]
theorem sp_settleZ {g : GV} {d n E at' r : Nat} {x y : Nat → Nat} {m : Mat} {σ : PS} (hL : LayZ σ) (hF : FF σ 20 n x y E) (hV : VF n x y E) (hat : mi σ 38 1 = nI at') (ha : at' ≤ 40) (hr : mr σ 39 at' = some r) (kr : kd σ r = some (.inr (0, 22))) (hr2 : 40 ≤ r ∧ r ≤ 80) (hM : MA σ r 22 m) (hI : Inv E m) (h4 : A4 E (cl E m E) (qt n x y E)) :
    CX11_settle g (d + 2) [.ref 10] σ (fun s => Cor s 81 E (cl E m E) (cq E m (qt n x y E) E) ∧ mi s 10 13 = nI (cnt (opn1 m) E) ∧ (gcn E m = E → BF s 129 n x y E (mt m)) ∧ mi s 144 3 = -1 ∧ mi s 149 1 = 0 ∧ Ch chSt noL σ s) := by
  have hE : E ≤ 22 := hV.2.2.2.2.2.2
  have hml : ∀ e b, m e = some b → b < E := fun e b h => (hI e b h).2.1
  have hq4 : ∀ i, i < E → qt n x y E i ≤ 4 := fun i _ => qt_le n x y E i
  have hg := gcn_opn hI
  have hgE : gcn E m ≤ E := cnt_le _ E
  generalize hPP : (fun (s : PS) => Cor s 81 E (cl E m E) (cq E m (qt n x y E) E) ∧ mi s 10 13 = nI (cnt (opn1 m) E) ∧ (gcn E m = E → BF s 129 n x y E (mt m)) ∧ mi s 144 3 = -1 ∧ mi s 149 1 = 0 ∧ Ch chSt noL σ s) = P
  have fin : ∀ s, Ch chSt noL σ s → Cor s 81 E (cl E m E) (cq E m (qt n x y E) E) → mi s 10 13 = nI (cnt (opn1 m) E) → (gcn E m = E → BF s 129 n x y E (mt m)) → ∀ s1 : PS, s1 = si s 144 3 (-1) → ∀ s2 : PS, s2 = si s1 149 1 0 → P s2 := by
    intro s cs hC h13 hB s1 e1 s2 e2
    have c2 : Ch (fun a i => a = 144 ∧ i = 3 ∨ a = 149 ∧ i = 1) noL s s2 := by
      rw [e2, e1]; exact (Ch.rf.si (Or.inl ⟨rfl, rfl⟩)).si (Or.inr ⟨rfl, rfl⟩)
    rw [← hPP]
    refine ⟨hC.ch c2 (by omega) (fun i _ => by omega) (fun i _ => by omega), by rw [c2.i (by omega)]; exact h13, fun hf => ?_, ?_, ?_, cs.trans (c2.mono (fun a k h => by simp only [chSt]; omega) (fun _ _ h => h))⟩
    · obtain ⟨b1, b2⟩ := hB hf
      exact ⟨b1.ch c2 (by omega) (fun i => by omega) (fun i => by omega), fun q hq => by rw [c2.i (by omega)]; exact b2 q hq⟩
    · rw [e2, mi_si, if_neg (by omega), e1, mi_si, if_pos ⟨rfl, rfl⟩]
    · rw [e2, mi_si, if_pos ⟨rfl, rfl⟩]
  have l26 : ∀ (z k : Nat) (s : PS), z = E - k → k ≤ E → Ch chSt noL σ s → Cor s 81 E (cl E m k) (cq E m (qt n x y E) k) → mi s 10 13 = nI (cnt (opn1 m) k) → VX11_settle g (d + 2) P 26 [some (.ref 10), some (.ref r), some (.int (nI k))] [] s := by
    intro z
    induction z with
    | zero =>
      intro k s hz hk cs hC h13
      have e : k = E := by omega
      subst e
      have hL2 := cs.layZ hL
      have hF2 : FF s 20 n x y k := hF.ch cs (fun a i h1 h2 => by simp only [chSt]; omega)
      refine vcX11_settle_26Z hL2 _ _ (cs.1.1 ▸ kr) _ ?_
      rw [hF2.2.1]
      refine ⟨fun _ => ?_, fun h => absurd (by rw [zLE (by omega) (by omega)]; omega) h⟩
      refine Ct.imp (sp_isBody11Z hL2 h13 hF2.2.1 (by omega) (by omega)) (fun rr s7 w => ?_)
      obtain ⟨v, rfl, hv, rfl⟩ := w
      refine ⟨_, rfl, Fr.rf, fun hv0 => ?_, fun hv1 => ?_⟩
      · rw [i01 hv] at hv0
        exact fin s7 cs hC h13 (fun h => by omega)
      · rw [i01 hv, Classical.not_not] at hv1
        have hfull : gcn k m = k := by omega
        refine Ct.imp (sp_foldZ (m := mt m) hL2 isB129 isF20 (cs.1.1 ▸ kr) hE (by omega) hF2 hV (hI.mt hfull) (fun e he => ?_) (by omega)) (fun rr s13 w => ?_)
        · rw [cs.i (by simp only [chSt]; omega), hM e (by omega)]
          have := gcn_full.mp hfull e he
          cases hm : m e with
          | none => rw [hm] at this; cases this
          | some b => rw [mt_is hm]; rfl
        · obtain ⟨rfl, hB, c⟩ := w
          refine ⟨rfl, c.fr, fin s13 (cs.trans (c.mono (fun a i h => by simp only [chB] at h; simp only [chSt]; omega) (fun _ _ h => h))) (hC.ch c (by simp [chB]) (fun i _ => by simp [chB]) (fun i _ => by simp [chB])) (by rw [c.i (by simp [chB])]; exact h13) (fun _ => hB)⟩
    | succ z ih =>
      intro k s hz hk cs hC h13
      have hL2 := cs.layZ hL
      have hMk : mi s r k = oI (m k) := by rw [cs.i (by simp only [chSt]; omega)]; exact hM k (by omega)
      have hcs : cl E m (k + 1) = clS E (cl E m k) k (m k) := rfl
      have hqs : cq E m (qt n x y E) (k + 1) = cqS E (cl E m k) (cq E m (qt n x y E) k) k (m k) := rfl
      refine vcX11_settle_26Z hL2 _ _ (cs.1.1 ▸ kr) _ ?_
      rw [show mi s 20 6 = nI E by rw [cs.i (by simp only [chSt]; omega)]; exact hF.2.1]
      simp (disch := omega) only [zLE, zIN, zCL, hMk]
      refine ⟨fun h => by omega, fun _ => ⟨by omega, fun hle x20 e20 => ?_, fun hgt => ⟨by omega, ?_⟩⟩⟩
      · have ho : opn1 m k = false := by
          cases h : opn1 m k with
          | false => rfl
          | true =>
            obtain ⟨b, hb, hlt⟩ := opn1_is.mp h
            rw [hb] at hle
            simp only [oI] at hle
            have := hml k b hb
            rw [zLE (by omega) (by omega)] at hle
            omega
        have e1 : cl E m (k + 1) = cl E m k ∧ cq E m (qt n x y E) (k + 1) = cq E m (qt n x y E) k := by
          rw [hcs, hqs]
          cases hmk : m k with
          | none => exact ⟨rfl, rfl⟩
          | some b =>
            have : ¬ k < b := fun w => by
              have := opn1_is.mpr ⟨b, hmk, w⟩
              rw [ho] at this; cases this
            refine ⟨?_, ?_⟩
            · show (if k < b then _ else _) = _
              rw [if_neg this]
            · show (if k < b then _ else _) = _
              rw [if_neg this]
        rw [inc e20]
        refine ih (k + 1) s (by omega) (by omega) cs (by rw [e1.1, e1.2]; exact hC) ?_
        rw [cnt_s, ho, h13]
        rfl
      · cases hmk : m k with
        | none =>
          rw [hmk] at hgt
          refine absurd ?_ hgt
          refine Int32.le_iff_toInt_le.mpr ?_
          rw [nI_toInt (by omega)]
          have : (oI none).toInt = -1 := by decide
          omega
        | some b =>
          rw [hmk] at hgt hcs hqs
          simp only [oI] at hgt ⊢
          have hb := hml k b hmk
          rw [zLE (by omega) (by omega)] at hgt
          have hkb : k < b := by omega
          have ho : opn1 m k = true := opn1_is.mpr ⟨b, hmk, hkb⟩
          have e1 : cl E m (k + 1) = pL E (cl E m k) k b := by rw [hcs]; show (if k < b then _ else _) = _; rw [if_pos hkb]
          have e2 : cq E m (qt n x y E) (k + 1) = pQ E (cl E m k) (cq E m (qt n x y E) k) k b := by rw [hqs]; show (if k < b then _ else _) = _; rw [if_pos hkb]
          have hok := cq_ok hml hq4 h4 k (by omega)
          have hp := (A4_p (cq_RQ (q := qt n x y E) hml k (by omega)) (Prt.cl hml k (by omega)) (show k < E by omega) hb (h4.down (by omega))).mp (by rw [← e1]; exact h4.down (by omega))
          refine Ct.imp (sp_pairZ (d := d) hL2 isC81 hC (Prt.cl hml k (by omega)) (fun i hi => by have := hok i hi; omega) (show k < E by omega) hb) (fun rr s23 w => ?_)
          obtain ⟨v, rfl, c, -, hC2⟩ := w
          refine ⟨_, rfl, c.fr, fun s25 e25 x27 e27 => ?_⟩
          rw [c.i (by simp [chC]), h13, inc rfl] at e25
          have c25 : Ch (fun a i => a = 10 ∧ i = 13) noL s23 s25 := by rw [e25]; exact Ch.rf.si ⟨rfl, rfl⟩
          rw [inc e27]
          refine ih (k + 1) s25 (by omega) (by omega) ((cs.trans (c.mono (fun a i h => by simp only [chC] at h; simp only [chSt]; omega) (fun _ _ h => h))).trans (c25.mono (fun a i h => by simp only [chSt]; omega) (fun _ _ h => h))) ?_ ?_
          · rw [e1, e2]
            exact (hC2 hp).ch c25 (by omega) (fun i _ => by omega) (fun i _ => by omega)
          · rw [e25, mi_si, if_pos ⟨rfl, rfl⟩, cnt_s, ho]
            rfl
  refine vcX11_settleZ hL (Ct.imp (sp_matesZ hL hat ha hr) (fun rr s1 w => ?_))
  obtain ⟨v, rfl, rfl, rfl⟩ := w
  refine ⟨_, rfl, Fr.rf, Ct.imp (sp_startZ (q := qt n x y E) hL isC81 isF20 hE hF.2.1 (fun i hi => (hF.2.2.1 i hi).2.2)) (fun rr s3 w => ?_)⟩
  obtain ⟨rfl, hC, c⟩ := w
  refine ⟨rfl, c.fr, fun s5 e5 => ?_⟩
  have c5 : Ch (fun a i => a = 10 ∧ i = 13) noL s3 s5 := by rw [e5]; exact Ch.rf.si ⟨rfl, rfl⟩
  exact l26 E 0 s5 rfl (by omega) ((c.mono (fun a i h => by simp only [chC0] at h; simp only [chSt]; omega) (fun _ _ h => h)).trans (c5.mono (fun a i h => by simp only [chSt]; omega) (fun _ _ h => h))) (hC.ch c5 (by omega) (fun i _ => by omega) (fun i _ => by omega)) (by rw [e5, mi_si, if_pos ⟨rfl, rfl⟩]; rfl)
theorem layRow0Z : ∀ r, r < 41 → (layK.take 169)[r + 30]? = some (r + 40, .inr (0, 22)) := by decide +kernel
theorem layRowZ (r : Nat) (h1 : 40 ≤ r) (h2 : r ≤ 80) : (r, (.inr (0, 22) : KD)) ∈ (layK.take 169) := by
  have := List.mem_of_getElem? (layRow0Z (r - 40) (by omega))
  rw [show r - 40 + 40 = r by omega] at this
  exact this
theorem kdRowZ {s : PS} (h : LayZ s) {r : Nat} (h1 : 40 ≤ r) (h2 : r ≤ 80) : kd s r = some (.inr (0, 22)) := h.1 _ (layRowZ r h1 h2)
theorem sp_settleAZ {g : GV} {d n E at' last : Nat} {x y : Nat → Nat} {ρ : Nat → Nat} {S : Nat → Mat} {σ : PS} (hL : LayZ σ) (hV : VF n x y E) (hF : FF σ 20 n x y E) (hR : RowsA σ ρ) (h1 : mi σ 38 1 = nI at') (h2 : mi σ 38 2 = nI last) (hS : ∀ i, i ≤ last → MA σ (ρ i) 22 (S i)) (hal : at' ≤ last) (hl : last ≤ 40) (hG : GoodS E (qt n x y E) S last) :
    CX11_settle g (d + 2) [.ref 10] σ (fun s => CA s n x y E ρ S at' last ∧ mi s 144 3 = -1 ∧ mi s 149 1 = 0 ∧ Ch chSt noL σ s) := by
  obtain ⟨r1, r2, r3⟩ := hR.1 at' (by omega)
  obtain ⟨g1, g2⟩ := hG at' hal
  refine Ct.imp (sp_settleZ (d := d) hL hF hV h1 (by omega) r1 (kdRowZ hL r2 r3) ⟨r2, r3⟩ (hS at' hal) g1 g2) (fun r s w => ?_)
  obtain ⟨rfl, a1, a2, a3, a4, a5, c⟩ := w
  refine ⟨rfl, ⟨hF.ch c (fun a i h1 h2 => by simp only [chSt]; omega), ?_, by rw [c.i (by simp [chSt])]; exact h1, by rw [c.i (by simp [chSt])]; exact h2, fun i hi => (hS i hi).ch c (fun e _ => by have := (hR.1 i (by omega)).2; simp only [chSt]; omega), a1, a2, a3⟩, a4, a5, c⟩
  refine ⟨fun i hi => ?_, hR.2⟩
  rw [c.1.2]
  exact hR.1 i hi
theorem sp_takeFigureZ {g : GV} {d p np E : Nat} {rw' ρ : Nat → Nat} {σ : PS} (hL : LayZ σ) (hk : kd σ p = some (.inr (0, np))) (hnp : 16 ≤ np) (hpo : p < 20 ∨ 28 < p) (hR : RowsF σ p rw') (hG : GF rw' E) (hA : RowsA σ ρ) :
    CX11_takeFigure g (d + 3) [.ref 10, .ref p] σ (fun s => CA s (fN rw') (fX rw') (fY rw') E ρ (fun _ => nm) 0 0 ∧ RowsF s 21 rw' ∧ mi s 87 1 = 0 ∧ mi s 133 9 = 0 ∧ mi s 144 3 = -1 ∧ mi s 149 1 = 0 ∧ Ch chTk noL σ s) := by
  obtain ⟨hV, hH⟩ := id hG
  have hE := hV.2.2.2.2.2.2
  refine vcX11_takeFigureZ hL p np hk (Ct.imp (sp_layZ (d := d) hL isF20 hk hnp hpo hR (fun k _ => rfl) hV.2.1) (fun r s1 w => ?_))
  obtain ⟨v, rfl, c1, ⟨E', hP, hv, hFF⟩, hrows⟩ := w
  have eE : E' = E := (hP hV.1).1.uniq hV.2.2.2.2.1
  subst eE
  have hF1 := (hFF hG.fg).1
  have hL1 := c1.layZ hL
  have hA1 : RowsA s1 ρ := ⟨fun i hi => by rw [c1.1.2]; exact hA.1 i hi, hA.2⟩
  refine ⟨_, rfl, c1.fr, vcX0_forgetZ hL1 (fun s2 e2 s3 e3 => ?_)⟩
  have c3 : Ch (fun a i => a = 38 ∧ (i = 1 ∨ i = 2)) noL s1 s3 := by rw [e3, e2]; exact (Ch.rf.si ⟨rfl, Or.inl rfl⟩).si ⟨rfl, Or.inr rfl⟩
  have hL3 := c3.layZ hL1
  obtain ⟨r1, r2, r3⟩ := hA1.1 0 (by omega)
  have r1' : mr s3 39 (Int32.toNatClampNeg 0) = some (ρ 0) := by rw [c3.1.2]; exact r1
  refine ⟨ρ 0, r1', Ct.imp (sp_fillZ hL3 (kdRowZ hL3 r2 r3) (by omega)) (fun r s4 w => ?_)⟩
  obtain ⟨rfl, hf4, c4⟩ := w
  have hL4 := c4.layZ hL3
  refine ⟨rfl, c4.fr, c3.fr.trans c4.fr, fun s5 e5 s7 e7 => ?_⟩
  have c7 : Ch (fun a i => a = 87 ∧ i = 1 ∨ a = 133 ∧ i = 9) noL s4 s7 := by rw [e7, e5]; exact (Ch.rf.si (Or.inl ⟨rfl, rfl⟩)).si (Or.inr ⟨rfl, rfl⟩)
  have hL7 := c7.layZ hL4
  have hF7 := ((hF1.ch c3 (fun a i h1 h2 => by omega)).ch c4 (fun a i h1 h2 => by omega)).ch c7 (fun a i h1 h2 => by omega)
  have hA7 : RowsA s7 ρ := ⟨fun i hi => by rw [c7.1.2, c4.1.2, c3.1.2]; exact hA1.1 i hi, hA1.2⟩
  have h1 : mi s7 38 1 = nI 0 := by rw [c7.i (by omega), c4.i (by omega), e3, mi_si, if_neg (by omega), e2, mi_si, if_pos ⟨rfl, rfl⟩]; rfl
  have h2 : mi s7 38 2 = nI 0 := by rw [c7.i (by omega), c4.i (by omega), e3, mi_si, if_pos ⟨rfl, rfl⟩]; rfl
  refine Ct.imp (sp_settleAZ (d := d) (S := fun _ => nm) hL7 hV hF7 hA7 h1 h2 (fun i hi e he => ?_) (Nat.le_refl _) (by omega) (fun i hi => ⟨Inv.nm _, A4.nm (fun i => qt_le _ _ _ _ i)⟩)) (fun r s9 w => ?_)
  · have : i = 0 := by omega
    subst this
    rw [c7.i (by omega)]
    exact hf4 e he
  · obtain ⟨rfl, k1, k2, k3, c9⟩ := w
    have call : Ch chTk noL σ s9 := ((((c1.mono (fun a k h => Or.inl h) (fun _ _ h => h)).trans (c3.mono (fun a k h => Or.inr (Or.inl h)) (fun _ _ h => h))).trans (c4.mono (fun a k h => Or.inr (Or.inr (Or.inl ⟨by omega, by omega⟩))) (fun _ _ h => h))).trans (c7.mono (fun a k h => by rcases h with h | h; exact Or.inr (Or.inr (Or.inr (Or.inl h))); exact Or.inr (Or.inr (Or.inr (Or.inr (Or.inl h))))) (fun _ _ h => h))).trans (c9.mono (fun a k h => Or.inr (Or.inr (Or.inr (Or.inr (Or.inr h))))) (fun _ _ h => h))
    refine ⟨rfl, c9.fr, k1, fun r hr => ⟨?_, (hR r hr).2⟩, ?_, ?_, k2, k3, call⟩
    · rw [c9.i (by unfold chSt; omega), c7.i (by omega), c4.i (by omega), c3.i (by omega)]
      exact hrows r hr
    · rw [c9.i (by unfold chSt; omega), e7, mi_si, if_neg (by omega), e5, mi_si, if_pos ⟨rfl, rfl⟩]
    · rw [c9.i (by unfold chSt; omega), e7, mi_si, if_pos ⟨rfl, rfl⟩]
