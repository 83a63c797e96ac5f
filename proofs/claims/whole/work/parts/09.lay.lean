def layK : List (Nat × KD) := [(10, .inl 11), (11, .inl 8), (12, .inr (3, 1000)), (13, .inr (0, 1001)), (14, .inr (0, 1001)), (15, .inr (1, 1001)), (16, .inl 7), (17, .inr (0, 16)), (18, .inr (1, 8)), (19, .inr (0, 8)), (20, .inl 4), (21, .inr (0, 16)), (22, .inr (0, 10)), (23, .inr (0, 10)), (24, .inr (0, 40)), (25, .inr (0, 40)), (26, .inr (0, 22)), (27, .inr (0, 22)), (28, .inr (0, 22)), (29, .inl 4), (30, .inr (0, 16)), (31, .inr (0, 10)), (32, .inr (0, 10)), (33, .inr (0, 40)), (34, .inr (0, 40)), (35, .inr (0, 22)), (36, .inr (0, 22)), (37, .inr (0, 22)), (38, .inl 0), (39, .inr (5, 41)), (40, .inr (0, 22)), (41, .inr (0, 22)), (42, .inr (0, 22)), (43, .inr (0, 22)), (44, .inr (0, 22)), (45, .inr (0, 22)), (46, .inr (0, 22)), (47, .inr (0, 22)), (48, .inr (0, 22)), (49, .inr (0, 22)), (50, .inr (0, 22)), (51, .inr (0, 22)), (52, .inr (0, 22)), (53, .inr (0, 22)), (54, .inr (0, 22)), (55, .inr (0, 22)), (56, .inr (0, 22)), (57, .inr (0, 22)), (58, .inr (0, 22)), (59, .inr (0, 22)), (60, .inr (0, 22)), (61, .inr (0, 22)), (62, .inr (0, 22)), (63, .inr (0, 22)), (64, .inr (0, 22)), (65, .inr (0, 22)), (66, .inr (0, 22)), (67, .inr (0, 22)), (68, .inr (0, 22)), (69, .inr (0, 22)), (70, .inr (0, 22)), (71, .inr (0, 22)), (72, .inr (0, 22)), (73, .inr (0, 22)), (74, .inr (0, 22)), (75, .inr (0, 22)), (76, .inr (0, 22)), (77, .inr (0, 22)), (78, .inr (0, 22)), (79, .inr (0, 22)), (80, .inr (0, 22)), (81, .inl 3), (82, .inr (0, 22)), (83, .inr (0, 22)), (84, .inl 3), (85, .inr (0, 22)), (86, .inr (0, 22)), (87, .inl 5), (88, .inr (0, 2000)), (89, .inr (0, 22)), (90, .inr (6, 12)), (91, .inr (0, 22)), (92, .inr (0, 22)), (93, .inl 3), (94, .inr (0, 22)), (95, .inr (0, 22)), (96, .inl 3), (97, .inr (0, 22)), (98, .inr (0, 22)), (99, .inl 3), (100, .inr (0, 22)), (101, .inr (0, 22)), (102, .inl 3), (103, .inr (0, 22)), (104, .inr (0, 22)), (105, .inl 3), (106, .inr (0, 22)), (107, .inr (0, 22)), (108, .inl 3), (109, .inr (0, 22)), (110, .inr (0, 22)), (111, .inl 3), (112, .inr (0, 22)), (113, .inr (0, 22)), (114, .inl 3), (115, .inr (0, 22)), (116, .inr (0, 22)), (117, .inl 3), (118, .inr (0, 22)), (119, .inr (0, 22)), (120, .inl 3), (121, .inr (0, 22)), (122, .inr (0, 22)), (123, .inl 3), (124, .inr (0, 22)), (125, .inr (0, 22)), (126, .inl 3), (127, .inr (0, 22)), (128, .inr (0, 22)), (129, .inl 2), (130, .inr (0, 40)), (131, .inr (0, 40)), (132, .inr (0, 40)), (133, .inl 1), (134, .inl 2), (135, .inr (0, 40)), (136, .inr (0, 40)), (137, .inr (0, 40)), (138, .inr (0, 10)), (139, .inr (0, 10)), (140, .inr (0, 10)), (141, .inr (0, 40)), (142, .inr (1, 1208)), (143, .inr (0, 300)), (144, .inl 10), (145, .inr (0, 11)), (146, .inr (0, 11)), (147, .inr (0, 11)), (148, .inr (0, 11)), (149, .inl 9), (150, .inr (0, 16)), (151, .inr (0, 16)), (152, .inr (4, 32)), (153, .inr (5, 8)), (154, .inr (0, 8)), (155, .inr (0, 8)), (156, .inr (0, 8)), (157, .inr (0, 8)), (158, .inr (0, 8)), (159, .inr (0, 8)), (160, .inr (0, 8)), (161, .inr (0, 8)), (162, .inr (0, 8)), (163, .inr (0, 8)), (164, .inr (0, 8)), (165, .inr (0, 8)), (166, .inr (1, 512)), (167, .inl 6), (168, .inr (4, 4)), (169, .inr (5, 4)), (170, .inr (0, 16)), (171, .inr (0, 16)), (172, .inr (0, 16)), (173, .inr (0, 16)), (174, .inr (5, 4)), (175, .inr (0, 22)), (176, .inr (0, 22)), (177, .inr (0, 22)), (178, .inr (0, 22)), (179, .inl 12), (180, .inr (0, 1000)), (181, .inr (0, 200)), (182, .inr (0, 200)), (183, .inr (0, 200)), (184, .inr (0, 200)), (185, .inr (0, 200)), (186, .inr (0, 1200)), (187, .inr (0, 1200)), (188, .inr (0, 1000)), (189, .inr (1, 8)), (190, .inr (0, 7)), (191, .inr (0, 7)), (192, .inr (0, 7)), (193, .inr (0, 7)), (194, .inr (0, 7)), (195, .inr (0, 7)), (196, .inr (0, 7)), (197, .inr (0, 7)), (198, .inr (0, 7)), (199, .inr (0, 20)), (200, .inr (4, 256)), (201, .inr (0, 10)), (202, .inr (0, 10)), (203, .inr (0, 24)), (204, .inr (0, 24)), (205, .inr (0, 24)), (206, .inr (0, 40)), (207, .inr (0, 10)), (208, .inr (0, 10)), (209, .inr (0, 24)), (210, .inr (0, 24)), (211, .inr (2, 48048)), (212, .inr (0, 24)), (213, .inr (2, 960)), (214, .inr (2, 960)), (215, .inr (0, 80)), (216, .inr (0, 10)), (217, .inr (0, 10)), (218, .inr (0, 10)), (219, .inr (0, 300)), (220, .inr (0, 40)), (221, .inr (0, 10)), (222, .inr (0, 10)), (223, .inr (0, 10)), (224, .inr (0, 10)), (225, .inr (1, 12000)), (226, .inr (0, 32768)), (227, .inr (0, 10)), (228, .inr (0, 10)), (229, .inr (4, 4)), (230, .inr (0, 4)), (231, .inr (0, 40)), (232, .inr (0, 40)), (233, .inr (0, 96)), (234, .inr (1, 1))]
def layR : List (Nat × Nat × Nat) := [(11, 0, 12), (11, 2, 13), (11, 3, 14), (11, 4, 15), (10, 0, 11), (16, 0, 17), (16, 1, 18), (16, 2, 19), (10, 1, 16), (20, 0, 21), (20, 1, 22), (20, 2, 23), (20, 4, 24), (20, 5, 25), (20, 7, 26), (20, 8, 27), (20, 9, 28), (10, 2, 20), (29, 0, 30), (29, 1, 31), (29, 2, 32), (29, 4, 33), (29, 5, 34), (29, 7, 35), (29, 8, 36), (29, 9, 37), (10, 3, 29), (38, 0, 39), (10, 4, 38), (81, 1, 82), (81, 2, 83), (10, 5, 81), (84, 1, 85), (84, 2, 86), (10, 6, 84), (87, 4, 88), (87, 5, 89), (87, 6, 90), (87, 7, 91), (87, 8, 92), (87, 0, 20), (93, 1, 94), (93, 2, 95), (90, 0, 93), (96, 1, 97), (96, 2, 98), (90, 1, 96), (99, 1, 100), (99, 2, 101), (90, 2, 99), (102, 1, 103), (102, 2, 104), (90, 3, 102), (105, 1, 106), (105, 2, 107), (90, 4, 105), (108, 1, 109), (108, 2, 110), (90, 5, 108), (111, 1, 112), (111, 2, 113), (90, 6, 111), (114, 1, 115), (114, 2, 116), (90, 7, 114), (117, 1, 118), (117, 2, 119), (90, 8, 117), (120, 1, 121), (120, 2, 122), (90, 9, 120), (123, 1, 124), (123, 2, 125), (90, 10, 123), (126, 1, 127), (126, 2, 128), (90, 11, 126), (10, 7, 87), (129, 1, 130), (129, 2, 131), (129, 3, 132), (10, 8, 129), (134, 1, 135), (134, 2, 136), (134, 3, 137), (133, 2, 134), (133, 3, 138), (133, 4, 139), (133, 5, 140), (133, 6, 141), (133, 7, 142), (133, 8, 143), (133, 0, 20), (133, 1, 87), (10, 9, 133), (144, 4, 145), (144, 5, 146), (144, 6, 147), (144, 7, 148), (144, 0, 129), (10, 10, 144), (149, 5, 150), (149, 6, 151), (149, 8, 152), (153, 0, 154), (153, 1, 155), (153, 2, 156), (153, 3, 157), (153, 4, 158), (153, 5, 159), (153, 6, 160), (153, 7, 161), (149, 9, 153), (149, 10, 162), (149, 11, 163), (149, 12, 164), (149, 13, 165), (149, 15, 166), (149, 0, 129), (10, 11, 149), (167, 0, 168), (169, 0, 170), (169, 1, 171), (169, 2, 172), (169, 3, 173), (167, 1, 169), (174, 0, 175), (174, 1, 176), (174, 2, 177), (174, 3, 178), (167, 2, 174), (10, 12, 167), (179, 2, 180), (179, 11, 181), (179, 12, 182), (179, 13, 183), (179, 14, 184), (179, 15, 185), (179, 16, 186), (179, 17, 187), (179, 18, 188), (179, 19, 189), (179, 22, 190), (179, 23, 191), (179, 24, 192), (179, 25, 193), (179, 26, 194), (179, 27, 195), (179, 28, 196), (179, 29, 197), (179, 30, 198), (179, 31, 199), (179, 33, 200), (179, 36, 201), (179, 37, 202), (179, 39, 203), (179, 40, 204), (179, 41, 205), (179, 42, 206), (179, 43, 207), (179, 44, 208), (179, 45, 209), (179, 46, 210), (179, 49, 211), (179, 50, 212), (179, 53, 213), (179, 54, 214), (179, 55, 215), (179, 56, 216), (179, 57, 217), (179, 58, 218), (179, 60, 219), (179, 68, 220), (179, 69, 221), (179, 70, 222), (179, 71, 223), (179, 72, 224), (179, 76, 225), (179, 77, 226), (179, 78, 227), (179, 79, 228), (179, 80, 229), (179, 81, 230), (179, 82, 231), (179, 83, 232), (179, 84, 233)]
def Lay (σ : PS) : Prop := (∀ q ∈ layK, kd σ q.1 = some q.2) ∧ ∀ q ∈ layR, mr σ q.1 q.2.1 = some q.2.2
def Fr (σ s : PS) : Prop := kd s = kd σ ∧ mr s = mr σ
def FrL (σ s : PS) : Prop := kd s = kd σ ∧ Lay s
theorem Fr.rf {σ : PS} : Fr σ σ := ⟨rfl, rfl⟩
theorem Fr.trans {a b c : PS} (h : Fr a b) (k : Fr b c) : Fr a c := ⟨k.1.trans h.1, k.2.trans h.2⟩
theorem Lay.fr {σ s : PS} (h : Lay σ) (f : Fr σ s) : Lay s := ⟨fun q hq => by rw [f.1]; exact h.1 q hq, fun q hq => by rw [f.2]; exact h.2 q hq⟩
theorem Fr.l {σ s : PS} (f : Fr σ s) (h : Lay σ) : FrL σ s := ⟨f.1, h.fr f⟩
theorem Fr.si {σ s : PS} {a i : Nat} {v : Int32} (h : Fr σ s) : Fr σ (si s a i v) := h
theorem Fr.sj {σ s : PS} {a i : Nat} {v : Int64} (h : Fr σ s) : Fr σ (sj s a i v) := h
theorem Fr.sa {σ s : PS} {a : Nat} {f : Nat → Int32} (h : Fr σ s) : Fr σ (sa s a f) := h
theorem Fr.sl {σ s : PS} {a : Nat} {f : Nat → Int64} (h : Fr σ s) : Fr σ (sl s a f) := h
theorem Lay.si {s : PS} {a i : Nat} {v : Int32} (h : Lay s) : Lay (si s a i v) := h
theorem Lay.sj {s : PS} {a i : Nat} {v : Int64} (h : Lay s) : Lay (sj s a i v) := h
theorem Lay.sa {s : PS} {a : Nat} {f : Nat → Int32} (h : Lay s) : Lay (sa s a f) := h
theorem Lay.sl {s : PS} {a : Nat} {f : Nat → Int64} (h : Lay s) : Lay (sl s a f) := h
theorem kd_10 {s : PS} (h : Lay s) : kd s 10 = some (.inl 11) := h.1 (10, .inl 11) (List.mem_of_getElem? (i := 0) (by decide +kernel))
theorem kd_11 {s : PS} (h : Lay s) : kd s 11 = some (.inl 8) := h.1 (11, .inl 8) (List.mem_of_getElem? (i := 1) (by decide +kernel))
theorem kd_12 {s : PS} (h : Lay s) : kd s 12 = some (.inr (3, 1000)) := h.1 (12, .inr (3, 1000)) (List.mem_of_getElem? (i := 2) (by decide +kernel))
theorem kd_13 {s : PS} (h : Lay s) : kd s 13 = some (.inr (0, 1001)) := h.1 (13, .inr (0, 1001)) (List.mem_of_getElem? (i := 3) (by decide +kernel))
theorem kd_14 {s : PS} (h : Lay s) : kd s 14 = some (.inr (0, 1001)) := h.1 (14, .inr (0, 1001)) (List.mem_of_getElem? (i := 4) (by decide +kernel))
theorem kd_15 {s : PS} (h : Lay s) : kd s 15 = some (.inr (1, 1001)) := h.1 (15, .inr (1, 1001)) (List.mem_of_getElem? (i := 5) (by decide +kernel))
theorem kd_16 {s : PS} (h : Lay s) : kd s 16 = some (.inl 7) := h.1 (16, .inl 7) (List.mem_of_getElem? (i := 6) (by decide +kernel))
theorem kd_17 {s : PS} (h : Lay s) : kd s 17 = some (.inr (0, 16)) := h.1 (17, .inr (0, 16)) (List.mem_of_getElem? (i := 7) (by decide +kernel))
theorem kd_18 {s : PS} (h : Lay s) : kd s 18 = some (.inr (1, 8)) := h.1 (18, .inr (1, 8)) (List.mem_of_getElem? (i := 8) (by decide +kernel))
theorem kd_19 {s : PS} (h : Lay s) : kd s 19 = some (.inr (0, 8)) := h.1 (19, .inr (0, 8)) (List.mem_of_getElem? (i := 9) (by decide +kernel))
theorem kd_20 {s : PS} (h : Lay s) : kd s 20 = some (.inl 4) := h.1 (20, .inl 4) (List.mem_of_getElem? (i := 10) (by decide +kernel))
theorem kd_21 {s : PS} (h : Lay s) : kd s 21 = some (.inr (0, 16)) := h.1 (21, .inr (0, 16)) (List.mem_of_getElem? (i := 11) (by decide +kernel))
theorem kd_22 {s : PS} (h : Lay s) : kd s 22 = some (.inr (0, 10)) := h.1 (22, .inr (0, 10)) (List.mem_of_getElem? (i := 12) (by decide +kernel))
theorem kd_23 {s : PS} (h : Lay s) : kd s 23 = some (.inr (0, 10)) := h.1 (23, .inr (0, 10)) (List.mem_of_getElem? (i := 13) (by decide +kernel))
theorem kd_24 {s : PS} (h : Lay s) : kd s 24 = some (.inr (0, 40)) := h.1 (24, .inr (0, 40)) (List.mem_of_getElem? (i := 14) (by decide +kernel))
theorem kd_25 {s : PS} (h : Lay s) : kd s 25 = some (.inr (0, 40)) := h.1 (25, .inr (0, 40)) (List.mem_of_getElem? (i := 15) (by decide +kernel))
theorem kd_26 {s : PS} (h : Lay s) : kd s 26 = some (.inr (0, 22)) := h.1 (26, .inr (0, 22)) (List.mem_of_getElem? (i := 16) (by decide +kernel))
theorem kd_27 {s : PS} (h : Lay s) : kd s 27 = some (.inr (0, 22)) := h.1 (27, .inr (0, 22)) (List.mem_of_getElem? (i := 17) (by decide +kernel))
theorem kd_28 {s : PS} (h : Lay s) : kd s 28 = some (.inr (0, 22)) := h.1 (28, .inr (0, 22)) (List.mem_of_getElem? (i := 18) (by decide +kernel))
theorem kd_29 {s : PS} (h : Lay s) : kd s 29 = some (.inl 4) := h.1 (29, .inl 4) (List.mem_of_getElem? (i := 19) (by decide +kernel))
theorem kd_30 {s : PS} (h : Lay s) : kd s 30 = some (.inr (0, 16)) := h.1 (30, .inr (0, 16)) (List.mem_of_getElem? (i := 20) (by decide +kernel))
theorem kd_31 {s : PS} (h : Lay s) : kd s 31 = some (.inr (0, 10)) := h.1 (31, .inr (0, 10)) (List.mem_of_getElem? (i := 21) (by decide +kernel))
theorem kd_32 {s : PS} (h : Lay s) : kd s 32 = some (.inr (0, 10)) := h.1 (32, .inr (0, 10)) (List.mem_of_getElem? (i := 22) (by decide +kernel))
theorem kd_33 {s : PS} (h : Lay s) : kd s 33 = some (.inr (0, 40)) := h.1 (33, .inr (0, 40)) (List.mem_of_getElem? (i := 23) (by decide +kernel))
theorem kd_34 {s : PS} (h : Lay s) : kd s 34 = some (.inr (0, 40)) := h.1 (34, .inr (0, 40)) (List.mem_of_getElem? (i := 24) (by decide +kernel))
theorem kd_35 {s : PS} (h : Lay s) : kd s 35 = some (.inr (0, 22)) := h.1 (35, .inr (0, 22)) (List.mem_of_getElem? (i := 25) (by decide +kernel))
theorem kd_36 {s : PS} (h : Lay s) : kd s 36 = some (.inr (0, 22)) := h.1 (36, .inr (0, 22)) (List.mem_of_getElem? (i := 26) (by decide +kernel))
theorem kd_37 {s : PS} (h : Lay s) : kd s 37 = some (.inr (0, 22)) := h.1 (37, .inr (0, 22)) (List.mem_of_getElem? (i := 27) (by decide +kernel))
theorem kd_38 {s : PS} (h : Lay s) : kd s 38 = some (.inl 0) := h.1 (38, .inl 0) (List.mem_of_getElem? (i := 28) (by decide +kernel))
theorem kd_39 {s : PS} (h : Lay s) : kd s 39 = some (.inr (5, 41)) := h.1 (39, .inr (5, 41)) (List.mem_of_getElem? (i := 29) (by decide +kernel))
theorem kd_40 {s : PS} (h : Lay s) : kd s 40 = some (.inr (0, 22)) := h.1 (40, .inr (0, 22)) (List.mem_of_getElem? (i := 30) (by decide +kernel))
theorem kd_41 {s : PS} (h : Lay s) : kd s 41 = some (.inr (0, 22)) := h.1 (41, .inr (0, 22)) (List.mem_of_getElem? (i := 31) (by decide +kernel))
theorem kd_42 {s : PS} (h : Lay s) : kd s 42 = some (.inr (0, 22)) := h.1 (42, .inr (0, 22)) (List.mem_of_getElem? (i := 32) (by decide +kernel))
theorem kd_43 {s : PS} (h : Lay s) : kd s 43 = some (.inr (0, 22)) := h.1 (43, .inr (0, 22)) (List.mem_of_getElem? (i := 33) (by decide +kernel))
theorem kd_44 {s : PS} (h : Lay s) : kd s 44 = some (.inr (0, 22)) := h.1 (44, .inr (0, 22)) (List.mem_of_getElem? (i := 34) (by decide +kernel))
theorem kd_45 {s : PS} (h : Lay s) : kd s 45 = some (.inr (0, 22)) := h.1 (45, .inr (0, 22)) (List.mem_of_getElem? (i := 35) (by decide +kernel))
theorem kd_46 {s : PS} (h : Lay s) : kd s 46 = some (.inr (0, 22)) := h.1 (46, .inr (0, 22)) (List.mem_of_getElem? (i := 36) (by decide +kernel))
theorem kd_47 {s : PS} (h : Lay s) : kd s 47 = some (.inr (0, 22)) := h.1 (47, .inr (0, 22)) (List.mem_of_getElem? (i := 37) (by decide +kernel))
theorem kd_48 {s : PS} (h : Lay s) : kd s 48 = some (.inr (0, 22)) := h.1 (48, .inr (0, 22)) (List.mem_of_getElem? (i := 38) (by decide +kernel))
theorem kd_49 {s : PS} (h : Lay s) : kd s 49 = some (.inr (0, 22)) := h.1 (49, .inr (0, 22)) (List.mem_of_getElem? (i := 39) (by decide +kernel))
theorem kd_50 {s : PS} (h : Lay s) : kd s 50 = some (.inr (0, 22)) := h.1 (50, .inr (0, 22)) (List.mem_of_getElem? (i := 40) (by decide +kernel))
theorem kd_51 {s : PS} (h : Lay s) : kd s 51 = some (.inr (0, 22)) := h.1 (51, .inr (0, 22)) (List.mem_of_getElem? (i := 41) (by decide +kernel))
theorem kd_52 {s : PS} (h : Lay s) : kd s 52 = some (.inr (0, 22)) := h.1 (52, .inr (0, 22)) (List.mem_of_getElem? (i := 42) (by decide +kernel))
theorem kd_53 {s : PS} (h : Lay s) : kd s 53 = some (.inr (0, 22)) := h.1 (53, .inr (0, 22)) (List.mem_of_getElem? (i := 43) (by decide +kernel))
theorem kd_54 {s : PS} (h : Lay s) : kd s 54 = some (.inr (0, 22)) := h.1 (54, .inr (0, 22)) (List.mem_of_getElem? (i := 44) (by decide +kernel))
theorem kd_55 {s : PS} (h : Lay s) : kd s 55 = some (.inr (0, 22)) := h.1 (55, .inr (0, 22)) (List.mem_of_getElem? (i := 45) (by decide +kernel))
theorem kd_56 {s : PS} (h : Lay s) : kd s 56 = some (.inr (0, 22)) := h.1 (56, .inr (0, 22)) (List.mem_of_getElem? (i := 46) (by decide +kernel))
theorem kd_57 {s : PS} (h : Lay s) : kd s 57 = some (.inr (0, 22)) := h.1 (57, .inr (0, 22)) (List.mem_of_getElem? (i := 47) (by decide +kernel))
theorem kd_58 {s : PS} (h : Lay s) : kd s 58 = some (.inr (0, 22)) := h.1 (58, .inr (0, 22)) (List.mem_of_getElem? (i := 48) (by decide +kernel))
theorem kd_59 {s : PS} (h : Lay s) : kd s 59 = some (.inr (0, 22)) := h.1 (59, .inr (0, 22)) (List.mem_of_getElem? (i := 49) (by decide +kernel))
theorem kd_60 {s : PS} (h : Lay s) : kd s 60 = some (.inr (0, 22)) := h.1 (60, .inr (0, 22)) (List.mem_of_getElem? (i := 50) (by decide +kernel))
theorem kd_61 {s : PS} (h : Lay s) : kd s 61 = some (.inr (0, 22)) := h.1 (61, .inr (0, 22)) (List.mem_of_getElem? (i := 51) (by decide +kernel))
theorem kd_62 {s : PS} (h : Lay s) : kd s 62 = some (.inr (0, 22)) := h.1 (62, .inr (0, 22)) (List.mem_of_getElem? (i := 52) (by decide +kernel))
theorem kd_63 {s : PS} (h : Lay s) : kd s 63 = some (.inr (0, 22)) := h.1 (63, .inr (0, 22)) (List.mem_of_getElem? (i := 53) (by decide +kernel))
theorem kd_64 {s : PS} (h : Lay s) : kd s 64 = some (.inr (0, 22)) := h.1 (64, .inr (0, 22)) (List.mem_of_getElem? (i := 54) (by decide +kernel))
theorem kd_65 {s : PS} (h : Lay s) : kd s 65 = some (.inr (0, 22)) := h.1 (65, .inr (0, 22)) (List.mem_of_getElem? (i := 55) (by decide +kernel))
theorem kd_66 {s : PS} (h : Lay s) : kd s 66 = some (.inr (0, 22)) := h.1 (66, .inr (0, 22)) (List.mem_of_getElem? (i := 56) (by decide +kernel))
theorem kd_67 {s : PS} (h : Lay s) : kd s 67 = some (.inr (0, 22)) := h.1 (67, .inr (0, 22)) (List.mem_of_getElem? (i := 57) (by decide +kernel))
theorem kd_68 {s : PS} (h : Lay s) : kd s 68 = some (.inr (0, 22)) := h.1 (68, .inr (0, 22)) (List.mem_of_getElem? (i := 58) (by decide +kernel))
theorem kd_69 {s : PS} (h : Lay s) : kd s 69 = some (.inr (0, 22)) := h.1 (69, .inr (0, 22)) (List.mem_of_getElem? (i := 59) (by decide +kernel))
theorem kd_70 {s : PS} (h : Lay s) : kd s 70 = some (.inr (0, 22)) := h.1 (70, .inr (0, 22)) (List.mem_of_getElem? (i := 60) (by decide +kernel))
theorem kd_71 {s : PS} (h : Lay s) : kd s 71 = some (.inr (0, 22)) := h.1 (71, .inr (0, 22)) (List.mem_of_getElem? (i := 61) (by decide +kernel))
theorem kd_72 {s : PS} (h : Lay s) : kd s 72 = some (.inr (0, 22)) := h.1 (72, .inr (0, 22)) (List.mem_of_getElem? (i := 62) (by decide +kernel))
theorem kd_73 {s : PS} (h : Lay s) : kd s 73 = some (.inr (0, 22)) := h.1 (73, .inr (0, 22)) (List.mem_of_getElem? (i := 63) (by decide +kernel))
theorem kd_74 {s : PS} (h : Lay s) : kd s 74 = some (.inr (0, 22)) := h.1 (74, .inr (0, 22)) (List.mem_of_getElem? (i := 64) (by decide +kernel))
theorem kd_75 {s : PS} (h : Lay s) : kd s 75 = some (.inr (0, 22)) := h.1 (75, .inr (0, 22)) (List.mem_of_getElem? (i := 65) (by decide +kernel))
theorem kd_76 {s : PS} (h : Lay s) : kd s 76 = some (.inr (0, 22)) := h.1 (76, .inr (0, 22)) (List.mem_of_getElem? (i := 66) (by decide +kernel))
theorem kd_77 {s : PS} (h : Lay s) : kd s 77 = some (.inr (0, 22)) := h.1 (77, .inr (0, 22)) (List.mem_of_getElem? (i := 67) (by decide +kernel))
theorem kd_78 {s : PS} (h : Lay s) : kd s 78 = some (.inr (0, 22)) := h.1 (78, .inr (0, 22)) (List.mem_of_getElem? (i := 68) (by decide +kernel))
theorem kd_79 {s : PS} (h : Lay s) : kd s 79 = some (.inr (0, 22)) := h.1 (79, .inr (0, 22)) (List.mem_of_getElem? (i := 69) (by decide +kernel))
theorem kd_80 {s : PS} (h : Lay s) : kd s 80 = some (.inr (0, 22)) := h.1 (80, .inr (0, 22)) (List.mem_of_getElem? (i := 70) (by decide +kernel))
theorem kd_81 {s : PS} (h : Lay s) : kd s 81 = some (.inl 3) := h.1 (81, .inl 3) (List.mem_of_getElem? (i := 71) (by decide +kernel))
theorem kd_82 {s : PS} (h : Lay s) : kd s 82 = some (.inr (0, 22)) := h.1 (82, .inr (0, 22)) (List.mem_of_getElem? (i := 72) (by decide +kernel))
theorem kd_83 {s : PS} (h : Lay s) : kd s 83 = some (.inr (0, 22)) := h.1 (83, .inr (0, 22)) (List.mem_of_getElem? (i := 73) (by decide +kernel))
theorem kd_84 {s : PS} (h : Lay s) : kd s 84 = some (.inl 3) := h.1 (84, .inl 3) (List.mem_of_getElem? (i := 74) (by decide +kernel))
theorem kd_85 {s : PS} (h : Lay s) : kd s 85 = some (.inr (0, 22)) := h.1 (85, .inr (0, 22)) (List.mem_of_getElem? (i := 75) (by decide +kernel))
theorem kd_86 {s : PS} (h : Lay s) : kd s 86 = some (.inr (0, 22)) := h.1 (86, .inr (0, 22)) (List.mem_of_getElem? (i := 76) (by decide +kernel))
theorem kd_87 {s : PS} (h : Lay s) : kd s 87 = some (.inl 5) := h.1 (87, .inl 5) (List.mem_of_getElem? (i := 77) (by decide +kernel))
theorem kd_88 {s : PS} (h : Lay s) : kd s 88 = some (.inr (0, 2000)) := h.1 (88, .inr (0, 2000)) (List.mem_of_getElem? (i := 78) (by decide +kernel))
theorem kd_89 {s : PS} (h : Lay s) : kd s 89 = some (.inr (0, 22)) := h.1 (89, .inr (0, 22)) (List.mem_of_getElem? (i := 79) (by decide +kernel))
theorem kd_90 {s : PS} (h : Lay s) : kd s 90 = some (.inr (6, 12)) := h.1 (90, .inr (6, 12)) (List.mem_of_getElem? (i := 80) (by decide +kernel))
theorem kd_91 {s : PS} (h : Lay s) : kd s 91 = some (.inr (0, 22)) := h.1 (91, .inr (0, 22)) (List.mem_of_getElem? (i := 81) (by decide +kernel))
theorem kd_92 {s : PS} (h : Lay s) : kd s 92 = some (.inr (0, 22)) := h.1 (92, .inr (0, 22)) (List.mem_of_getElem? (i := 82) (by decide +kernel))
theorem kd_93 {s : PS} (h : Lay s) : kd s 93 = some (.inl 3) := h.1 (93, .inl 3) (List.mem_of_getElem? (i := 83) (by decide +kernel))
theorem kd_94 {s : PS} (h : Lay s) : kd s 94 = some (.inr (0, 22)) := h.1 (94, .inr (0, 22)) (List.mem_of_getElem? (i := 84) (by decide +kernel))
theorem kd_95 {s : PS} (h : Lay s) : kd s 95 = some (.inr (0, 22)) := h.1 (95, .inr (0, 22)) (List.mem_of_getElem? (i := 85) (by decide +kernel))
theorem kd_96 {s : PS} (h : Lay s) : kd s 96 = some (.inl 3) := h.1 (96, .inl 3) (List.mem_of_getElem? (i := 86) (by decide +kernel))
theorem kd_97 {s : PS} (h : Lay s) : kd s 97 = some (.inr (0, 22)) := h.1 (97, .inr (0, 22)) (List.mem_of_getElem? (i := 87) (by decide +kernel))
theorem kd_98 {s : PS} (h : Lay s) : kd s 98 = some (.inr (0, 22)) := h.1 (98, .inr (0, 22)) (List.mem_of_getElem? (i := 88) (by decide +kernel))
theorem kd_99 {s : PS} (h : Lay s) : kd s 99 = some (.inl 3) := h.1 (99, .inl 3) (List.mem_of_getElem? (i := 89) (by decide +kernel))
theorem kd_100 {s : PS} (h : Lay s) : kd s 100 = some (.inr (0, 22)) := h.1 (100, .inr (0, 22)) (List.mem_of_getElem? (i := 90) (by decide +kernel))
theorem kd_101 {s : PS} (h : Lay s) : kd s 101 = some (.inr (0, 22)) := h.1 (101, .inr (0, 22)) (List.mem_of_getElem? (i := 91) (by decide +kernel))
theorem kd_102 {s : PS} (h : Lay s) : kd s 102 = some (.inl 3) := h.1 (102, .inl 3) (List.mem_of_getElem? (i := 92) (by decide +kernel))
theorem kd_103 {s : PS} (h : Lay s) : kd s 103 = some (.inr (0, 22)) := h.1 (103, .inr (0, 22)) (List.mem_of_getElem? (i := 93) (by decide +kernel))
theorem kd_104 {s : PS} (h : Lay s) : kd s 104 = some (.inr (0, 22)) := h.1 (104, .inr (0, 22)) (List.mem_of_getElem? (i := 94) (by decide +kernel))
theorem kd_105 {s : PS} (h : Lay s) : kd s 105 = some (.inl 3) := h.1 (105, .inl 3) (List.mem_of_getElem? (i := 95) (by decide +kernel))
theorem kd_106 {s : PS} (h : Lay s) : kd s 106 = some (.inr (0, 22)) := h.1 (106, .inr (0, 22)) (List.mem_of_getElem? (i := 96) (by decide +kernel))
theorem kd_107 {s : PS} (h : Lay s) : kd s 107 = some (.inr (0, 22)) := h.1 (107, .inr (0, 22)) (List.mem_of_getElem? (i := 97) (by decide +kernel))
theorem kd_108 {s : PS} (h : Lay s) : kd s 108 = some (.inl 3) := h.1 (108, .inl 3) (List.mem_of_getElem? (i := 98) (by decide +kernel))
theorem kd_109 {s : PS} (h : Lay s) : kd s 109 = some (.inr (0, 22)) := h.1 (109, .inr (0, 22)) (List.mem_of_getElem? (i := 99) (by decide +kernel))
theorem kd_110 {s : PS} (h : Lay s) : kd s 110 = some (.inr (0, 22)) := h.1 (110, .inr (0, 22)) (List.mem_of_getElem? (i := 100) (by decide +kernel))
theorem kd_111 {s : PS} (h : Lay s) : kd s 111 = some (.inl 3) := h.1 (111, .inl 3) (List.mem_of_getElem? (i := 101) (by decide +kernel))
theorem kd_112 {s : PS} (h : Lay s) : kd s 112 = some (.inr (0, 22)) := h.1 (112, .inr (0, 22)) (List.mem_of_getElem? (i := 102) (by decide +kernel))
theorem kd_113 {s : PS} (h : Lay s) : kd s 113 = some (.inr (0, 22)) := h.1 (113, .inr (0, 22)) (List.mem_of_getElem? (i := 103) (by decide +kernel))
theorem kd_114 {s : PS} (h : Lay s) : kd s 114 = some (.inl 3) := h.1 (114, .inl 3) (List.mem_of_getElem? (i := 104) (by decide +kernel))
theorem kd_115 {s : PS} (h : Lay s) : kd s 115 = some (.inr (0, 22)) := h.1 (115, .inr (0, 22)) (List.mem_of_getElem? (i := 105) (by decide +kernel))
theorem kd_116 {s : PS} (h : Lay s) : kd s 116 = some (.inr (0, 22)) := h.1 (116, .inr (0, 22)) (List.mem_of_getElem? (i := 106) (by decide +kernel))
theorem kd_117 {s : PS} (h : Lay s) : kd s 117 = some (.inl 3) := h.1 (117, .inl 3) (List.mem_of_getElem? (i := 107) (by decide +kernel))
theorem kd_118 {s : PS} (h : Lay s) : kd s 118 = some (.inr (0, 22)) := h.1 (118, .inr (0, 22)) (List.mem_of_getElem? (i := 108) (by decide +kernel))
theorem kd_119 {s : PS} (h : Lay s) : kd s 119 = some (.inr (0, 22)) := h.1 (119, .inr (0, 22)) (List.mem_of_getElem? (i := 109) (by decide +kernel))
theorem kd_120 {s : PS} (h : Lay s) : kd s 120 = some (.inl 3) := h.1 (120, .inl 3) (List.mem_of_getElem? (i := 110) (by decide +kernel))
theorem kd_121 {s : PS} (h : Lay s) : kd s 121 = some (.inr (0, 22)) := h.1 (121, .inr (0, 22)) (List.mem_of_getElem? (i := 111) (by decide +kernel))
theorem kd_122 {s : PS} (h : Lay s) : kd s 122 = some (.inr (0, 22)) := h.1 (122, .inr (0, 22)) (List.mem_of_getElem? (i := 112) (by decide +kernel))
theorem kd_123 {s : PS} (h : Lay s) : kd s 123 = some (.inl 3) := h.1 (123, .inl 3) (List.mem_of_getElem? (i := 113) (by decide +kernel))
theorem kd_124 {s : PS} (h : Lay s) : kd s 124 = some (.inr (0, 22)) := h.1 (124, .inr (0, 22)) (List.mem_of_getElem? (i := 114) (by decide +kernel))
theorem kd_125 {s : PS} (h : Lay s) : kd s 125 = some (.inr (0, 22)) := h.1 (125, .inr (0, 22)) (List.mem_of_getElem? (i := 115) (by decide +kernel))
theorem kd_126 {s : PS} (h : Lay s) : kd s 126 = some (.inl 3) := h.1 (126, .inl 3) (List.mem_of_getElem? (i := 116) (by decide +kernel))
theorem kd_127 {s : PS} (h : Lay s) : kd s 127 = some (.inr (0, 22)) := h.1 (127, .inr (0, 22)) (List.mem_of_getElem? (i := 117) (by decide +kernel))
theorem kd_128 {s : PS} (h : Lay s) : kd s 128 = some (.inr (0, 22)) := h.1 (128, .inr (0, 22)) (List.mem_of_getElem? (i := 118) (by decide +kernel))
theorem kd_129 {s : PS} (h : Lay s) : kd s 129 = some (.inl 2) := h.1 (129, .inl 2) (List.mem_of_getElem? (i := 119) (by decide +kernel))
theorem kd_130 {s : PS} (h : Lay s) : kd s 130 = some (.inr (0, 40)) := h.1 (130, .inr (0, 40)) (List.mem_of_getElem? (i := 120) (by decide +kernel))
theorem kd_131 {s : PS} (h : Lay s) : kd s 131 = some (.inr (0, 40)) := h.1 (131, .inr (0, 40)) (List.mem_of_getElem? (i := 121) (by decide +kernel))
theorem kd_132 {s : PS} (h : Lay s) : kd s 132 = some (.inr (0, 40)) := h.1 (132, .inr (0, 40)) (List.mem_of_getElem? (i := 122) (by decide +kernel))
theorem kd_133 {s : PS} (h : Lay s) : kd s 133 = some (.inl 1) := h.1 (133, .inl 1) (List.mem_of_getElem? (i := 123) (by decide +kernel))
theorem kd_134 {s : PS} (h : Lay s) : kd s 134 = some (.inl 2) := h.1 (134, .inl 2) (List.mem_of_getElem? (i := 124) (by decide +kernel))
theorem kd_135 {s : PS} (h : Lay s) : kd s 135 = some (.inr (0, 40)) := h.1 (135, .inr (0, 40)) (List.mem_of_getElem? (i := 125) (by decide +kernel))
theorem kd_136 {s : PS} (h : Lay s) : kd s 136 = some (.inr (0, 40)) := h.1 (136, .inr (0, 40)) (List.mem_of_getElem? (i := 126) (by decide +kernel))
theorem kd_137 {s : PS} (h : Lay s) : kd s 137 = some (.inr (0, 40)) := h.1 (137, .inr (0, 40)) (List.mem_of_getElem? (i := 127) (by decide +kernel))
theorem kd_138 {s : PS} (h : Lay s) : kd s 138 = some (.inr (0, 10)) := h.1 (138, .inr (0, 10)) (List.mem_of_getElem? (i := 128) (by decide +kernel))
theorem kd_139 {s : PS} (h : Lay s) : kd s 139 = some (.inr (0, 10)) := h.1 (139, .inr (0, 10)) (List.mem_of_getElem? (i := 129) (by decide +kernel))
theorem kd_140 {s : PS} (h : Lay s) : kd s 140 = some (.inr (0, 10)) := h.1 (140, .inr (0, 10)) (List.mem_of_getElem? (i := 130) (by decide +kernel))
theorem kd_141 {s : PS} (h : Lay s) : kd s 141 = some (.inr (0, 40)) := h.1 (141, .inr (0, 40)) (List.mem_of_getElem? (i := 131) (by decide +kernel))
theorem kd_142 {s : PS} (h : Lay s) : kd s 142 = some (.inr (1, 1208)) := h.1 (142, .inr (1, 1208)) (List.mem_of_getElem? (i := 132) (by decide +kernel))
theorem kd_143 {s : PS} (h : Lay s) : kd s 143 = some (.inr (0, 300)) := h.1 (143, .inr (0, 300)) (List.mem_of_getElem? (i := 133) (by decide +kernel))
theorem kd_144 {s : PS} (h : Lay s) : kd s 144 = some (.inl 10) := h.1 (144, .inl 10) (List.mem_of_getElem? (i := 134) (by decide +kernel))
theorem kd_145 {s : PS} (h : Lay s) : kd s 145 = some (.inr (0, 11)) := h.1 (145, .inr (0, 11)) (List.mem_of_getElem? (i := 135) (by decide +kernel))
theorem kd_146 {s : PS} (h : Lay s) : kd s 146 = some (.inr (0, 11)) := h.1 (146, .inr (0, 11)) (List.mem_of_getElem? (i := 136) (by decide +kernel))
theorem kd_147 {s : PS} (h : Lay s) : kd s 147 = some (.inr (0, 11)) := h.1 (147, .inr (0, 11)) (List.mem_of_getElem? (i := 137) (by decide +kernel))
theorem kd_148 {s : PS} (h : Lay s) : kd s 148 = some (.inr (0, 11)) := h.1 (148, .inr (0, 11)) (List.mem_of_getElem? (i := 138) (by decide +kernel))
theorem kd_149 {s : PS} (h : Lay s) : kd s 149 = some (.inl 9) := h.1 (149, .inl 9) (List.mem_of_getElem? (i := 139) (by decide +kernel))
theorem kd_150 {s : PS} (h : Lay s) : kd s 150 = some (.inr (0, 16)) := h.1 (150, .inr (0, 16)) (List.mem_of_getElem? (i := 140) (by decide +kernel))
theorem kd_151 {s : PS} (h : Lay s) : kd s 151 = some (.inr (0, 16)) := h.1 (151, .inr (0, 16)) (List.mem_of_getElem? (i := 141) (by decide +kernel))
theorem kd_152 {s : PS} (h : Lay s) : kd s 152 = some (.inr (4, 32)) := h.1 (152, .inr (4, 32)) (List.mem_of_getElem? (i := 142) (by decide +kernel))
theorem kd_153 {s : PS} (h : Lay s) : kd s 153 = some (.inr (5, 8)) := h.1 (153, .inr (5, 8)) (List.mem_of_getElem? (i := 143) (by decide +kernel))
theorem kd_154 {s : PS} (h : Lay s) : kd s 154 = some (.inr (0, 8)) := h.1 (154, .inr (0, 8)) (List.mem_of_getElem? (i := 144) (by decide +kernel))
theorem kd_155 {s : PS} (h : Lay s) : kd s 155 = some (.inr (0, 8)) := h.1 (155, .inr (0, 8)) (List.mem_of_getElem? (i := 145) (by decide +kernel))
theorem kd_156 {s : PS} (h : Lay s) : kd s 156 = some (.inr (0, 8)) := h.1 (156, .inr (0, 8)) (List.mem_of_getElem? (i := 146) (by decide +kernel))
theorem kd_157 {s : PS} (h : Lay s) : kd s 157 = some (.inr (0, 8)) := h.1 (157, .inr (0, 8)) (List.mem_of_getElem? (i := 147) (by decide +kernel))
theorem kd_158 {s : PS} (h : Lay s) : kd s 158 = some (.inr (0, 8)) := h.1 (158, .inr (0, 8)) (List.mem_of_getElem? (i := 148) (by decide +kernel))
theorem kd_159 {s : PS} (h : Lay s) : kd s 159 = some (.inr (0, 8)) := h.1 (159, .inr (0, 8)) (List.mem_of_getElem? (i := 149) (by decide +kernel))
theorem kd_160 {s : PS} (h : Lay s) : kd s 160 = some (.inr (0, 8)) := h.1 (160, .inr (0, 8)) (List.mem_of_getElem? (i := 150) (by decide +kernel))
theorem kd_161 {s : PS} (h : Lay s) : kd s 161 = some (.inr (0, 8)) := h.1 (161, .inr (0, 8)) (List.mem_of_getElem? (i := 151) (by decide +kernel))
theorem kd_162 {s : PS} (h : Lay s) : kd s 162 = some (.inr (0, 8)) := h.1 (162, .inr (0, 8)) (List.mem_of_getElem? (i := 152) (by decide +kernel))
theorem kd_163 {s : PS} (h : Lay s) : kd s 163 = some (.inr (0, 8)) := h.1 (163, .inr (0, 8)) (List.mem_of_getElem? (i := 153) (by decide +kernel))
theorem kd_164 {s : PS} (h : Lay s) : kd s 164 = some (.inr (0, 8)) := h.1 (164, .inr (0, 8)) (List.mem_of_getElem? (i := 154) (by decide +kernel))
theorem kd_165 {s : PS} (h : Lay s) : kd s 165 = some (.inr (0, 8)) := h.1 (165, .inr (0, 8)) (List.mem_of_getElem? (i := 155) (by decide +kernel))
theorem kd_166 {s : PS} (h : Lay s) : kd s 166 = some (.inr (1, 512)) := h.1 (166, .inr (1, 512)) (List.mem_of_getElem? (i := 156) (by decide +kernel))
theorem kd_167 {s : PS} (h : Lay s) : kd s 167 = some (.inl 6) := h.1 (167, .inl 6) (List.mem_of_getElem? (i := 157) (by decide +kernel))
theorem kd_168 {s : PS} (h : Lay s) : kd s 168 = some (.inr (4, 4)) := h.1 (168, .inr (4, 4)) (List.mem_of_getElem? (i := 158) (by decide +kernel))
theorem kd_169 {s : PS} (h : Lay s) : kd s 169 = some (.inr (5, 4)) := h.1 (169, .inr (5, 4)) (List.mem_of_getElem? (i := 159) (by decide +kernel))
theorem kd_170 {s : PS} (h : Lay s) : kd s 170 = some (.inr (0, 16)) := h.1 (170, .inr (0, 16)) (List.mem_of_getElem? (i := 160) (by decide +kernel))
theorem kd_171 {s : PS} (h : Lay s) : kd s 171 = some (.inr (0, 16)) := h.1 (171, .inr (0, 16)) (List.mem_of_getElem? (i := 161) (by decide +kernel))
theorem kd_172 {s : PS} (h : Lay s) : kd s 172 = some (.inr (0, 16)) := h.1 (172, .inr (0, 16)) (List.mem_of_getElem? (i := 162) (by decide +kernel))
theorem kd_173 {s : PS} (h : Lay s) : kd s 173 = some (.inr (0, 16)) := h.1 (173, .inr (0, 16)) (List.mem_of_getElem? (i := 163) (by decide +kernel))
theorem kd_174 {s : PS} (h : Lay s) : kd s 174 = some (.inr (5, 4)) := h.1 (174, .inr (5, 4)) (List.mem_of_getElem? (i := 164) (by decide +kernel))
theorem kd_175 {s : PS} (h : Lay s) : kd s 175 = some (.inr (0, 22)) := h.1 (175, .inr (0, 22)) (List.mem_of_getElem? (i := 165) (by decide +kernel))
theorem kd_176 {s : PS} (h : Lay s) : kd s 176 = some (.inr (0, 22)) := h.1 (176, .inr (0, 22)) (List.mem_of_getElem? (i := 166) (by decide +kernel))
theorem kd_177 {s : PS} (h : Lay s) : kd s 177 = some (.inr (0, 22)) := h.1 (177, .inr (0, 22)) (List.mem_of_getElem? (i := 167) (by decide +kernel))
theorem kd_178 {s : PS} (h : Lay s) : kd s 178 = some (.inr (0, 22)) := h.1 (178, .inr (0, 22)) (List.mem_of_getElem? (i := 168) (by decide +kernel))
theorem kd_179 {s : PS} (h : Lay s) : kd s 179 = some (.inl 12) := h.1 (179, .inl 12) (List.mem_of_getElem? (i := 169) (by decide +kernel))
theorem kd_180 {s : PS} (h : Lay s) : kd s 180 = some (.inr (0, 1000)) := h.1 (180, .inr (0, 1000)) (List.mem_of_getElem? (i := 170) (by decide +kernel))
theorem kd_181 {s : PS} (h : Lay s) : kd s 181 = some (.inr (0, 200)) := h.1 (181, .inr (0, 200)) (List.mem_of_getElem? (i := 171) (by decide +kernel))
theorem kd_182 {s : PS} (h : Lay s) : kd s 182 = some (.inr (0, 200)) := h.1 (182, .inr (0, 200)) (List.mem_of_getElem? (i := 172) (by decide +kernel))
theorem kd_183 {s : PS} (h : Lay s) : kd s 183 = some (.inr (0, 200)) := h.1 (183, .inr (0, 200)) (List.mem_of_getElem? (i := 173) (by decide +kernel))
theorem kd_184 {s : PS} (h : Lay s) : kd s 184 = some (.inr (0, 200)) := h.1 (184, .inr (0, 200)) (List.mem_of_getElem? (i := 174) (by decide +kernel))
theorem kd_185 {s : PS} (h : Lay s) : kd s 185 = some (.inr (0, 200)) := h.1 (185, .inr (0, 200)) (List.mem_of_getElem? (i := 175) (by decide +kernel))
theorem kd_186 {s : PS} (h : Lay s) : kd s 186 = some (.inr (0, 1200)) := h.1 (186, .inr (0, 1200)) (List.mem_of_getElem? (i := 176) (by decide +kernel))
theorem kd_187 {s : PS} (h : Lay s) : kd s 187 = some (.inr (0, 1200)) := h.1 (187, .inr (0, 1200)) (List.mem_of_getElem? (i := 177) (by decide +kernel))
theorem kd_188 {s : PS} (h : Lay s) : kd s 188 = some (.inr (0, 1000)) := h.1 (188, .inr (0, 1000)) (List.mem_of_getElem? (i := 178) (by decide +kernel))
theorem kd_189 {s : PS} (h : Lay s) : kd s 189 = some (.inr (1, 8)) := h.1 (189, .inr (1, 8)) (List.mem_of_getElem? (i := 179) (by decide +kernel))
theorem kd_190 {s : PS} (h : Lay s) : kd s 190 = some (.inr (0, 7)) := h.1 (190, .inr (0, 7)) (List.mem_of_getElem? (i := 180) (by decide +kernel))
theorem kd_191 {s : PS} (h : Lay s) : kd s 191 = some (.inr (0, 7)) := h.1 (191, .inr (0, 7)) (List.mem_of_getElem? (i := 181) (by decide +kernel))
theorem kd_192 {s : PS} (h : Lay s) : kd s 192 = some (.inr (0, 7)) := h.1 (192, .inr (0, 7)) (List.mem_of_getElem? (i := 182) (by decide +kernel))
theorem kd_193 {s : PS} (h : Lay s) : kd s 193 = some (.inr (0, 7)) := h.1 (193, .inr (0, 7)) (List.mem_of_getElem? (i := 183) (by decide +kernel))
theorem kd_194 {s : PS} (h : Lay s) : kd s 194 = some (.inr (0, 7)) := h.1 (194, .inr (0, 7)) (List.mem_of_getElem? (i := 184) (by decide +kernel))
theorem kd_195 {s : PS} (h : Lay s) : kd s 195 = some (.inr (0, 7)) := h.1 (195, .inr (0, 7)) (List.mem_of_getElem? (i := 185) (by decide +kernel))
theorem kd_196 {s : PS} (h : Lay s) : kd s 196 = some (.inr (0, 7)) := h.1 (196, .inr (0, 7)) (List.mem_of_getElem? (i := 186) (by decide +kernel))
theorem kd_197 {s : PS} (h : Lay s) : kd s 197 = some (.inr (0, 7)) := h.1 (197, .inr (0, 7)) (List.mem_of_getElem? (i := 187) (by decide +kernel))
theorem kd_198 {s : PS} (h : Lay s) : kd s 198 = some (.inr (0, 7)) := h.1 (198, .inr (0, 7)) (List.mem_of_getElem? (i := 188) (by decide +kernel))
theorem kd_199 {s : PS} (h : Lay s) : kd s 199 = some (.inr (0, 20)) := h.1 (199, .inr (0, 20)) (List.mem_of_getElem? (i := 189) (by decide +kernel))
theorem kd_200 {s : PS} (h : Lay s) : kd s 200 = some (.inr (4, 256)) := h.1 (200, .inr (4, 256)) (List.mem_of_getElem? (i := 190) (by decide +kernel))
theorem kd_201 {s : PS} (h : Lay s) : kd s 201 = some (.inr (0, 10)) := h.1 (201, .inr (0, 10)) (List.mem_of_getElem? (i := 191) (by decide +kernel))
theorem kd_202 {s : PS} (h : Lay s) : kd s 202 = some (.inr (0, 10)) := h.1 (202, .inr (0, 10)) (List.mem_of_getElem? (i := 192) (by decide +kernel))
theorem kd_203 {s : PS} (h : Lay s) : kd s 203 = some (.inr (0, 24)) := h.1 (203, .inr (0, 24)) (List.mem_of_getElem? (i := 193) (by decide +kernel))
theorem kd_204 {s : PS} (h : Lay s) : kd s 204 = some (.inr (0, 24)) := h.1 (204, .inr (0, 24)) (List.mem_of_getElem? (i := 194) (by decide +kernel))
theorem kd_205 {s : PS} (h : Lay s) : kd s 205 = some (.inr (0, 24)) := h.1 (205, .inr (0, 24)) (List.mem_of_getElem? (i := 195) (by decide +kernel))
theorem kd_206 {s : PS} (h : Lay s) : kd s 206 = some (.inr (0, 40)) := h.1 (206, .inr (0, 40)) (List.mem_of_getElem? (i := 196) (by decide +kernel))
theorem kd_207 {s : PS} (h : Lay s) : kd s 207 = some (.inr (0, 10)) := h.1 (207, .inr (0, 10)) (List.mem_of_getElem? (i := 197) (by decide +kernel))
theorem kd_208 {s : PS} (h : Lay s) : kd s 208 = some (.inr (0, 10)) := h.1 (208, .inr (0, 10)) (List.mem_of_getElem? (i := 198) (by decide +kernel))
theorem kd_209 {s : PS} (h : Lay s) : kd s 209 = some (.inr (0, 24)) := h.1 (209, .inr (0, 24)) (List.mem_of_getElem? (i := 199) (by decide +kernel))
theorem kd_210 {s : PS} (h : Lay s) : kd s 210 = some (.inr (0, 24)) := h.1 (210, .inr (0, 24)) (List.mem_of_getElem? (i := 200) (by decide +kernel))
theorem kd_211 {s : PS} (h : Lay s) : kd s 211 = some (.inr (2, 48048)) := h.1 (211, .inr (2, 48048)) (List.mem_of_getElem? (i := 201) (by decide +kernel))
theorem kd_212 {s : PS} (h : Lay s) : kd s 212 = some (.inr (0, 24)) := h.1 (212, .inr (0, 24)) (List.mem_of_getElem? (i := 202) (by decide +kernel))
theorem kd_213 {s : PS} (h : Lay s) : kd s 213 = some (.inr (2, 960)) := h.1 (213, .inr (2, 960)) (List.mem_of_getElem? (i := 203) (by decide +kernel))
theorem kd_214 {s : PS} (h : Lay s) : kd s 214 = some (.inr (2, 960)) := h.1 (214, .inr (2, 960)) (List.mem_of_getElem? (i := 204) (by decide +kernel))
theorem kd_215 {s : PS} (h : Lay s) : kd s 215 = some (.inr (0, 80)) := h.1 (215, .inr (0, 80)) (List.mem_of_getElem? (i := 205) (by decide +kernel))
theorem kd_216 {s : PS} (h : Lay s) : kd s 216 = some (.inr (0, 10)) := h.1 (216, .inr (0, 10)) (List.mem_of_getElem? (i := 206) (by decide +kernel))
theorem kd_217 {s : PS} (h : Lay s) : kd s 217 = some (.inr (0, 10)) := h.1 (217, .inr (0, 10)) (List.mem_of_getElem? (i := 207) (by decide +kernel))
theorem kd_218 {s : PS} (h : Lay s) : kd s 218 = some (.inr (0, 10)) := h.1 (218, .inr (0, 10)) (List.mem_of_getElem? (i := 208) (by decide +kernel))
theorem kd_219 {s : PS} (h : Lay s) : kd s 219 = some (.inr (0, 300)) := h.1 (219, .inr (0, 300)) (List.mem_of_getElem? (i := 209) (by decide +kernel))
theorem kd_220 {s : PS} (h : Lay s) : kd s 220 = some (.inr (0, 40)) := h.1 (220, .inr (0, 40)) (List.mem_of_getElem? (i := 210) (by decide +kernel))
theorem kd_221 {s : PS} (h : Lay s) : kd s 221 = some (.inr (0, 10)) := h.1 (221, .inr (0, 10)) (List.mem_of_getElem? (i := 211) (by decide +kernel))
theorem kd_222 {s : PS} (h : Lay s) : kd s 222 = some (.inr (0, 10)) := h.1 (222, .inr (0, 10)) (List.mem_of_getElem? (i := 212) (by decide +kernel))
theorem kd_223 {s : PS} (h : Lay s) : kd s 223 = some (.inr (0, 10)) := h.1 (223, .inr (0, 10)) (List.mem_of_getElem? (i := 213) (by decide +kernel))
theorem kd_224 {s : PS} (h : Lay s) : kd s 224 = some (.inr (0, 10)) := h.1 (224, .inr (0, 10)) (List.mem_of_getElem? (i := 214) (by decide +kernel))
theorem kd_225 {s : PS} (h : Lay s) : kd s 225 = some (.inr (1, 12000)) := h.1 (225, .inr (1, 12000)) (List.mem_of_getElem? (i := 215) (by decide +kernel))
theorem kd_226 {s : PS} (h : Lay s) : kd s 226 = some (.inr (0, 32768)) := h.1 (226, .inr (0, 32768)) (List.mem_of_getElem? (i := 216) (by decide +kernel))
theorem kd_227 {s : PS} (h : Lay s) : kd s 227 = some (.inr (0, 10)) := h.1 (227, .inr (0, 10)) (List.mem_of_getElem? (i := 217) (by decide +kernel))
theorem kd_228 {s : PS} (h : Lay s) : kd s 228 = some (.inr (0, 10)) := h.1 (228, .inr (0, 10)) (List.mem_of_getElem? (i := 218) (by decide +kernel))
theorem kd_229 {s : PS} (h : Lay s) : kd s 229 = some (.inr (4, 4)) := h.1 (229, .inr (4, 4)) (List.mem_of_getElem? (i := 219) (by decide +kernel))
theorem kd_230 {s : PS} (h : Lay s) : kd s 230 = some (.inr (0, 4)) := h.1 (230, .inr (0, 4)) (List.mem_of_getElem? (i := 220) (by decide +kernel))
theorem kd_231 {s : PS} (h : Lay s) : kd s 231 = some (.inr (0, 40)) := h.1 (231, .inr (0, 40)) (List.mem_of_getElem? (i := 221) (by decide +kernel))
theorem kd_232 {s : PS} (h : Lay s) : kd s 232 = some (.inr (0, 40)) := h.1 (232, .inr (0, 40)) (List.mem_of_getElem? (i := 222) (by decide +kernel))
theorem kd_233 {s : PS} (h : Lay s) : kd s 233 = some (.inr (0, 96)) := h.1 (233, .inr (0, 96)) (List.mem_of_getElem? (i := 223) (by decide +kernel))
theorem kd_234 {s : PS} (h : Lay s) : kd s 234 = some (.inr (1, 1)) := h.1 (234, .inr (1, 1)) (List.mem_of_getElem? (i := 224) (by decide +kernel))
theorem mr_11_0 {s : PS} (h : Lay s) : mr s 11 0 = some 12 := h.2 (11, 0, 12) (List.mem_of_getElem? (i := 0) (by decide +kernel))
theorem rv_11_0 {s : PS} (h : Lay s) : fv s 8 11 0 = .ref 12 := by
  show va_rf (mr s 11 0) = _
  rw [mr_11_0 h]
  rfl
theorem mr_11_2 {s : PS} (h : Lay s) : mr s 11 2 = some 13 := h.2 (11, 2, 13) (List.mem_of_getElem? (i := 1) (by decide +kernel))
theorem rv_11_2 {s : PS} (h : Lay s) : fv s 8 11 2 = .ref 13 := by
  show va_rf (mr s 11 2) = _
  rw [mr_11_2 h]
  rfl
theorem mr_11_3 {s : PS} (h : Lay s) : mr s 11 3 = some 14 := h.2 (11, 3, 14) (List.mem_of_getElem? (i := 2) (by decide +kernel))
theorem rv_11_3 {s : PS} (h : Lay s) : fv s 8 11 3 = .ref 14 := by
  show va_rf (mr s 11 3) = _
  rw [mr_11_3 h]
  rfl
theorem mr_11_4 {s : PS} (h : Lay s) : mr s 11 4 = some 15 := h.2 (11, 4, 15) (List.mem_of_getElem? (i := 3) (by decide +kernel))
theorem rv_11_4 {s : PS} (h : Lay s) : fv s 8 11 4 = .ref 15 := by
  show va_rf (mr s 11 4) = _
  rw [mr_11_4 h]
  rfl
theorem mr_10_0 {s : PS} (h : Lay s) : mr s 10 0 = some 11 := h.2 (10, 0, 11) (List.mem_of_getElem? (i := 4) (by decide +kernel))
theorem rv_10_0 {s : PS} (h : Lay s) : fv s 11 10 0 = .ref 11 := by
  show va_rf (mr s 10 0) = _
  rw [mr_10_0 h]
  rfl
theorem mr_16_0 {s : PS} (h : Lay s) : mr s 16 0 = some 17 := h.2 (16, 0, 17) (List.mem_of_getElem? (i := 5) (by decide +kernel))
theorem rv_16_0 {s : PS} (h : Lay s) : fv s 7 16 0 = .ref 17 := by
  show va_rf (mr s 16 0) = _
  rw [mr_16_0 h]
  rfl
theorem mr_16_1 {s : PS} (h : Lay s) : mr s 16 1 = some 18 := h.2 (16, 1, 18) (List.mem_of_getElem? (i := 6) (by decide +kernel))
theorem rv_16_1 {s : PS} (h : Lay s) : fv s 7 16 1 = .ref 18 := by
  show va_rf (mr s 16 1) = _
  rw [mr_16_1 h]
  rfl
theorem mr_16_2 {s : PS} (h : Lay s) : mr s 16 2 = some 19 := h.2 (16, 2, 19) (List.mem_of_getElem? (i := 7) (by decide +kernel))
theorem rv_16_2 {s : PS} (h : Lay s) : fv s 7 16 2 = .ref 19 := by
  show va_rf (mr s 16 2) = _
  rw [mr_16_2 h]
  rfl
theorem mr_10_1 {s : PS} (h : Lay s) : mr s 10 1 = some 16 := h.2 (10, 1, 16) (List.mem_of_getElem? (i := 8) (by decide +kernel))
theorem rv_10_1 {s : PS} (h : Lay s) : fv s 11 10 1 = .ref 16 := by
  show va_rf (mr s 10 1) = _
  rw [mr_10_1 h]
  rfl
theorem mr_20_0 {s : PS} (h : Lay s) : mr s 20 0 = some 21 := h.2 (20, 0, 21) (List.mem_of_getElem? (i := 9) (by decide +kernel))
theorem rv_20_0 {s : PS} (h : Lay s) : fv s 4 20 0 = .ref 21 := by
  show va_rf (mr s 20 0) = _
  rw [mr_20_0 h]
  rfl
theorem mr_20_1 {s : PS} (h : Lay s) : mr s 20 1 = some 22 := h.2 (20, 1, 22) (List.mem_of_getElem? (i := 10) (by decide +kernel))
theorem rv_20_1 {s : PS} (h : Lay s) : fv s 4 20 1 = .ref 22 := by
  show va_rf (mr s 20 1) = _
  rw [mr_20_1 h]
  rfl
theorem mr_20_2 {s : PS} (h : Lay s) : mr s 20 2 = some 23 := h.2 (20, 2, 23) (List.mem_of_getElem? (i := 11) (by decide +kernel))
theorem rv_20_2 {s : PS} (h : Lay s) : fv s 4 20 2 = .ref 23 := by
  show va_rf (mr s 20 2) = _
  rw [mr_20_2 h]
  rfl
theorem mr_20_4 {s : PS} (h : Lay s) : mr s 20 4 = some 24 := h.2 (20, 4, 24) (List.mem_of_getElem? (i := 12) (by decide +kernel))
theorem rv_20_4 {s : PS} (h : Lay s) : fv s 4 20 4 = .ref 24 := by
  show va_rf (mr s 20 4) = _
  rw [mr_20_4 h]
  rfl
theorem mr_20_5 {s : PS} (h : Lay s) : mr s 20 5 = some 25 := h.2 (20, 5, 25) (List.mem_of_getElem? (i := 13) (by decide +kernel))
theorem rv_20_5 {s : PS} (h : Lay s) : fv s 4 20 5 = .ref 25 := by
  show va_rf (mr s 20 5) = _
  rw [mr_20_5 h]
  rfl
theorem mr_20_7 {s : PS} (h : Lay s) : mr s 20 7 = some 26 := h.2 (20, 7, 26) (List.mem_of_getElem? (i := 14) (by decide +kernel))
theorem rv_20_7 {s : PS} (h : Lay s) : fv s 4 20 7 = .ref 26 := by
  show va_rf (mr s 20 7) = _
  rw [mr_20_7 h]
  rfl
theorem mr_20_8 {s : PS} (h : Lay s) : mr s 20 8 = some 27 := h.2 (20, 8, 27) (List.mem_of_getElem? (i := 15) (by decide +kernel))
theorem rv_20_8 {s : PS} (h : Lay s) : fv s 4 20 8 = .ref 27 := by
  show va_rf (mr s 20 8) = _
  rw [mr_20_8 h]
  rfl
theorem mr_20_9 {s : PS} (h : Lay s) : mr s 20 9 = some 28 := h.2 (20, 9, 28) (List.mem_of_getElem? (i := 16) (by decide +kernel))
theorem rv_20_9 {s : PS} (h : Lay s) : fv s 4 20 9 = .ref 28 := by
  show va_rf (mr s 20 9) = _
  rw [mr_20_9 h]
  rfl
theorem mr_10_2 {s : PS} (h : Lay s) : mr s 10 2 = some 20 := h.2 (10, 2, 20) (List.mem_of_getElem? (i := 17) (by decide +kernel))
theorem rv_10_2 {s : PS} (h : Lay s) : fv s 11 10 2 = .ref 20 := by
  show va_rf (mr s 10 2) = _
  rw [mr_10_2 h]
  rfl
theorem mr_29_0 {s : PS} (h : Lay s) : mr s 29 0 = some 30 := h.2 (29, 0, 30) (List.mem_of_getElem? (i := 18) (by decide +kernel))
theorem rv_29_0 {s : PS} (h : Lay s) : fv s 4 29 0 = .ref 30 := by
  show va_rf (mr s 29 0) = _
  rw [mr_29_0 h]
  rfl
theorem mr_29_1 {s : PS} (h : Lay s) : mr s 29 1 = some 31 := h.2 (29, 1, 31) (List.mem_of_getElem? (i := 19) (by decide +kernel))
theorem rv_29_1 {s : PS} (h : Lay s) : fv s 4 29 1 = .ref 31 := by
  show va_rf (mr s 29 1) = _
  rw [mr_29_1 h]
  rfl
theorem mr_29_2 {s : PS} (h : Lay s) : mr s 29 2 = some 32 := h.2 (29, 2, 32) (List.mem_of_getElem? (i := 20) (by decide +kernel))
theorem rv_29_2 {s : PS} (h : Lay s) : fv s 4 29 2 = .ref 32 := by
  show va_rf (mr s 29 2) = _
  rw [mr_29_2 h]
  rfl
theorem mr_29_4 {s : PS} (h : Lay s) : mr s 29 4 = some 33 := h.2 (29, 4, 33) (List.mem_of_getElem? (i := 21) (by decide +kernel))
theorem rv_29_4 {s : PS} (h : Lay s) : fv s 4 29 4 = .ref 33 := by
  show va_rf (mr s 29 4) = _
  rw [mr_29_4 h]
  rfl
theorem mr_29_5 {s : PS} (h : Lay s) : mr s 29 5 = some 34 := h.2 (29, 5, 34) (List.mem_of_getElem? (i := 22) (by decide +kernel))
theorem rv_29_5 {s : PS} (h : Lay s) : fv s 4 29 5 = .ref 34 := by
  show va_rf (mr s 29 5) = _
  rw [mr_29_5 h]
  rfl
theorem mr_29_7 {s : PS} (h : Lay s) : mr s 29 7 = some 35 := h.2 (29, 7, 35) (List.mem_of_getElem? (i := 23) (by decide +kernel))
theorem rv_29_7 {s : PS} (h : Lay s) : fv s 4 29 7 = .ref 35 := by
  show va_rf (mr s 29 7) = _
  rw [mr_29_7 h]
  rfl
theorem mr_29_8 {s : PS} (h : Lay s) : mr s 29 8 = some 36 := h.2 (29, 8, 36) (List.mem_of_getElem? (i := 24) (by decide +kernel))
theorem rv_29_8 {s : PS} (h : Lay s) : fv s 4 29 8 = .ref 36 := by
  show va_rf (mr s 29 8) = _
  rw [mr_29_8 h]
  rfl
theorem mr_29_9 {s : PS} (h : Lay s) : mr s 29 9 = some 37 := h.2 (29, 9, 37) (List.mem_of_getElem? (i := 25) (by decide +kernel))
theorem rv_29_9 {s : PS} (h : Lay s) : fv s 4 29 9 = .ref 37 := by
  show va_rf (mr s 29 9) = _
  rw [mr_29_9 h]
  rfl
theorem mr_10_3 {s : PS} (h : Lay s) : mr s 10 3 = some 29 := h.2 (10, 3, 29) (List.mem_of_getElem? (i := 26) (by decide +kernel))
theorem rv_10_3 {s : PS} (h : Lay s) : fv s 11 10 3 = .ref 29 := by
  show va_rf (mr s 10 3) = _
  rw [mr_10_3 h]
  rfl
theorem mr_38_0 {s : PS} (h : Lay s) : mr s 38 0 = some 39 := h.2 (38, 0, 39) (List.mem_of_getElem? (i := 27) (by decide +kernel))
theorem rv_38_0 {s : PS} (h : Lay s) : fv s 0 38 0 = .ref 39 := by
  show va_rf (mr s 38 0) = _
  rw [mr_38_0 h]
  rfl
theorem mr_10_4 {s : PS} (h : Lay s) : mr s 10 4 = some 38 := h.2 (10, 4, 38) (List.mem_of_getElem? (i := 28) (by decide +kernel))
theorem rv_10_4 {s : PS} (h : Lay s) : fv s 11 10 4 = .ref 38 := by
  show va_rf (mr s 10 4) = _
  rw [mr_10_4 h]
  rfl
theorem mr_81_1 {s : PS} (h : Lay s) : mr s 81 1 = some 82 := h.2 (81, 1, 82) (List.mem_of_getElem? (i := 29) (by decide +kernel))
theorem rv_81_1 {s : PS} (h : Lay s) : fv s 3 81 1 = .ref 82 := by
  show va_rf (mr s 81 1) = _
  rw [mr_81_1 h]
  rfl
theorem mr_81_2 {s : PS} (h : Lay s) : mr s 81 2 = some 83 := h.2 (81, 2, 83) (List.mem_of_getElem? (i := 30) (by decide +kernel))
theorem rv_81_2 {s : PS} (h : Lay s) : fv s 3 81 2 = .ref 83 := by
  show va_rf (mr s 81 2) = _
  rw [mr_81_2 h]
  rfl
theorem mr_10_5 {s : PS} (h : Lay s) : mr s 10 5 = some 81 := h.2 (10, 5, 81) (List.mem_of_getElem? (i := 31) (by decide +kernel))
theorem rv_10_5 {s : PS} (h : Lay s) : fv s 11 10 5 = .ref 81 := by
  show va_rf (mr s 10 5) = _
  rw [mr_10_5 h]
  rfl
theorem mr_84_1 {s : PS} (h : Lay s) : mr s 84 1 = some 85 := h.2 (84, 1, 85) (List.mem_of_getElem? (i := 32) (by decide +kernel))
theorem rv_84_1 {s : PS} (h : Lay s) : fv s 3 84 1 = .ref 85 := by
  show va_rf (mr s 84 1) = _
  rw [mr_84_1 h]
  rfl
theorem mr_84_2 {s : PS} (h : Lay s) : mr s 84 2 = some 86 := h.2 (84, 2, 86) (List.mem_of_getElem? (i := 33) (by decide +kernel))
theorem rv_84_2 {s : PS} (h : Lay s) : fv s 3 84 2 = .ref 86 := by
  show va_rf (mr s 84 2) = _
  rw [mr_84_2 h]
  rfl
theorem mr_10_6 {s : PS} (h : Lay s) : mr s 10 6 = some 84 := h.2 (10, 6, 84) (List.mem_of_getElem? (i := 34) (by decide +kernel))
theorem rv_10_6 {s : PS} (h : Lay s) : fv s 11 10 6 = .ref 84 := by
  show va_rf (mr s 10 6) = _
  rw [mr_10_6 h]
  rfl
theorem mr_87_4 {s : PS} (h : Lay s) : mr s 87 4 = some 88 := h.2 (87, 4, 88) (List.mem_of_getElem? (i := 35) (by decide +kernel))
theorem rv_87_4 {s : PS} (h : Lay s) : fv s 5 87 4 = .ref 88 := by
  show va_rf (mr s 87 4) = _
  rw [mr_87_4 h]
  rfl
theorem mr_87_5 {s : PS} (h : Lay s) : mr s 87 5 = some 89 := h.2 (87, 5, 89) (List.mem_of_getElem? (i := 36) (by decide +kernel))
theorem rv_87_5 {s : PS} (h : Lay s) : fv s 5 87 5 = .ref 89 := by
  show va_rf (mr s 87 5) = _
  rw [mr_87_5 h]
  rfl
theorem mr_87_6 {s : PS} (h : Lay s) : mr s 87 6 = some 90 := h.2 (87, 6, 90) (List.mem_of_getElem? (i := 37) (by decide +kernel))
theorem rv_87_6 {s : PS} (h : Lay s) : fv s 5 87 6 = .ref 90 := by
  show va_rf (mr s 87 6) = _
  rw [mr_87_6 h]
  rfl
theorem mr_87_7 {s : PS} (h : Lay s) : mr s 87 7 = some 91 := h.2 (87, 7, 91) (List.mem_of_getElem? (i := 38) (by decide +kernel))
theorem rv_87_7 {s : PS} (h : Lay s) : fv s 5 87 7 = .ref 91 := by
  show va_rf (mr s 87 7) = _
  rw [mr_87_7 h]
  rfl
theorem mr_87_8 {s : PS} (h : Lay s) : mr s 87 8 = some 92 := h.2 (87, 8, 92) (List.mem_of_getElem? (i := 39) (by decide +kernel))
theorem rv_87_8 {s : PS} (h : Lay s) : fv s 5 87 8 = .ref 92 := by
  show va_rf (mr s 87 8) = _
  rw [mr_87_8 h]
  rfl
theorem mr_87_0 {s : PS} (h : Lay s) : mr s 87 0 = some 20 := h.2 (87, 0, 20) (List.mem_of_getElem? (i := 40) (by decide +kernel))
theorem rv_87_0 {s : PS} (h : Lay s) : fv s 5 87 0 = .ref 20 := by
  show va_rf (mr s 87 0) = _
  rw [mr_87_0 h]
  rfl
theorem mr_93_1 {s : PS} (h : Lay s) : mr s 93 1 = some 94 := h.2 (93, 1, 94) (List.mem_of_getElem? (i := 41) (by decide +kernel))
theorem rv_93_1 {s : PS} (h : Lay s) : fv s 3 93 1 = .ref 94 := by
  show va_rf (mr s 93 1) = _
  rw [mr_93_1 h]
  rfl
theorem mr_93_2 {s : PS} (h : Lay s) : mr s 93 2 = some 95 := h.2 (93, 2, 95) (List.mem_of_getElem? (i := 42) (by decide +kernel))
theorem rv_93_2 {s : PS} (h : Lay s) : fv s 3 93 2 = .ref 95 := by
  show va_rf (mr s 93 2) = _
  rw [mr_93_2 h]
  rfl
theorem mr_90_0 {s : PS} (h : Lay s) : mr s 90 0 = some 93 := h.2 (90, 0, 93) (List.mem_of_getElem? (i := 43) (by decide +kernel))
theorem mr_96_1 {s : PS} (h : Lay s) : mr s 96 1 = some 97 := h.2 (96, 1, 97) (List.mem_of_getElem? (i := 44) (by decide +kernel))
theorem rv_96_1 {s : PS} (h : Lay s) : fv s 3 96 1 = .ref 97 := by
  show va_rf (mr s 96 1) = _
  rw [mr_96_1 h]
  rfl
theorem mr_96_2 {s : PS} (h : Lay s) : mr s 96 2 = some 98 := h.2 (96, 2, 98) (List.mem_of_getElem? (i := 45) (by decide +kernel))
theorem rv_96_2 {s : PS} (h : Lay s) : fv s 3 96 2 = .ref 98 := by
  show va_rf (mr s 96 2) = _
  rw [mr_96_2 h]
  rfl
theorem mr_90_1 {s : PS} (h : Lay s) : mr s 90 1 = some 96 := h.2 (90, 1, 96) (List.mem_of_getElem? (i := 46) (by decide +kernel))
theorem mr_99_1 {s : PS} (h : Lay s) : mr s 99 1 = some 100 := h.2 (99, 1, 100) (List.mem_of_getElem? (i := 47) (by decide +kernel))
theorem rv_99_1 {s : PS} (h : Lay s) : fv s 3 99 1 = .ref 100 := by
  show va_rf (mr s 99 1) = _
  rw [mr_99_1 h]
  rfl
theorem mr_99_2 {s : PS} (h : Lay s) : mr s 99 2 = some 101 := h.2 (99, 2, 101) (List.mem_of_getElem? (i := 48) (by decide +kernel))
theorem rv_99_2 {s : PS} (h : Lay s) : fv s 3 99 2 = .ref 101 := by
  show va_rf (mr s 99 2) = _
  rw [mr_99_2 h]
  rfl
theorem mr_90_2 {s : PS} (h : Lay s) : mr s 90 2 = some 99 := h.2 (90, 2, 99) (List.mem_of_getElem? (i := 49) (by decide +kernel))
theorem mr_102_1 {s : PS} (h : Lay s) : mr s 102 1 = some 103 := h.2 (102, 1, 103) (List.mem_of_getElem? (i := 50) (by decide +kernel))
theorem rv_102_1 {s : PS} (h : Lay s) : fv s 3 102 1 = .ref 103 := by
  show va_rf (mr s 102 1) = _
  rw [mr_102_1 h]
  rfl
theorem mr_102_2 {s : PS} (h : Lay s) : mr s 102 2 = some 104 := h.2 (102, 2, 104) (List.mem_of_getElem? (i := 51) (by decide +kernel))
theorem rv_102_2 {s : PS} (h : Lay s) : fv s 3 102 2 = .ref 104 := by
  show va_rf (mr s 102 2) = _
  rw [mr_102_2 h]
  rfl
theorem mr_90_3 {s : PS} (h : Lay s) : mr s 90 3 = some 102 := h.2 (90, 3, 102) (List.mem_of_getElem? (i := 52) (by decide +kernel))
theorem mr_105_1 {s : PS} (h : Lay s) : mr s 105 1 = some 106 := h.2 (105, 1, 106) (List.mem_of_getElem? (i := 53) (by decide +kernel))
theorem rv_105_1 {s : PS} (h : Lay s) : fv s 3 105 1 = .ref 106 := by
  show va_rf (mr s 105 1) = _
  rw [mr_105_1 h]
  rfl
theorem mr_105_2 {s : PS} (h : Lay s) : mr s 105 2 = some 107 := h.2 (105, 2, 107) (List.mem_of_getElem? (i := 54) (by decide +kernel))
theorem rv_105_2 {s : PS} (h : Lay s) : fv s 3 105 2 = .ref 107 := by
  show va_rf (mr s 105 2) = _
  rw [mr_105_2 h]
  rfl
theorem mr_90_4 {s : PS} (h : Lay s) : mr s 90 4 = some 105 := h.2 (90, 4, 105) (List.mem_of_getElem? (i := 55) (by decide +kernel))
theorem mr_108_1 {s : PS} (h : Lay s) : mr s 108 1 = some 109 := h.2 (108, 1, 109) (List.mem_of_getElem? (i := 56) (by decide +kernel))
theorem rv_108_1 {s : PS} (h : Lay s) : fv s 3 108 1 = .ref 109 := by
  show va_rf (mr s 108 1) = _
  rw [mr_108_1 h]
  rfl
theorem mr_108_2 {s : PS} (h : Lay s) : mr s 108 2 = some 110 := h.2 (108, 2, 110) (List.mem_of_getElem? (i := 57) (by decide +kernel))
theorem rv_108_2 {s : PS} (h : Lay s) : fv s 3 108 2 = .ref 110 := by
  show va_rf (mr s 108 2) = _
  rw [mr_108_2 h]
  rfl
theorem mr_90_5 {s : PS} (h : Lay s) : mr s 90 5 = some 108 := h.2 (90, 5, 108) (List.mem_of_getElem? (i := 58) (by decide +kernel))
theorem mr_111_1 {s : PS} (h : Lay s) : mr s 111 1 = some 112 := h.2 (111, 1, 112) (List.mem_of_getElem? (i := 59) (by decide +kernel))
theorem rv_111_1 {s : PS} (h : Lay s) : fv s 3 111 1 = .ref 112 := by
  show va_rf (mr s 111 1) = _
  rw [mr_111_1 h]
  rfl
theorem mr_111_2 {s : PS} (h : Lay s) : mr s 111 2 = some 113 := h.2 (111, 2, 113) (List.mem_of_getElem? (i := 60) (by decide +kernel))
theorem rv_111_2 {s : PS} (h : Lay s) : fv s 3 111 2 = .ref 113 := by
  show va_rf (mr s 111 2) = _
  rw [mr_111_2 h]
  rfl
theorem mr_90_6 {s : PS} (h : Lay s) : mr s 90 6 = some 111 := h.2 (90, 6, 111) (List.mem_of_getElem? (i := 61) (by decide +kernel))
theorem mr_114_1 {s : PS} (h : Lay s) : mr s 114 1 = some 115 := h.2 (114, 1, 115) (List.mem_of_getElem? (i := 62) (by decide +kernel))
theorem rv_114_1 {s : PS} (h : Lay s) : fv s 3 114 1 = .ref 115 := by
  show va_rf (mr s 114 1) = _
  rw [mr_114_1 h]
  rfl
theorem mr_114_2 {s : PS} (h : Lay s) : mr s 114 2 = some 116 := h.2 (114, 2, 116) (List.mem_of_getElem? (i := 63) (by decide +kernel))
theorem rv_114_2 {s : PS} (h : Lay s) : fv s 3 114 2 = .ref 116 := by
  show va_rf (mr s 114 2) = _
  rw [mr_114_2 h]
  rfl
theorem mr_90_7 {s : PS} (h : Lay s) : mr s 90 7 = some 114 := h.2 (90, 7, 114) (List.mem_of_getElem? (i := 64) (by decide +kernel))
theorem mr_117_1 {s : PS} (h : Lay s) : mr s 117 1 = some 118 := h.2 (117, 1, 118) (List.mem_of_getElem? (i := 65) (by decide +kernel))
theorem rv_117_1 {s : PS} (h : Lay s) : fv s 3 117 1 = .ref 118 := by
  show va_rf (mr s 117 1) = _
  rw [mr_117_1 h]
  rfl
theorem mr_117_2 {s : PS} (h : Lay s) : mr s 117 2 = some 119 := h.2 (117, 2, 119) (List.mem_of_getElem? (i := 66) (by decide +kernel))
theorem rv_117_2 {s : PS} (h : Lay s) : fv s 3 117 2 = .ref 119 := by
  show va_rf (mr s 117 2) = _
  rw [mr_117_2 h]
  rfl
theorem mr_90_8 {s : PS} (h : Lay s) : mr s 90 8 = some 117 := h.2 (90, 8, 117) (List.mem_of_getElem? (i := 67) (by decide +kernel))
theorem mr_120_1 {s : PS} (h : Lay s) : mr s 120 1 = some 121 := h.2 (120, 1, 121) (List.mem_of_getElem? (i := 68) (by decide +kernel))
theorem rv_120_1 {s : PS} (h : Lay s) : fv s 3 120 1 = .ref 121 := by
  show va_rf (mr s 120 1) = _
  rw [mr_120_1 h]
  rfl
theorem mr_120_2 {s : PS} (h : Lay s) : mr s 120 2 = some 122 := h.2 (120, 2, 122) (List.mem_of_getElem? (i := 69) (by decide +kernel))
theorem rv_120_2 {s : PS} (h : Lay s) : fv s 3 120 2 = .ref 122 := by
  show va_rf (mr s 120 2) = _
  rw [mr_120_2 h]
  rfl
theorem mr_90_9 {s : PS} (h : Lay s) : mr s 90 9 = some 120 := h.2 (90, 9, 120) (List.mem_of_getElem? (i := 70) (by decide +kernel))
theorem mr_123_1 {s : PS} (h : Lay s) : mr s 123 1 = some 124 := h.2 (123, 1, 124) (List.mem_of_getElem? (i := 71) (by decide +kernel))
theorem rv_123_1 {s : PS} (h : Lay s) : fv s 3 123 1 = .ref 124 := by
  show va_rf (mr s 123 1) = _
  rw [mr_123_1 h]
  rfl
theorem mr_123_2 {s : PS} (h : Lay s) : mr s 123 2 = some 125 := h.2 (123, 2, 125) (List.mem_of_getElem? (i := 72) (by decide +kernel))
theorem rv_123_2 {s : PS} (h : Lay s) : fv s 3 123 2 = .ref 125 := by
  show va_rf (mr s 123 2) = _
  rw [mr_123_2 h]
  rfl
theorem mr_90_10 {s : PS} (h : Lay s) : mr s 90 10 = some 123 := h.2 (90, 10, 123) (List.mem_of_getElem? (i := 73) (by decide +kernel))
theorem mr_126_1 {s : PS} (h : Lay s) : mr s 126 1 = some 127 := h.2 (126, 1, 127) (List.mem_of_getElem? (i := 74) (by decide +kernel))
theorem rv_126_1 {s : PS} (h : Lay s) : fv s 3 126 1 = .ref 127 := by
  show va_rf (mr s 126 1) = _
  rw [mr_126_1 h]
  rfl
theorem mr_126_2 {s : PS} (h : Lay s) : mr s 126 2 = some 128 := h.2 (126, 2, 128) (List.mem_of_getElem? (i := 75) (by decide +kernel))
theorem rv_126_2 {s : PS} (h : Lay s) : fv s 3 126 2 = .ref 128 := by
  show va_rf (mr s 126 2) = _
  rw [mr_126_2 h]
  rfl
theorem mr_90_11 {s : PS} (h : Lay s) : mr s 90 11 = some 126 := h.2 (90, 11, 126) (List.mem_of_getElem? (i := 76) (by decide +kernel))
theorem mr_10_7 {s : PS} (h : Lay s) : mr s 10 7 = some 87 := h.2 (10, 7, 87) (List.mem_of_getElem? (i := 77) (by decide +kernel))
theorem rv_10_7 {s : PS} (h : Lay s) : fv s 11 10 7 = .ref 87 := by
  show va_rf (mr s 10 7) = _
  rw [mr_10_7 h]
  rfl
theorem mr_129_1 {s : PS} (h : Lay s) : mr s 129 1 = some 130 := h.2 (129, 1, 130) (List.mem_of_getElem? (i := 78) (by decide +kernel))
theorem rv_129_1 {s : PS} (h : Lay s) : fv s 2 129 1 = .ref 130 := by
  show va_rf (mr s 129 1) = _
  rw [mr_129_1 h]
  rfl
theorem mr_129_2 {s : PS} (h : Lay s) : mr s 129 2 = some 131 := h.2 (129, 2, 131) (List.mem_of_getElem? (i := 79) (by decide +kernel))
theorem rv_129_2 {s : PS} (h : Lay s) : fv s 2 129 2 = .ref 131 := by
  show va_rf (mr s 129 2) = _
  rw [mr_129_2 h]
  rfl
theorem mr_129_3 {s : PS} (h : Lay s) : mr s 129 3 = some 132 := h.2 (129, 3, 132) (List.mem_of_getElem? (i := 80) (by decide +kernel))
theorem rv_129_3 {s : PS} (h : Lay s) : fv s 2 129 3 = .ref 132 := by
  show va_rf (mr s 129 3) = _
  rw [mr_129_3 h]
  rfl
theorem mr_10_8 {s : PS} (h : Lay s) : mr s 10 8 = some 129 := h.2 (10, 8, 129) (List.mem_of_getElem? (i := 81) (by decide +kernel))
theorem rv_10_8 {s : PS} (h : Lay s) : fv s 11 10 8 = .ref 129 := by
  show va_rf (mr s 10 8) = _
  rw [mr_10_8 h]
  rfl
theorem mr_134_1 {s : PS} (h : Lay s) : mr s 134 1 = some 135 := h.2 (134, 1, 135) (List.mem_of_getElem? (i := 82) (by decide +kernel))
theorem rv_134_1 {s : PS} (h : Lay s) : fv s 2 134 1 = .ref 135 := by
  show va_rf (mr s 134 1) = _
  rw [mr_134_1 h]
  rfl
theorem mr_134_2 {s : PS} (h : Lay s) : mr s 134 2 = some 136 := h.2 (134, 2, 136) (List.mem_of_getElem? (i := 83) (by decide +kernel))
theorem rv_134_2 {s : PS} (h : Lay s) : fv s 2 134 2 = .ref 136 := by
  show va_rf (mr s 134 2) = _
  rw [mr_134_2 h]
  rfl
theorem mr_134_3 {s : PS} (h : Lay s) : mr s 134 3 = some 137 := h.2 (134, 3, 137) (List.mem_of_getElem? (i := 84) (by decide +kernel))
theorem rv_134_3 {s : PS} (h : Lay s) : fv s 2 134 3 = .ref 137 := by
  show va_rf (mr s 134 3) = _
  rw [mr_134_3 h]
  rfl
theorem mr_133_2 {s : PS} (h : Lay s) : mr s 133 2 = some 134 := h.2 (133, 2, 134) (List.mem_of_getElem? (i := 85) (by decide +kernel))
theorem rv_133_2 {s : PS} (h : Lay s) : fv s 1 133 2 = .ref 134 := by
  show va_rf (mr s 133 2) = _
  rw [mr_133_2 h]
  rfl
theorem mr_133_3 {s : PS} (h : Lay s) : mr s 133 3 = some 138 := h.2 (133, 3, 138) (List.mem_of_getElem? (i := 86) (by decide +kernel))
theorem rv_133_3 {s : PS} (h : Lay s) : fv s 1 133 3 = .ref 138 := by
  show va_rf (mr s 133 3) = _
  rw [mr_133_3 h]
  rfl
theorem mr_133_4 {s : PS} (h : Lay s) : mr s 133 4 = some 139 := h.2 (133, 4, 139) (List.mem_of_getElem? (i := 87) (by decide +kernel))
theorem rv_133_4 {s : PS} (h : Lay s) : fv s 1 133 4 = .ref 139 := by
  show va_rf (mr s 133 4) = _
  rw [mr_133_4 h]
  rfl
theorem mr_133_5 {s : PS} (h : Lay s) : mr s 133 5 = some 140 := h.2 (133, 5, 140) (List.mem_of_getElem? (i := 88) (by decide +kernel))
theorem rv_133_5 {s : PS} (h : Lay s) : fv s 1 133 5 = .ref 140 := by
  show va_rf (mr s 133 5) = _
  rw [mr_133_5 h]
  rfl
theorem mr_133_6 {s : PS} (h : Lay s) : mr s 133 6 = some 141 := h.2 (133, 6, 141) (List.mem_of_getElem? (i := 89) (by decide +kernel))
theorem rv_133_6 {s : PS} (h : Lay s) : fv s 1 133 6 = .ref 141 := by
  show va_rf (mr s 133 6) = _
  rw [mr_133_6 h]
  rfl
theorem mr_133_7 {s : PS} (h : Lay s) : mr s 133 7 = some 142 := h.2 (133, 7, 142) (List.mem_of_getElem? (i := 90) (by decide +kernel))
theorem rv_133_7 {s : PS} (h : Lay s) : fv s 1 133 7 = .ref 142 := by
  show va_rf (mr s 133 7) = _
  rw [mr_133_7 h]
  rfl
theorem mr_133_8 {s : PS} (h : Lay s) : mr s 133 8 = some 143 := h.2 (133, 8, 143) (List.mem_of_getElem? (i := 91) (by decide +kernel))
theorem rv_133_8 {s : PS} (h : Lay s) : fv s 1 133 8 = .ref 143 := by
  show va_rf (mr s 133 8) = _
  rw [mr_133_8 h]
  rfl
theorem mr_133_0 {s : PS} (h : Lay s) : mr s 133 0 = some 20 := h.2 (133, 0, 20) (List.mem_of_getElem? (i := 92) (by decide +kernel))
theorem rv_133_0 {s : PS} (h : Lay s) : fv s 1 133 0 = .ref 20 := by
  show va_rf (mr s 133 0) = _
  rw [mr_133_0 h]
  rfl
theorem mr_133_1 {s : PS} (h : Lay s) : mr s 133 1 = some 87 := h.2 (133, 1, 87) (List.mem_of_getElem? (i := 93) (by decide +kernel))
theorem rv_133_1 {s : PS} (h : Lay s) : fv s 1 133 1 = .ref 87 := by
  show va_rf (mr s 133 1) = _
  rw [mr_133_1 h]
  rfl
theorem mr_10_9 {s : PS} (h : Lay s) : mr s 10 9 = some 133 := h.2 (10, 9, 133) (List.mem_of_getElem? (i := 94) (by decide +kernel))
theorem rv_10_9 {s : PS} (h : Lay s) : fv s 11 10 9 = .ref 133 := by
  show va_rf (mr s 10 9) = _
  rw [mr_10_9 h]
  rfl
theorem mr_144_4 {s : PS} (h : Lay s) : mr s 144 4 = some 145 := h.2 (144, 4, 145) (List.mem_of_getElem? (i := 95) (by decide +kernel))
theorem rv_144_4 {s : PS} (h : Lay s) : fv s 10 144 4 = .ref 145 := by
  show va_rf (mr s 144 4) = _
  rw [mr_144_4 h]
  rfl
theorem mr_144_5 {s : PS} (h : Lay s) : mr s 144 5 = some 146 := h.2 (144, 5, 146) (List.mem_of_getElem? (i := 96) (by decide +kernel))
theorem rv_144_5 {s : PS} (h : Lay s) : fv s 10 144 5 = .ref 146 := by
  show va_rf (mr s 144 5) = _
  rw [mr_144_5 h]
  rfl
theorem mr_144_6 {s : PS} (h : Lay s) : mr s 144 6 = some 147 := h.2 (144, 6, 147) (List.mem_of_getElem? (i := 97) (by decide +kernel))
theorem rv_144_6 {s : PS} (h : Lay s) : fv s 10 144 6 = .ref 147 := by
  show va_rf (mr s 144 6) = _
  rw [mr_144_6 h]
  rfl
theorem mr_144_7 {s : PS} (h : Lay s) : mr s 144 7 = some 148 := h.2 (144, 7, 148) (List.mem_of_getElem? (i := 98) (by decide +kernel))
theorem rv_144_7 {s : PS} (h : Lay s) : fv s 10 144 7 = .ref 148 := by
  show va_rf (mr s 144 7) = _
  rw [mr_144_7 h]
  rfl
theorem mr_144_0 {s : PS} (h : Lay s) : mr s 144 0 = some 129 := h.2 (144, 0, 129) (List.mem_of_getElem? (i := 99) (by decide +kernel))
theorem rv_144_0 {s : PS} (h : Lay s) : fv s 10 144 0 = .ref 129 := by
  show va_rf (mr s 144 0) = _
  rw [mr_144_0 h]
  rfl
theorem mr_10_10 {s : PS} (h : Lay s) : mr s 10 10 = some 144 := h.2 (10, 10, 144) (List.mem_of_getElem? (i := 100) (by decide +kernel))
theorem rv_10_10 {s : PS} (h : Lay s) : fv s 11 10 10 = .ref 144 := by
  show va_rf (mr s 10 10) = _
  rw [mr_10_10 h]
  rfl
theorem mr_149_5 {s : PS} (h : Lay s) : mr s 149 5 = some 150 := h.2 (149, 5, 150) (List.mem_of_getElem? (i := 101) (by decide +kernel))
theorem rv_149_5 {s : PS} (h : Lay s) : fv s 9 149 5 = .ref 150 := by
  show va_rf (mr s 149 5) = _
  rw [mr_149_5 h]
  rfl
theorem mr_149_6 {s : PS} (h : Lay s) : mr s 149 6 = some 151 := h.2 (149, 6, 151) (List.mem_of_getElem? (i := 102) (by decide +kernel))
theorem rv_149_6 {s : PS} (h : Lay s) : fv s 9 149 6 = .ref 151 := by
  show va_rf (mr s 149 6) = _
  rw [mr_149_6 h]
  rfl
theorem mr_149_8 {s : PS} (h : Lay s) : mr s 149 8 = some 152 := h.2 (149, 8, 152) (List.mem_of_getElem? (i := 103) (by decide +kernel))
theorem rv_149_8 {s : PS} (h : Lay s) : fv s 9 149 8 = .ref 152 := by
  show va_rf (mr s 149 8) = _
  rw [mr_149_8 h]
  rfl
theorem mr_153_0 {s : PS} (h : Lay s) : mr s 153 0 = some 154 := h.2 (153, 0, 154) (List.mem_of_getElem? (i := 104) (by decide +kernel))
theorem mr_153_1 {s : PS} (h : Lay s) : mr s 153 1 = some 155 := h.2 (153, 1, 155) (List.mem_of_getElem? (i := 105) (by decide +kernel))
theorem mr_153_2 {s : PS} (h : Lay s) : mr s 153 2 = some 156 := h.2 (153, 2, 156) (List.mem_of_getElem? (i := 106) (by decide +kernel))
theorem mr_153_3 {s : PS} (h : Lay s) : mr s 153 3 = some 157 := h.2 (153, 3, 157) (List.mem_of_getElem? (i := 107) (by decide +kernel))
theorem mr_153_4 {s : PS} (h : Lay s) : mr s 153 4 = some 158 := h.2 (153, 4, 158) (List.mem_of_getElem? (i := 108) (by decide +kernel))
theorem mr_153_5 {s : PS} (h : Lay s) : mr s 153 5 = some 159 := h.2 (153, 5, 159) (List.mem_of_getElem? (i := 109) (by decide +kernel))
theorem mr_153_6 {s : PS} (h : Lay s) : mr s 153 6 = some 160 := h.2 (153, 6, 160) (List.mem_of_getElem? (i := 110) (by decide +kernel))
theorem mr_153_7 {s : PS} (h : Lay s) : mr s 153 7 = some 161 := h.2 (153, 7, 161) (List.mem_of_getElem? (i := 111) (by decide +kernel))
theorem mr_149_9 {s : PS} (h : Lay s) : mr s 149 9 = some 153 := h.2 (149, 9, 153) (List.mem_of_getElem? (i := 112) (by decide +kernel))
theorem rv_149_9 {s : PS} (h : Lay s) : fv s 9 149 9 = .ref 153 := by
  show va_rf (mr s 149 9) = _
  rw [mr_149_9 h]
  rfl
theorem mr_149_10 {s : PS} (h : Lay s) : mr s 149 10 = some 162 := h.2 (149, 10, 162) (List.mem_of_getElem? (i := 113) (by decide +kernel))
theorem rv_149_10 {s : PS} (h : Lay s) : fv s 9 149 10 = .ref 162 := by
  show va_rf (mr s 149 10) = _
  rw [mr_149_10 h]
  rfl
theorem mr_149_11 {s : PS} (h : Lay s) : mr s 149 11 = some 163 := h.2 (149, 11, 163) (List.mem_of_getElem? (i := 114) (by decide +kernel))
theorem rv_149_11 {s : PS} (h : Lay s) : fv s 9 149 11 = .ref 163 := by
  show va_rf (mr s 149 11) = _
  rw [mr_149_11 h]
  rfl
theorem mr_149_12 {s : PS} (h : Lay s) : mr s 149 12 = some 164 := h.2 (149, 12, 164) (List.mem_of_getElem? (i := 115) (by decide +kernel))
theorem rv_149_12 {s : PS} (h : Lay s) : fv s 9 149 12 = .ref 164 := by
  show va_rf (mr s 149 12) = _
  rw [mr_149_12 h]
  rfl
theorem mr_149_13 {s : PS} (h : Lay s) : mr s 149 13 = some 165 := h.2 (149, 13, 165) (List.mem_of_getElem? (i := 116) (by decide +kernel))
theorem rv_149_13 {s : PS} (h : Lay s) : fv s 9 149 13 = .ref 165 := by
  show va_rf (mr s 149 13) = _
  rw [mr_149_13 h]
  rfl
theorem mr_149_15 {s : PS} (h : Lay s) : mr s 149 15 = some 166 := h.2 (149, 15, 166) (List.mem_of_getElem? (i := 117) (by decide +kernel))
theorem rv_149_15 {s : PS} (h : Lay s) : fv s 9 149 15 = .ref 166 := by
  show va_rf (mr s 149 15) = _
  rw [mr_149_15 h]
  rfl
theorem mr_149_0 {s : PS} (h : Lay s) : mr s 149 0 = some 129 := h.2 (149, 0, 129) (List.mem_of_getElem? (i := 118) (by decide +kernel))
theorem rv_149_0 {s : PS} (h : Lay s) : fv s 9 149 0 = .ref 129 := by
  show va_rf (mr s 149 0) = _
  rw [mr_149_0 h]
  rfl
theorem mr_10_11 {s : PS} (h : Lay s) : mr s 10 11 = some 149 := h.2 (10, 11, 149) (List.mem_of_getElem? (i := 119) (by decide +kernel))
theorem rv_10_11 {s : PS} (h : Lay s) : fv s 11 10 11 = .ref 149 := by
  show va_rf (mr s 10 11) = _
  rw [mr_10_11 h]
  rfl
theorem mr_167_0 {s : PS} (h : Lay s) : mr s 167 0 = some 168 := h.2 (167, 0, 168) (List.mem_of_getElem? (i := 120) (by decide +kernel))
theorem rv_167_0 {s : PS} (h : Lay s) : fv s 6 167 0 = .ref 168 := by
  show va_rf (mr s 167 0) = _
  rw [mr_167_0 h]
  rfl
theorem mr_169_0 {s : PS} (h : Lay s) : mr s 169 0 = some 170 := h.2 (169, 0, 170) (List.mem_of_getElem? (i := 121) (by decide +kernel))
theorem mr_169_1 {s : PS} (h : Lay s) : mr s 169 1 = some 171 := h.2 (169, 1, 171) (List.mem_of_getElem? (i := 122) (by decide +kernel))
theorem mr_169_2 {s : PS} (h : Lay s) : mr s 169 2 = some 172 := h.2 (169, 2, 172) (List.mem_of_getElem? (i := 123) (by decide +kernel))
theorem mr_169_3 {s : PS} (h : Lay s) : mr s 169 3 = some 173 := h.2 (169, 3, 173) (List.mem_of_getElem? (i := 124) (by decide +kernel))
theorem mr_167_1 {s : PS} (h : Lay s) : mr s 167 1 = some 169 := h.2 (167, 1, 169) (List.mem_of_getElem? (i := 125) (by decide +kernel))
theorem rv_167_1 {s : PS} (h : Lay s) : fv s 6 167 1 = .ref 169 := by
  show va_rf (mr s 167 1) = _
  rw [mr_167_1 h]
  rfl
theorem mr_174_0 {s : PS} (h : Lay s) : mr s 174 0 = some 175 := h.2 (174, 0, 175) (List.mem_of_getElem? (i := 126) (by decide +kernel))
theorem mr_174_1 {s : PS} (h : Lay s) : mr s 174 1 = some 176 := h.2 (174, 1, 176) (List.mem_of_getElem? (i := 127) (by decide +kernel))
theorem mr_174_2 {s : PS} (h : Lay s) : mr s 174 2 = some 177 := h.2 (174, 2, 177) (List.mem_of_getElem? (i := 128) (by decide +kernel))
theorem mr_174_3 {s : PS} (h : Lay s) : mr s 174 3 = some 178 := h.2 (174, 3, 178) (List.mem_of_getElem? (i := 129) (by decide +kernel))
theorem mr_167_2 {s : PS} (h : Lay s) : mr s 167 2 = some 174 := h.2 (167, 2, 174) (List.mem_of_getElem? (i := 130) (by decide +kernel))
theorem rv_167_2 {s : PS} (h : Lay s) : fv s 6 167 2 = .ref 174 := by
  show va_rf (mr s 167 2) = _
  rw [mr_167_2 h]
  rfl
theorem mr_10_12 {s : PS} (h : Lay s) : mr s 10 12 = some 167 := h.2 (10, 12, 167) (List.mem_of_getElem? (i := 131) (by decide +kernel))
theorem rv_10_12 {s : PS} (h : Lay s) : fv s 11 10 12 = .ref 167 := by
  show va_rf (mr s 10 12) = _
  rw [mr_10_12 h]
  rfl
theorem mr_179_2 {s : PS} (h : Lay s) : mr s 179 2 = some 180 := h.2 (179, 2, 180) (List.mem_of_getElem? (i := 132) (by decide +kernel))
theorem rv_179_2 {s : PS} (h : Lay s) : fv s 12 179 2 = .ref 180 := by
  show va_rf (mr s 179 2) = _
  rw [mr_179_2 h]
  rfl
theorem mr_179_11 {s : PS} (h : Lay s) : mr s 179 11 = some 181 := h.2 (179, 11, 181) (List.mem_of_getElem? (i := 133) (by decide +kernel))
theorem rv_179_11 {s : PS} (h : Lay s) : fv s 12 179 11 = .ref 181 := by
  show va_rf (mr s 179 11) = _
  rw [mr_179_11 h]
  rfl
theorem mr_179_12 {s : PS} (h : Lay s) : mr s 179 12 = some 182 := h.2 (179, 12, 182) (List.mem_of_getElem? (i := 134) (by decide +kernel))
theorem rv_179_12 {s : PS} (h : Lay s) : fv s 12 179 12 = .ref 182 := by
  show va_rf (mr s 179 12) = _
  rw [mr_179_12 h]
  rfl
theorem mr_179_13 {s : PS} (h : Lay s) : mr s 179 13 = some 183 := h.2 (179, 13, 183) (List.mem_of_getElem? (i := 135) (by decide +kernel))
theorem rv_179_13 {s : PS} (h : Lay s) : fv s 12 179 13 = .ref 183 := by
  show va_rf (mr s 179 13) = _
  rw [mr_179_13 h]
  rfl
theorem mr_179_14 {s : PS} (h : Lay s) : mr s 179 14 = some 184 := h.2 (179, 14, 184) (List.mem_of_getElem? (i := 136) (by decide +kernel))
theorem rv_179_14 {s : PS} (h : Lay s) : fv s 12 179 14 = .ref 184 := by
  show va_rf (mr s 179 14) = _
  rw [mr_179_14 h]
  rfl
theorem mr_179_15 {s : PS} (h : Lay s) : mr s 179 15 = some 185 := h.2 (179, 15, 185) (List.mem_of_getElem? (i := 137) (by decide +kernel))
theorem rv_179_15 {s : PS} (h : Lay s) : fv s 12 179 15 = .ref 185 := by
  show va_rf (mr s 179 15) = _
  rw [mr_179_15 h]
  rfl
theorem mr_179_16 {s : PS} (h : Lay s) : mr s 179 16 = some 186 := h.2 (179, 16, 186) (List.mem_of_getElem? (i := 138) (by decide +kernel))
theorem rv_179_16 {s : PS} (h : Lay s) : fv s 12 179 16 = .ref 186 := by
  show va_rf (mr s 179 16) = _
  rw [mr_179_16 h]
  rfl
theorem mr_179_17 {s : PS} (h : Lay s) : mr s 179 17 = some 187 := h.2 (179, 17, 187) (List.mem_of_getElem? (i := 139) (by decide +kernel))
theorem rv_179_17 {s : PS} (h : Lay s) : fv s 12 179 17 = .ref 187 := by
  show va_rf (mr s 179 17) = _
  rw [mr_179_17 h]
  rfl
theorem mr_179_18 {s : PS} (h : Lay s) : mr s 179 18 = some 188 := h.2 (179, 18, 188) (List.mem_of_getElem? (i := 140) (by decide +kernel))
theorem rv_179_18 {s : PS} (h : Lay s) : fv s 12 179 18 = .ref 188 := by
  show va_rf (mr s 179 18) = _
  rw [mr_179_18 h]
  rfl
theorem mr_179_19 {s : PS} (h : Lay s) : mr s 179 19 = some 189 := h.2 (179, 19, 189) (List.mem_of_getElem? (i := 141) (by decide +kernel))
theorem rv_179_19 {s : PS} (h : Lay s) : fv s 12 179 19 = .ref 189 := by
  show va_rf (mr s 179 19) = _
  rw [mr_179_19 h]
  rfl
theorem mr_179_22 {s : PS} (h : Lay s) : mr s 179 22 = some 190 := h.2 (179, 22, 190) (List.mem_of_getElem? (i := 142) (by decide +kernel))
theorem rv_179_22 {s : PS} (h : Lay s) : fv s 12 179 22 = .ref 190 := by
  show va_rf (mr s 179 22) = _
  rw [mr_179_22 h]
  rfl
theorem mr_179_23 {s : PS} (h : Lay s) : mr s 179 23 = some 191 := h.2 (179, 23, 191) (List.mem_of_getElem? (i := 143) (by decide +kernel))
theorem rv_179_23 {s : PS} (h : Lay s) : fv s 12 179 23 = .ref 191 := by
  show va_rf (mr s 179 23) = _
  rw [mr_179_23 h]
  rfl
theorem mr_179_24 {s : PS} (h : Lay s) : mr s 179 24 = some 192 := h.2 (179, 24, 192) (List.mem_of_getElem? (i := 144) (by decide +kernel))
theorem rv_179_24 {s : PS} (h : Lay s) : fv s 12 179 24 = .ref 192 := by
  show va_rf (mr s 179 24) = _
  rw [mr_179_24 h]
  rfl
theorem mr_179_25 {s : PS} (h : Lay s) : mr s 179 25 = some 193 := h.2 (179, 25, 193) (List.mem_of_getElem? (i := 145) (by decide +kernel))
theorem rv_179_25 {s : PS} (h : Lay s) : fv s 12 179 25 = .ref 193 := by
  show va_rf (mr s 179 25) = _
  rw [mr_179_25 h]
  rfl
theorem mr_179_26 {s : PS} (h : Lay s) : mr s 179 26 = some 194 := h.2 (179, 26, 194) (List.mem_of_getElem? (i := 146) (by decide +kernel))
theorem rv_179_26 {s : PS} (h : Lay s) : fv s 12 179 26 = .ref 194 := by
  show va_rf (mr s 179 26) = _
  rw [mr_179_26 h]
  rfl
theorem mr_179_27 {s : PS} (h : Lay s) : mr s 179 27 = some 195 := h.2 (179, 27, 195) (List.mem_of_getElem? (i := 147) (by decide +kernel))
theorem rv_179_27 {s : PS} (h : Lay s) : fv s 12 179 27 = .ref 195 := by
  show va_rf (mr s 179 27) = _
  rw [mr_179_27 h]
  rfl
theorem mr_179_28 {s : PS} (h : Lay s) : mr s 179 28 = some 196 := h.2 (179, 28, 196) (List.mem_of_getElem? (i := 148) (by decide +kernel))
theorem rv_179_28 {s : PS} (h : Lay s) : fv s 12 179 28 = .ref 196 := by
  show va_rf (mr s 179 28) = _
  rw [mr_179_28 h]
  rfl
theorem mr_179_29 {s : PS} (h : Lay s) : mr s 179 29 = some 197 := h.2 (179, 29, 197) (List.mem_of_getElem? (i := 149) (by decide +kernel))
theorem rv_179_29 {s : PS} (h : Lay s) : fv s 12 179 29 = .ref 197 := by
  show va_rf (mr s 179 29) = _
  rw [mr_179_29 h]
  rfl
theorem mr_179_30 {s : PS} (h : Lay s) : mr s 179 30 = some 198 := h.2 (179, 30, 198) (List.mem_of_getElem? (i := 150) (by decide +kernel))
theorem rv_179_30 {s : PS} (h : Lay s) : fv s 12 179 30 = .ref 198 := by
  show va_rf (mr s 179 30) = _
  rw [mr_179_30 h]
  rfl
theorem mr_179_31 {s : PS} (h : Lay s) : mr s 179 31 = some 199 := h.2 (179, 31, 199) (List.mem_of_getElem? (i := 151) (by decide +kernel))
theorem rv_179_31 {s : PS} (h : Lay s) : fv s 12 179 31 = .ref 199 := by
  show va_rf (mr s 179 31) = _
  rw [mr_179_31 h]
  rfl
theorem mr_179_33 {s : PS} (h : Lay s) : mr s 179 33 = some 200 := h.2 (179, 33, 200) (List.mem_of_getElem? (i := 152) (by decide +kernel))
theorem rv_179_33 {s : PS} (h : Lay s) : fv s 12 179 33 = .ref 200 := by
  show va_rf (mr s 179 33) = _
  rw [mr_179_33 h]
  rfl
theorem mr_179_36 {s : PS} (h : Lay s) : mr s 179 36 = some 201 := h.2 (179, 36, 201) (List.mem_of_getElem? (i := 153) (by decide +kernel))
theorem rv_179_36 {s : PS} (h : Lay s) : fv s 12 179 36 = .ref 201 := by
  show va_rf (mr s 179 36) = _
  rw [mr_179_36 h]
  rfl
theorem mr_179_37 {s : PS} (h : Lay s) : mr s 179 37 = some 202 := h.2 (179, 37, 202) (List.mem_of_getElem? (i := 154) (by decide +kernel))
theorem rv_179_37 {s : PS} (h : Lay s) : fv s 12 179 37 = .ref 202 := by
  show va_rf (mr s 179 37) = _
  rw [mr_179_37 h]
  rfl
theorem mr_179_39 {s : PS} (h : Lay s) : mr s 179 39 = some 203 := h.2 (179, 39, 203) (List.mem_of_getElem? (i := 155) (by decide +kernel))
theorem rv_179_39 {s : PS} (h : Lay s) : fv s 12 179 39 = .ref 203 := by
  show va_rf (mr s 179 39) = _
  rw [mr_179_39 h]
  rfl
theorem mr_179_40 {s : PS} (h : Lay s) : mr s 179 40 = some 204 := h.2 (179, 40, 204) (List.mem_of_getElem? (i := 156) (by decide +kernel))
theorem rv_179_40 {s : PS} (h : Lay s) : fv s 12 179 40 = .ref 204 := by
  show va_rf (mr s 179 40) = _
  rw [mr_179_40 h]
  rfl
theorem mr_179_41 {s : PS} (h : Lay s) : mr s 179 41 = some 205 := h.2 (179, 41, 205) (List.mem_of_getElem? (i := 157) (by decide +kernel))
theorem rv_179_41 {s : PS} (h : Lay s) : fv s 12 179 41 = .ref 205 := by
  show va_rf (mr s 179 41) = _
  rw [mr_179_41 h]
  rfl
theorem mr_179_42 {s : PS} (h : Lay s) : mr s 179 42 = some 206 := h.2 (179, 42, 206) (List.mem_of_getElem? (i := 158) (by decide +kernel))
theorem rv_179_42 {s : PS} (h : Lay s) : fv s 12 179 42 = .ref 206 := by
  show va_rf (mr s 179 42) = _
  rw [mr_179_42 h]
  rfl
theorem mr_179_43 {s : PS} (h : Lay s) : mr s 179 43 = some 207 := h.2 (179, 43, 207) (List.mem_of_getElem? (i := 159) (by decide +kernel))
theorem rv_179_43 {s : PS} (h : Lay s) : fv s 12 179 43 = .ref 207 := by
  show va_rf (mr s 179 43) = _
  rw [mr_179_43 h]
  rfl
theorem mr_179_44 {s : PS} (h : Lay s) : mr s 179 44 = some 208 := h.2 (179, 44, 208) (List.mem_of_getElem? (i := 160) (by decide +kernel))
theorem rv_179_44 {s : PS} (h : Lay s) : fv s 12 179 44 = .ref 208 := by
  show va_rf (mr s 179 44) = _
  rw [mr_179_44 h]
  rfl
theorem mr_179_45 {s : PS} (h : Lay s) : mr s 179 45 = some 209 := h.2 (179, 45, 209) (List.mem_of_getElem? (i := 161) (by decide +kernel))
theorem rv_179_45 {s : PS} (h : Lay s) : fv s 12 179 45 = .ref 209 := by
  show va_rf (mr s 179 45) = _
  rw [mr_179_45 h]
  rfl
theorem mr_179_46 {s : PS} (h : Lay s) : mr s 179 46 = some 210 := h.2 (179, 46, 210) (List.mem_of_getElem? (i := 162) (by decide +kernel))
theorem rv_179_46 {s : PS} (h : Lay s) : fv s 12 179 46 = .ref 210 := by
  show va_rf (mr s 179 46) = _
  rw [mr_179_46 h]
  rfl
theorem mr_179_49 {s : PS} (h : Lay s) : mr s 179 49 = some 211 := h.2 (179, 49, 211) (List.mem_of_getElem? (i := 163) (by decide +kernel))
theorem rv_179_49 {s : PS} (h : Lay s) : fv s 12 179 49 = .ref 211 := by
  show va_rf (mr s 179 49) = _
  rw [mr_179_49 h]
  rfl
theorem mr_179_50 {s : PS} (h : Lay s) : mr s 179 50 = some 212 := h.2 (179, 50, 212) (List.mem_of_getElem? (i := 164) (by decide +kernel))
theorem rv_179_50 {s : PS} (h : Lay s) : fv s 12 179 50 = .ref 212 := by
  show va_rf (mr s 179 50) = _
  rw [mr_179_50 h]
  rfl
theorem mr_179_53 {s : PS} (h : Lay s) : mr s 179 53 = some 213 := h.2 (179, 53, 213) (List.mem_of_getElem? (i := 165) (by decide +kernel))
theorem rv_179_53 {s : PS} (h : Lay s) : fv s 12 179 53 = .ref 213 := by
  show va_rf (mr s 179 53) = _
  rw [mr_179_53 h]
  rfl
theorem mr_179_54 {s : PS} (h : Lay s) : mr s 179 54 = some 214 := h.2 (179, 54, 214) (List.mem_of_getElem? (i := 166) (by decide +kernel))
theorem rv_179_54 {s : PS} (h : Lay s) : fv s 12 179 54 = .ref 214 := by
  show va_rf (mr s 179 54) = _
  rw [mr_179_54 h]
  rfl
theorem mr_179_55 {s : PS} (h : Lay s) : mr s 179 55 = some 215 := h.2 (179, 55, 215) (List.mem_of_getElem? (i := 167) (by decide +kernel))
theorem rv_179_55 {s : PS} (h : Lay s) : fv s 12 179 55 = .ref 215 := by
  show va_rf (mr s 179 55) = _
  rw [mr_179_55 h]
  rfl
theorem mr_179_56 {s : PS} (h : Lay s) : mr s 179 56 = some 216 := h.2 (179, 56, 216) (List.mem_of_getElem? (i := 168) (by decide +kernel))
theorem rv_179_56 {s : PS} (h : Lay s) : fv s 12 179 56 = .ref 216 := by
  show va_rf (mr s 179 56) = _
  rw [mr_179_56 h]
  rfl
theorem mr_179_57 {s : PS} (h : Lay s) : mr s 179 57 = some 217 := h.2 (179, 57, 217) (List.mem_of_getElem? (i := 169) (by decide +kernel))
theorem rv_179_57 {s : PS} (h : Lay s) : fv s 12 179 57 = .ref 217 := by
  show va_rf (mr s 179 57) = _
  rw [mr_179_57 h]
  rfl
theorem mr_179_58 {s : PS} (h : Lay s) : mr s 179 58 = some 218 := h.2 (179, 58, 218) (List.mem_of_getElem? (i := 170) (by decide +kernel))
theorem rv_179_58 {s : PS} (h : Lay s) : fv s 12 179 58 = .ref 218 := by
  show va_rf (mr s 179 58) = _
  rw [mr_179_58 h]
  rfl
theorem mr_179_60 {s : PS} (h : Lay s) : mr s 179 60 = some 219 := h.2 (179, 60, 219) (List.mem_of_getElem? (i := 171) (by decide +kernel))
theorem rv_179_60 {s : PS} (h : Lay s) : fv s 12 179 60 = .ref 219 := by
  show va_rf (mr s 179 60) = _
  rw [mr_179_60 h]
  rfl
theorem mr_179_68 {s : PS} (h : Lay s) : mr s 179 68 = some 220 := h.2 (179, 68, 220) (List.mem_of_getElem? (i := 172) (by decide +kernel))
theorem rv_179_68 {s : PS} (h : Lay s) : fv s 12 179 68 = .ref 220 := by
  show va_rf (mr s 179 68) = _
  rw [mr_179_68 h]
  rfl
theorem mr_179_69 {s : PS} (h : Lay s) : mr s 179 69 = some 221 := h.2 (179, 69, 221) (List.mem_of_getElem? (i := 173) (by decide +kernel))
theorem rv_179_69 {s : PS} (h : Lay s) : fv s 12 179 69 = .ref 221 := by
  show va_rf (mr s 179 69) = _
  rw [mr_179_69 h]
  rfl
theorem mr_179_70 {s : PS} (h : Lay s) : mr s 179 70 = some 222 := h.2 (179, 70, 222) (List.mem_of_getElem? (i := 174) (by decide +kernel))
theorem rv_179_70 {s : PS} (h : Lay s) : fv s 12 179 70 = .ref 222 := by
  show va_rf (mr s 179 70) = _
  rw [mr_179_70 h]
  rfl
theorem mr_179_71 {s : PS} (h : Lay s) : mr s 179 71 = some 223 := h.2 (179, 71, 223) (List.mem_of_getElem? (i := 175) (by decide +kernel))
theorem rv_179_71 {s : PS} (h : Lay s) : fv s 12 179 71 = .ref 223 := by
  show va_rf (mr s 179 71) = _
  rw [mr_179_71 h]
  rfl
theorem mr_179_72 {s : PS} (h : Lay s) : mr s 179 72 = some 224 := h.2 (179, 72, 224) (List.mem_of_getElem? (i := 176) (by decide +kernel))
theorem rv_179_72 {s : PS} (h : Lay s) : fv s 12 179 72 = .ref 224 := by
  show va_rf (mr s 179 72) = _
  rw [mr_179_72 h]
  rfl
theorem mr_179_76 {s : PS} (h : Lay s) : mr s 179 76 = some 225 := h.2 (179, 76, 225) (List.mem_of_getElem? (i := 177) (by decide +kernel))
theorem rv_179_76 {s : PS} (h : Lay s) : fv s 12 179 76 = .ref 225 := by
  show va_rf (mr s 179 76) = _
  rw [mr_179_76 h]
  rfl
theorem mr_179_77 {s : PS} (h : Lay s) : mr s 179 77 = some 226 := h.2 (179, 77, 226) (List.mem_of_getElem? (i := 178) (by decide +kernel))
theorem rv_179_77 {s : PS} (h : Lay s) : fv s 12 179 77 = .ref 226 := by
  show va_rf (mr s 179 77) = _
  rw [mr_179_77 h]
  rfl
theorem mr_179_78 {s : PS} (h : Lay s) : mr s 179 78 = some 227 := h.2 (179, 78, 227) (List.mem_of_getElem? (i := 179) (by decide +kernel))
theorem rv_179_78 {s : PS} (h : Lay s) : fv s 12 179 78 = .ref 227 := by
  show va_rf (mr s 179 78) = _
  rw [mr_179_78 h]
  rfl
theorem mr_179_79 {s : PS} (h : Lay s) : mr s 179 79 = some 228 := h.2 (179, 79, 228) (List.mem_of_getElem? (i := 180) (by decide +kernel))
theorem rv_179_79 {s : PS} (h : Lay s) : fv s 12 179 79 = .ref 228 := by
  show va_rf (mr s 179 79) = _
  rw [mr_179_79 h]
  rfl
theorem mr_179_80 {s : PS} (h : Lay s) : mr s 179 80 = some 229 := h.2 (179, 80, 229) (List.mem_of_getElem? (i := 181) (by decide +kernel))
theorem rv_179_80 {s : PS} (h : Lay s) : fv s 12 179 80 = .ref 229 := by
  show va_rf (mr s 179 80) = _
  rw [mr_179_80 h]
  rfl
theorem mr_179_81 {s : PS} (h : Lay s) : mr s 179 81 = some 230 := h.2 (179, 81, 230) (List.mem_of_getElem? (i := 182) (by decide +kernel))
theorem rv_179_81 {s : PS} (h : Lay s) : fv s 12 179 81 = .ref 230 := by
  show va_rf (mr s 179 81) = _
  rw [mr_179_81 h]
  rfl
theorem mr_179_82 {s : PS} (h : Lay s) : mr s 179 82 = some 231 := h.2 (179, 82, 231) (List.mem_of_getElem? (i := 183) (by decide +kernel))
theorem rv_179_82 {s : PS} (h : Lay s) : fv s 12 179 82 = .ref 231 := by
  show va_rf (mr s 179 82) = _
  rw [mr_179_82 h]
  rfl
theorem mr_179_83 {s : PS} (h : Lay s) : mr s 179 83 = some 232 := h.2 (179, 83, 232) (List.mem_of_getElem? (i := 184) (by decide +kernel))
theorem rv_179_83 {s : PS} (h : Lay s) : fv s 12 179 83 = .ref 232 := by
  show va_rf (mr s 179 83) = _
  rw [mr_179_83 h]
  rfl
theorem mr_179_84 {s : PS} (h : Lay s) : mr s 179 84 = some 233 := h.2 (179, 84, 233) (List.mem_of_getElem? (i := 185) (by decide +kernel))
theorem rv_179_84 {s : PS} (h : Lay s) : fv s 12 179 84 = .ref 233 := by
  show va_rf (mr s 179 84) = _
  rw [mr_179_84 h]
  rfl
def isC (o : Nat) : Prop := o ∈ [81, 84, 93, 96, 99, 102, 105, 108, 111, 114, 117, 120, 123, 126]
theorem kisC {s : PS} {o : Nat} (h : Lay s) (ho : isC o) : kd s o = some (.inl 3) := by
  unfold isC at ho
  simp only [List.mem_cons, List.not_mem_nil, or_false] at ho
  rcases ho with rfl | rfl | rfl | rfl | rfl | rfl | rfl | rfl | rfl | rfl | rfl | rfl | rfl | rfl
  · exact kd_81 h
  · exact kd_84 h
  · exact kd_93 h
  · exact kd_96 h
  · exact kd_99 h
  · exact kd_102 h
  · exact kd_105 h
  · exact kd_108 h
  · exact kd_111 h
  · exact kd_114 h
  · exact kd_117 h
  · exact kd_120 h
  · exact kd_123 h
  · exact kd_126 h
theorem kisC_1 {s : PS} {o : Nat} (h : Lay s) (ho : isC o) : kd s (o + 1) = some (.inr (0, 22)) := by
  unfold isC at ho
  simp only [List.mem_cons, List.not_mem_nil, or_false] at ho
  rcases ho with rfl | rfl | rfl | rfl | rfl | rfl | rfl | rfl | rfl | rfl | rfl | rfl | rfl | rfl
  · exact kd_82 h
  · exact kd_85 h
  · exact kd_94 h
  · exact kd_97 h
  · exact kd_100 h
  · exact kd_103 h
  · exact kd_106 h
  · exact kd_109 h
  · exact kd_112 h
  · exact kd_115 h
  · exact kd_118 h
  · exact kd_121 h
  · exact kd_124 h
  · exact kd_127 h
theorem risC_1 {s : PS} {o : Nat} (h : Lay s) (ho : isC o) : fv s 3 o 1 = .ref (o + 1) := by
  unfold isC at ho
  simp only [List.mem_cons, List.not_mem_nil, or_false] at ho
  rcases ho with rfl | rfl | rfl | rfl | rfl | rfl | rfl | rfl | rfl | rfl | rfl | rfl | rfl | rfl
  · exact rv_81_1 h
  · exact rv_84_1 h
  · exact rv_93_1 h
  · exact rv_96_1 h
  · exact rv_99_1 h
  · exact rv_102_1 h
  · exact rv_105_1 h
  · exact rv_108_1 h
  · exact rv_111_1 h
  · exact rv_114_1 h
  · exact rv_117_1 h
  · exact rv_120_1 h
  · exact rv_123_1 h
  · exact rv_126_1 h
theorem kisC_2 {s : PS} {o : Nat} (h : Lay s) (ho : isC o) : kd s (o + 2) = some (.inr (0, 22)) := by
  unfold isC at ho
  simp only [List.mem_cons, List.not_mem_nil, or_false] at ho
  rcases ho with rfl | rfl | rfl | rfl | rfl | rfl | rfl | rfl | rfl | rfl | rfl | rfl | rfl | rfl
  · exact kd_83 h
  · exact kd_86 h
  · exact kd_95 h
  · exact kd_98 h
  · exact kd_101 h
  · exact kd_104 h
  · exact kd_107 h
  · exact kd_110 h
  · exact kd_113 h
  · exact kd_116 h
  · exact kd_119 h
  · exact kd_122 h
  · exact kd_125 h
  · exact kd_128 h
theorem risC_2 {s : PS} {o : Nat} (h : Lay s) (ho : isC o) : fv s 3 o 2 = .ref (o + 2) := by
  unfold isC at ho
  simp only [List.mem_cons, List.not_mem_nil, or_false] at ho
  rcases ho with rfl | rfl | rfl | rfl | rfl | rfl | rfl | rfl | rfl | rfl | rfl | rfl | rfl | rfl
  · exact rv_81_2 h
  · exact rv_84_2 h
  · exact rv_93_2 h
  · exact rv_96_2 h
  · exact rv_99_2 h
  · exact rv_102_2 h
  · exact rv_105_2 h
  · exact rv_108_2 h
  · exact rv_111_2 h
  · exact rv_114_2 h
  · exact rv_117_2 h
  · exact rv_120_2 h
  · exact rv_123_2 h
  · exact rv_126_2 h
def isF (o : Nat) : Prop := o ∈ [20, 29]
theorem kisF {s : PS} {o : Nat} (h : Lay s) (ho : isF o) : kd s o = some (.inl 4) := by
  unfold isF at ho
  simp only [List.mem_cons, List.not_mem_nil, or_false] at ho
  rcases ho with rfl | rfl
  · exact kd_20 h
  · exact kd_29 h
theorem kisF_0 {s : PS} {o : Nat} (h : Lay s) (ho : isF o) : kd s (o + 1) = some (.inr (0, 16)) := by
  unfold isF at ho
  simp only [List.mem_cons, List.not_mem_nil, or_false] at ho
  rcases ho with rfl | rfl
  · exact kd_21 h
  · exact kd_30 h
theorem risF_0 {s : PS} {o : Nat} (h : Lay s) (ho : isF o) : fv s 4 o 0 = .ref (o + 1) := by
  unfold isF at ho
  simp only [List.mem_cons, List.not_mem_nil, or_false] at ho
  rcases ho with rfl | rfl
  · exact rv_20_0 h
  · exact rv_29_0 h
theorem kisF_1 {s : PS} {o : Nat} (h : Lay s) (ho : isF o) : kd s (o + 2) = some (.inr (0, 10)) := by
  unfold isF at ho
  simp only [List.mem_cons, List.not_mem_nil, or_false] at ho
  rcases ho with rfl | rfl
  · exact kd_22 h
  · exact kd_31 h
theorem risF_1 {s : PS} {o : Nat} (h : Lay s) (ho : isF o) : fv s 4 o 1 = .ref (o + 2) := by
  unfold isF at ho
  simp only [List.mem_cons, List.not_mem_nil, or_false] at ho
  rcases ho with rfl | rfl
  · exact rv_20_1 h
  · exact rv_29_1 h
theorem kisF_2 {s : PS} {o : Nat} (h : Lay s) (ho : isF o) : kd s (o + 3) = some (.inr (0, 10)) := by
  unfold isF at ho
  simp only [List.mem_cons, List.not_mem_nil, or_false] at ho
  rcases ho with rfl | rfl
  · exact kd_23 h
  · exact kd_32 h
theorem risF_2 {s : PS} {o : Nat} (h : Lay s) (ho : isF o) : fv s 4 o 2 = .ref (o + 3) := by
  unfold isF at ho
  simp only [List.mem_cons, List.not_mem_nil, or_false] at ho
  rcases ho with rfl | rfl
  · exact rv_20_2 h
  · exact rv_29_2 h
theorem kisF_4 {s : PS} {o : Nat} (h : Lay s) (ho : isF o) : kd s (o + 4) = some (.inr (0, 40)) := by
  unfold isF at ho
  simp only [List.mem_cons, List.not_mem_nil, or_false] at ho
  rcases ho with rfl | rfl
  · exact kd_24 h
  · exact kd_33 h
theorem risF_4 {s : PS} {o : Nat} (h : Lay s) (ho : isF o) : fv s 4 o 4 = .ref (o + 4) := by
  unfold isF at ho
  simp only [List.mem_cons, List.not_mem_nil, or_false] at ho
  rcases ho with rfl | rfl
  · exact rv_20_4 h
  · exact rv_29_4 h
theorem kisF_5 {s : PS} {o : Nat} (h : Lay s) (ho : isF o) : kd s (o + 5) = some (.inr (0, 40)) := by
  unfold isF at ho
  simp only [List.mem_cons, List.not_mem_nil, or_false] at ho
  rcases ho with rfl | rfl
  · exact kd_25 h
  · exact kd_34 h
theorem risF_5 {s : PS} {o : Nat} (h : Lay s) (ho : isF o) : fv s 4 o 5 = .ref (o + 5) := by
  unfold isF at ho
  simp only [List.mem_cons, List.not_mem_nil, or_false] at ho
  rcases ho with rfl | rfl
  · exact rv_20_5 h
  · exact rv_29_5 h
theorem kisF_7 {s : PS} {o : Nat} (h : Lay s) (ho : isF o) : kd s (o + 6) = some (.inr (0, 22)) := by
  unfold isF at ho
  simp only [List.mem_cons, List.not_mem_nil, or_false] at ho
  rcases ho with rfl | rfl
  · exact kd_26 h
  · exact kd_35 h
theorem risF_7 {s : PS} {o : Nat} (h : Lay s) (ho : isF o) : fv s 4 o 7 = .ref (o + 6) := by
  unfold isF at ho
  simp only [List.mem_cons, List.not_mem_nil, or_false] at ho
  rcases ho with rfl | rfl
  · exact rv_20_7 h
  · exact rv_29_7 h
theorem kisF_8 {s : PS} {o : Nat} (h : Lay s) (ho : isF o) : kd s (o + 7) = some (.inr (0, 22)) := by
  unfold isF at ho
  simp only [List.mem_cons, List.not_mem_nil, or_false] at ho
  rcases ho with rfl | rfl
  · exact kd_27 h
  · exact kd_36 h
theorem risF_8 {s : PS} {o : Nat} (h : Lay s) (ho : isF o) : fv s 4 o 8 = .ref (o + 7) := by
  unfold isF at ho
  simp only [List.mem_cons, List.not_mem_nil, or_false] at ho
  rcases ho with rfl | rfl
  · exact rv_20_8 h
  · exact rv_29_8 h
theorem kisF_9 {s : PS} {o : Nat} (h : Lay s) (ho : isF o) : kd s (o + 8) = some (.inr (0, 22)) := by
  unfold isF at ho
  simp only [List.mem_cons, List.not_mem_nil, or_false] at ho
  rcases ho with rfl | rfl
  · exact kd_28 h
  · exact kd_37 h
theorem risF_9 {s : PS} {o : Nat} (h : Lay s) (ho : isF o) : fv s 4 o 9 = .ref (o + 8) := by
  unfold isF at ho
  simp only [List.mem_cons, List.not_mem_nil, or_false] at ho
  rcases ho with rfl | rfl
  · exact rv_20_9 h
  · exact rv_29_9 h
def isB (o : Nat) : Prop := o ∈ [129, 134]
theorem kisB {s : PS} {o : Nat} (h : Lay s) (ho : isB o) : kd s o = some (.inl 2) := by
  unfold isB at ho
  simp only [List.mem_cons, List.not_mem_nil, or_false] at ho
  rcases ho with rfl | rfl
  · exact kd_129 h
  · exact kd_134 h
theorem kisB_1 {s : PS} {o : Nat} (h : Lay s) (ho : isB o) : kd s (o + 1) = some (.inr (0, 40)) := by
  unfold isB at ho
  simp only [List.mem_cons, List.not_mem_nil, or_false] at ho
  rcases ho with rfl | rfl
  · exact kd_130 h
  · exact kd_135 h
theorem risB_1 {s : PS} {o : Nat} (h : Lay s) (ho : isB o) : fv s 2 o 1 = .ref (o + 1) := by
  unfold isB at ho
  simp only [List.mem_cons, List.not_mem_nil, or_false] at ho
  rcases ho with rfl | rfl
  · exact rv_129_1 h
  · exact rv_134_1 h
theorem kisB_2 {s : PS} {o : Nat} (h : Lay s) (ho : isB o) : kd s (o + 2) = some (.inr (0, 40)) := by
  unfold isB at ho
  simp only [List.mem_cons, List.not_mem_nil, or_false] at ho
  rcases ho with rfl | rfl
  · exact kd_131 h
  · exact kd_136 h
theorem risB_2 {s : PS} {o : Nat} (h : Lay s) (ho : isB o) : fv s 2 o 2 = .ref (o + 2) := by
  unfold isB at ho
  simp only [List.mem_cons, List.not_mem_nil, or_false] at ho
  rcases ho with rfl | rfl
  · exact rv_129_2 h
  · exact rv_134_2 h
theorem kisB_3 {s : PS} {o : Nat} (h : Lay s) (ho : isB o) : kd s (o + 3) = some (.inr (0, 40)) := by
  unfold isB at ho
  simp only [List.mem_cons, List.not_mem_nil, or_false] at ho
  rcases ho with rfl | rfl
  · exact kd_132 h
  · exact kd_137 h
theorem risB_3 {s : PS} {o : Nat} (h : Lay s) (ho : isB o) : fv s 2 o 3 = .ref (o + 3) := by
  unfold isB at ho
  simp only [List.mem_cons, List.not_mem_nil, or_false] at ho
  rcases ho with rfl | rfl
  · exact rv_129_3 h
  · exact rv_134_3 h
theorem pn_0 : plainName RX0 = true := by decide +kernel
theorem pn_1 : plainName RX1 = true := by decide +kernel
theorem pn_2 : plainName RX2 = true := by decide +kernel
theorem pn_3 : plainName RX3 = true := by decide +kernel
theorem pn_4 : plainName RX4 = true := by decide +kernel
theorem pn_5 : plainName RX5 = true := by decide +kernel
theorem pn_6 : plainName RX6 = true := by decide +kernel
theorem pn_7 : plainName RX7 = true := by decide +kernel
theorem pn_8 : plainName RX8 = true := by decide +kernel
theorem pn_9 : plainName RX9 = true := by decide +kernel
theorem pn_10 : plainName RX10 = true := by decide +kernel
theorem pn_11 : plainName RX11 = true := by decide +kernel
theorem pn_12 : plainName RX12 = true := by decide +kernel
/-- fewer known locals -/
def maskL (L : List (Option Value)) (bs : List Bool) : List (Option Value) := List.zipWith (fun o b => if b then o else none) L bs
theorem LR.mask {g : GV} {ls : Array Slot} {nL : Nat} {L : List (Option Value)} (bs : List Bool) (h : LR g ls nL L) : LR g ls nL (maskL L bs) := by
  refine ⟨h.1, h.2.1, fun i v hi => h.2.2 i v ?_⟩
  unfold maskL at hi
  rw [List.getElem?_zipWith] at hi
  cases hL : L[i]? with
  | none => rw [hL] at hi; simp at hi
  | some x =>
    rw [hL] at hi
    cases hb : bs[i]? with
    | none => rw [hb] at hi; simp at hi
    | some b =>
      rw [hb] at hi
      cases b with
      | false => simp at hi
      | true => simpa using hi
theorem x_mask {g : GV} {Z : ZC} {own : String} {cc : ByteArray} {nL d mc ms k n pc : Nat} {L L1 : List (Option Value)} {st : List Value} {σ : PS} (bs : List Bool) (hm : maskL L bs = L1) (h : X g Z own cc nL d mc ms k n pc L1 st σ) : X g Z own cc nL d mc ms k n pc L st σ := by
  intro p e R s m args below meth c Q hZ hB hk hn H locs ls hR hS hL
  subst hm
  exact h p e R s m args below meth c Q hZ hB hk hn H locs ls hR hS (hL.mask bs)
theorem x_topi {g : GV} {Z : ZC} {own : String} {cc : ByteArray} {nL d mc ms k n pc : Nat} {L : List (Option Value)} {st : List Value} {σ : PS} {x : Int32} (h : ∀ y : Int32, y = x → X g Z own cc nL d mc ms k n pc L (.int y :: st) σ) : X g Z own cc nL d mc ms k n pc L (.int x :: st) σ := h x rfl
theorem x_topl {g : GV} {Z : ZC} {own : String} {cc : ByteArray} {nL d mc ms k n pc : Nat} {L : List (Option Value)} {st : List Value} {σ : PS} {x : Int64} (h : ∀ y : Int64, y = x → X g Z own cc nL d mc ms k n pc L (.long y :: st) σ) : X g Z own cc nL d mc ms k n pc L (.long x :: st) σ := h x rfl
theorem x_sto {g : GV} {Z : ZC} {own : String} {cc : ByteArray} {nL d mc ms k n pc : Nat} {L : List (Option Value)} {st : List Value} {σ : PS} (h : ∀ s : PS, s = σ → X g Z own cc nL d mc ms k n pc L st s) : X g Z own cc nL d mc ms k n pc L st σ := h σ rfl
theorem Met_imp {l : Launch} {y : MethodName} {ws : List Cond} {rm : Room} {Pc : Array Value → State → Prop} {g : GV} {P Q : Option Value → PS → Prop} {mc ms : Nat} {free : Addr → Prop} (h : Met l y ws rm Pc (QcG g P) mc ms free) (hi : ∀ r s, P r s → Q r s) : Met l y ws rm Pc (QcG g Q) mc ms free := by
  intro p e ha h1 h2 s m args below hf happ hP hK
  obtain ⟨n, o, a1, a2, a3, ⟨⟨⟨r, s1, e1, e2, e3⟩, e4⟩, e5⟩⟩ := h p e ha h1 h2 s m args below hf happ hP hK
  exact ⟨n, o, a1, a2, a3, ⟨⟨⟨r, s1, e1, e2, hi _ _ e3⟩, e4⟩, e5⟩⟩
theorem Ct.imp {g : GV} {y : MethodName} {cy : ByteArray} {nLy d mc ms : Nat} {ret : Option FieldType} {vs : List Value} {σ : PS} {P Q : Option Value → PS → Prop} (h : Ct g y cy nLy ret d mc ms vs σ P) (hi : ∀ r s, P r s → Q r s) : Ct g y cy nLy ret d mc ms vs σ Q :=
  Met_imp h hi
theorem nb01 {v : Int32} (h : v = 0 ∨ v = 1) : narrow .boolean (.int v) = .int v := by rcases h with rfl | rfl <;> rfl
theorem vpl (z : Nat) (i : Int32) (h : decide (0 ≤ i.toInt ∧ i.toInt < z) = true) : vp_in i z := vp_in_iff.mpr (of_decide_eq_true h)
/-- a switch's number beside all its places -/
theorem tab_out {x : Int32} {n : Nat} (hn : n < 2 ^ 31) (h : ∀ j, j ≤ n → ¬ x = nI j) : x.toInt < 0 ∨ (n : Int) < x.toInt := by
  rcases Int.lt_or_le x.toInt 0 with h0 | h0
  · exact Or.inl h0
  · refine Or.inr ?_
    rcases Int.lt_or_le (n : Int) x.toInt with h1 | h1
    · exact h1
    · exfalso
      have hx : x = nI x.toInt.toNat := by
        refine Int32.toInt_inj.mp ?_
        rw [nI_toInt (by omega)]
        omega
      exact h x.toInt.toNat (by omega) hx
