/-! ===== where the cells of the two objects lie: 1 the class's, 144 the reference's ===== -/
def SH0 : List qSh := [(9, 0), (6, 0), (2, 0), (20, 40), (1, 0), (20, 32), (20, 16), (6, 0), (2, 0), (20, 40), (1, 0), (20, 32), (20, 16), (3, 0), (23, 11), (6, 0), (2, 0), (20, 40), (1, 0), (20, 32), (20, 16), (6, 0), (2, 0), (20, 40), (1, 0), (20, 32), (20, 16), (6, 0), (2, 0), (20, 40), (1, 0), (20, 32), (20, 16), (6, 0), (2, 0), (20, 40), (1, 0), (20, 32), (20, 16), (6, 0), (2, 0), (20, 40), (1, 0), (20, 32), (20, 16), (6, 0), (2, 0), (20, 40), (1, 0), (20, 32), (20, 16), (6, 0), (2, 0), (20, 40), (1, 0), (20, 32), (20, 16), (6, 0), (2, 0), (20, 40), (1, 0), (20, 32), (20, 16), (6, 0), (2, 0), (20, 40), (1, 0), (20, 32), (20, 16), (6, 0), (2, 0), (20, 40), (1, 0), (20, 32), (20, 16), (6, 0), (2, 0), (20, 40), (1, 0), (20, 32), (20, 16), (8, 0), (2, 0), (20, 40), (20, 4), (7, 0), (20, 120), (0, 0), (5, 0), (20, 8), (20, 8), (2, 0), (20, 40), (20, 32), (24, 16), (21, 1024), (21, 1024), (21, 1024), (21, 1024), (21, 1024), (21, 1024), (21, 1024), (21, 1024), (21, 1024), (21, 1024), (21, 1024), (21, 1024), (21, 1024), (21, 1024), (21, 1024), (21, 1024), (0, 0), (5, 0), (20, 8), (20, 8), (2, 0), (20, 40), (20, 32), (24, 16), (21, 1024), (21, 1024), (21, 1024), (21, 1024), (21, 1024), (21, 1024), (21, 1024), (21, 1024), (21, 1024), (21, 1024), (21, 1024), (21, 1024), (21, 1024), (21, 1024), (21, 1024), (21, 1024), (4, 0), (20, 32), (21, 32), (2, 0), (20, 40), (1, 0), (20, 32), (20, 16), (10, 0), (20, 84), (20, 84), (20, 840), (20, 840), (20, 120), (20, 40), (20, 4), (20, 16), (20, 16), (21, 31744), (21, 31744), (22, 1024), (22, 1024), (20, 1024), (20, 10), (20, 16), (20, 84)]
def LT0 : List (Nat × Nat × Nat) := [(3, 3, 4), (2, 0, 3), (5, 5, 6), (5, 6, 7), (2, 1, 5), (1, 0, 2), (9, 3, 10), (8, 0, 9), (11, 5, 12), (11, 6, 13), (8, 1, 11), (1, 1, 8), (1, 2, 14), (14, 0, 15), (17, 3, 18), (16, 0, 17), (19, 5, 20), (19, 6, 21), (16, 1, 19), (23, 3, 24), (22, 0, 23), (25, 5, 26), (25, 6, 27), (22, 1, 25), (29, 3, 30), (28, 0, 29), (31, 5, 32), (31, 6, 33), (28, 1, 31), (35, 3, 36), (34, 0, 35), (37, 5, 38), (37, 6, 39), (34, 1, 37), (41, 3, 42), (40, 0, 41), (43, 5, 44), (43, 6, 45), (40, 1, 43), (47, 3, 48), (46, 0, 47), (49, 5, 50), (49, 6, 51), (46, 1, 49), (53, 3, 54), (52, 0, 53), (55, 5, 56), (55, 6, 57), (52, 1, 55), (59, 3, 60), (58, 0, 59), (61, 5, 62), (61, 6, 63), (58, 1, 61), (65, 3, 66), (64, 0, 65), (67, 5, 68), (67, 6, 69), (64, 1, 67), (71, 3, 72), (70, 0, 71), (73, 5, 74), (73, 6, 75), (70, 1, 73), (77, 3, 78), (76, 0, 77), (79, 5, 80), (79, 6, 81), (76, 1, 79), (1, 3, 82), (83, 3, 84), (82, 0, 83), (82, 1, 85), (86, 0, 87), (82, 2, 86), (89, 3, 90), (89, 4, 91), (88, 0, 89), (92, 3, 93), (88, 1, 92), (88, 8, 94), (95, 0, 96), (95, 1, 97), (95, 2, 98), (95, 3, 99), (95, 4, 100), (95, 5, 101), (95, 6, 102), (95, 7, 103), (95, 8, 104), (95, 9, 105), (95, 10, 106), (95, 11, 107), (95, 12, 108), (95, 13, 109), (95, 14, 110), (95, 15, 111), (88, 9, 95), (1, 4, 88), (113, 3, 114), (113, 4, 115), (112, 0, 113), (116, 3, 117), (112, 1, 116), (112, 8, 118), (119, 0, 120), (119, 1, 121), (119, 2, 122), (119, 3, 123), (119, 4, 124), (119, 5, 125), (119, 6, 126), (119, 7, 127), (119, 8, 128), (119, 9, 129), (119, 10, 130), (119, 11, 131), (119, 12, 132), (119, 13, 133), (119, 14, 134), (119, 15, 135), (112, 9, 119), (1, 5, 112), (1, 6, 136), (136, 0, 137), (136, 1, 138), (139, 3, 140), (1, 7, 139), (141, 5, 142), (141, 6, 143), (1, 8, 141), (144, 0, 145), (144, 1, 146), (144, 2, 147), (144, 3, 148), (144, 7, 149), (144, 8, 150), (144, 9, 151), (144, 13, 152), (144, 14, 153), (144, 15, 154), (144, 16, 155), (144, 18, 156), (144, 19, 157), (144, 20, 158), (144, 21, 159), (144, 26, 160), (144, 27, 161)]
/-- the references that never change -/
def LAY (P : qMP) : Prop := ∀ q, q ∈ LT0 → P q.1 q.2.1 = q.2.2
theorem ly_3_3 {P : qMP} (h : LAY P) : P 3 3 = 4 := h (3, 3, 4) (List.mem_of_getElem? (i := 0) rfl)
theorem ly_2_0 {P : qMP} (h : LAY P) : P 2 0 = 3 := h (2, 0, 3) (List.mem_of_getElem? (i := 1) rfl)
theorem ly_5_5 {P : qMP} (h : LAY P) : P 5 5 = 6 := h (5, 5, 6) (List.mem_of_getElem? (i := 2) rfl)
theorem ly_5_6 {P : qMP} (h : LAY P) : P 5 6 = 7 := h (5, 6, 7) (List.mem_of_getElem? (i := 3) rfl)
theorem ly_2_1 {P : qMP} (h : LAY P) : P 2 1 = 5 := h (2, 1, 5) (List.mem_of_getElem? (i := 4) rfl)
theorem ly_1_0 {P : qMP} (h : LAY P) : P 1 0 = 2 := h (1, 0, 2) (List.mem_of_getElem? (i := 5) rfl)
theorem ly_9_3 {P : qMP} (h : LAY P) : P 9 3 = 10 := h (9, 3, 10) (List.mem_of_getElem? (i := 6) rfl)
theorem ly_8_0 {P : qMP} (h : LAY P) : P 8 0 = 9 := h (8, 0, 9) (List.mem_of_getElem? (i := 7) rfl)
theorem ly_11_5 {P : qMP} (h : LAY P) : P 11 5 = 12 := h (11, 5, 12) (List.mem_of_getElem? (i := 8) rfl)
theorem ly_11_6 {P : qMP} (h : LAY P) : P 11 6 = 13 := h (11, 6, 13) (List.mem_of_getElem? (i := 9) rfl)
theorem ly_8_1 {P : qMP} (h : LAY P) : P 8 1 = 11 := h (8, 1, 11) (List.mem_of_getElem? (i := 10) rfl)
theorem ly_1_1 {P : qMP} (h : LAY P) : P 1 1 = 8 := h (1, 1, 8) (List.mem_of_getElem? (i := 11) rfl)
theorem ly_1_2 {P : qMP} (h : LAY P) : P 1 2 = 14 := h (1, 2, 14) (List.mem_of_getElem? (i := 12) rfl)
theorem ly_14_0 {P : qMP} (h : LAY P) : P 14 0 = 15 := h (14, 0, 15) (List.mem_of_getElem? (i := 13) rfl)
theorem ly_17_3 {P : qMP} (h : LAY P) : P 17 3 = 18 := h (17, 3, 18) (List.mem_of_getElem? (i := 14) rfl)
theorem ly_16_0 {P : qMP} (h : LAY P) : P 16 0 = 17 := h (16, 0, 17) (List.mem_of_getElem? (i := 15) rfl)
theorem ly_19_5 {P : qMP} (h : LAY P) : P 19 5 = 20 := h (19, 5, 20) (List.mem_of_getElem? (i := 16) rfl)
theorem ly_19_6 {P : qMP} (h : LAY P) : P 19 6 = 21 := h (19, 6, 21) (List.mem_of_getElem? (i := 17) rfl)
theorem ly_16_1 {P : qMP} (h : LAY P) : P 16 1 = 19 := h (16, 1, 19) (List.mem_of_getElem? (i := 18) rfl)
theorem ly_23_3 {P : qMP} (h : LAY P) : P 23 3 = 24 := h (23, 3, 24) (List.mem_of_getElem? (i := 19) rfl)
theorem ly_22_0 {P : qMP} (h : LAY P) : P 22 0 = 23 := h (22, 0, 23) (List.mem_of_getElem? (i := 20) rfl)
theorem ly_25_5 {P : qMP} (h : LAY P) : P 25 5 = 26 := h (25, 5, 26) (List.mem_of_getElem? (i := 21) rfl)
theorem ly_25_6 {P : qMP} (h : LAY P) : P 25 6 = 27 := h (25, 6, 27) (List.mem_of_getElem? (i := 22) rfl)
theorem ly_22_1 {P : qMP} (h : LAY P) : P 22 1 = 25 := h (22, 1, 25) (List.mem_of_getElem? (i := 23) rfl)
theorem ly_29_3 {P : qMP} (h : LAY P) : P 29 3 = 30 := h (29, 3, 30) (List.mem_of_getElem? (i := 24) rfl)
theorem ly_28_0 {P : qMP} (h : LAY P) : P 28 0 = 29 := h (28, 0, 29) (List.mem_of_getElem? (i := 25) rfl)
theorem ly_31_5 {P : qMP} (h : LAY P) : P 31 5 = 32 := h (31, 5, 32) (List.mem_of_getElem? (i := 26) rfl)
theorem ly_31_6 {P : qMP} (h : LAY P) : P 31 6 = 33 := h (31, 6, 33) (List.mem_of_getElem? (i := 27) rfl)
theorem ly_28_1 {P : qMP} (h : LAY P) : P 28 1 = 31 := h (28, 1, 31) (List.mem_of_getElem? (i := 28) rfl)
theorem ly_35_3 {P : qMP} (h : LAY P) : P 35 3 = 36 := h (35, 3, 36) (List.mem_of_getElem? (i := 29) rfl)
theorem ly_34_0 {P : qMP} (h : LAY P) : P 34 0 = 35 := h (34, 0, 35) (List.mem_of_getElem? (i := 30) rfl)
theorem ly_37_5 {P : qMP} (h : LAY P) : P 37 5 = 38 := h (37, 5, 38) (List.mem_of_getElem? (i := 31) rfl)
theorem ly_37_6 {P : qMP} (h : LAY P) : P 37 6 = 39 := h (37, 6, 39) (List.mem_of_getElem? (i := 32) rfl)
theorem ly_34_1 {P : qMP} (h : LAY P) : P 34 1 = 37 := h (34, 1, 37) (List.mem_of_getElem? (i := 33) rfl)
theorem ly_41_3 {P : qMP} (h : LAY P) : P 41 3 = 42 := h (41, 3, 42) (List.mem_of_getElem? (i := 34) rfl)
theorem ly_40_0 {P : qMP} (h : LAY P) : P 40 0 = 41 := h (40, 0, 41) (List.mem_of_getElem? (i := 35) rfl)
theorem ly_43_5 {P : qMP} (h : LAY P) : P 43 5 = 44 := h (43, 5, 44) (List.mem_of_getElem? (i := 36) rfl)
theorem ly_43_6 {P : qMP} (h : LAY P) : P 43 6 = 45 := h (43, 6, 45) (List.mem_of_getElem? (i := 37) rfl)
theorem ly_40_1 {P : qMP} (h : LAY P) : P 40 1 = 43 := h (40, 1, 43) (List.mem_of_getElem? (i := 38) rfl)
theorem ly_47_3 {P : qMP} (h : LAY P) : P 47 3 = 48 := h (47, 3, 48) (List.mem_of_getElem? (i := 39) rfl)
theorem ly_46_0 {P : qMP} (h : LAY P) : P 46 0 = 47 := h (46, 0, 47) (List.mem_of_getElem? (i := 40) rfl)
theorem ly_49_5 {P : qMP} (h : LAY P) : P 49 5 = 50 := h (49, 5, 50) (List.mem_of_getElem? (i := 41) rfl)
theorem ly_49_6 {P : qMP} (h : LAY P) : P 49 6 = 51 := h (49, 6, 51) (List.mem_of_getElem? (i := 42) rfl)
theorem ly_46_1 {P : qMP} (h : LAY P) : P 46 1 = 49 := h (46, 1, 49) (List.mem_of_getElem? (i := 43) rfl)
theorem ly_53_3 {P : qMP} (h : LAY P) : P 53 3 = 54 := h (53, 3, 54) (List.mem_of_getElem? (i := 44) rfl)
theorem ly_52_0 {P : qMP} (h : LAY P) : P 52 0 = 53 := h (52, 0, 53) (List.mem_of_getElem? (i := 45) rfl)
theorem ly_55_5 {P : qMP} (h : LAY P) : P 55 5 = 56 := h (55, 5, 56) (List.mem_of_getElem? (i := 46) rfl)
theorem ly_55_6 {P : qMP} (h : LAY P) : P 55 6 = 57 := h (55, 6, 57) (List.mem_of_getElem? (i := 47) rfl)
theorem ly_52_1 {P : qMP} (h : LAY P) : P 52 1 = 55 := h (52, 1, 55) (List.mem_of_getElem? (i := 48) rfl)
theorem ly_59_3 {P : qMP} (h : LAY P) : P 59 3 = 60 := h (59, 3, 60) (List.mem_of_getElem? (i := 49) rfl)
theorem ly_58_0 {P : qMP} (h : LAY P) : P 58 0 = 59 := h (58, 0, 59) (List.mem_of_getElem? (i := 50) rfl)
theorem ly_61_5 {P : qMP} (h : LAY P) : P 61 5 = 62 := h (61, 5, 62) (List.mem_of_getElem? (i := 51) rfl)
theorem ly_61_6 {P : qMP} (h : LAY P) : P 61 6 = 63 := h (61, 6, 63) (List.mem_of_getElem? (i := 52) rfl)
theorem ly_58_1 {P : qMP} (h : LAY P) : P 58 1 = 61 := h (58, 1, 61) (List.mem_of_getElem? (i := 53) rfl)
theorem ly_65_3 {P : qMP} (h : LAY P) : P 65 3 = 66 := h (65, 3, 66) (List.mem_of_getElem? (i := 54) rfl)
theorem ly_64_0 {P : qMP} (h : LAY P) : P 64 0 = 65 := h (64, 0, 65) (List.mem_of_getElem? (i := 55) rfl)
theorem ly_67_5 {P : qMP} (h : LAY P) : P 67 5 = 68 := h (67, 5, 68) (List.mem_of_getElem? (i := 56) rfl)
theorem ly_67_6 {P : qMP} (h : LAY P) : P 67 6 = 69 := h (67, 6, 69) (List.mem_of_getElem? (i := 57) rfl)
theorem ly_64_1 {P : qMP} (h : LAY P) : P 64 1 = 67 := h (64, 1, 67) (List.mem_of_getElem? (i := 58) rfl)
theorem ly_71_3 {P : qMP} (h : LAY P) : P 71 3 = 72 := h (71, 3, 72) (List.mem_of_getElem? (i := 59) rfl)
theorem ly_70_0 {P : qMP} (h : LAY P) : P 70 0 = 71 := h (70, 0, 71) (List.mem_of_getElem? (i := 60) rfl)
theorem ly_73_5 {P : qMP} (h : LAY P) : P 73 5 = 74 := h (73, 5, 74) (List.mem_of_getElem? (i := 61) rfl)
theorem ly_73_6 {P : qMP} (h : LAY P) : P 73 6 = 75 := h (73, 6, 75) (List.mem_of_getElem? (i := 62) rfl)
theorem ly_70_1 {P : qMP} (h : LAY P) : P 70 1 = 73 := h (70, 1, 73) (List.mem_of_getElem? (i := 63) rfl)
theorem ly_77_3 {P : qMP} (h : LAY P) : P 77 3 = 78 := h (77, 3, 78) (List.mem_of_getElem? (i := 64) rfl)
theorem ly_76_0 {P : qMP} (h : LAY P) : P 76 0 = 77 := h (76, 0, 77) (List.mem_of_getElem? (i := 65) rfl)
theorem ly_79_5 {P : qMP} (h : LAY P) : P 79 5 = 80 := h (79, 5, 80) (List.mem_of_getElem? (i := 66) rfl)
theorem ly_79_6 {P : qMP} (h : LAY P) : P 79 6 = 81 := h (79, 6, 81) (List.mem_of_getElem? (i := 67) rfl)
theorem ly_76_1 {P : qMP} (h : LAY P) : P 76 1 = 79 := h (76, 1, 79) (List.mem_of_getElem? (i := 68) rfl)
theorem ly_1_3 {P : qMP} (h : LAY P) : P 1 3 = 82 := h (1, 3, 82) (List.mem_of_getElem? (i := 69) rfl)
theorem ly_83_3 {P : qMP} (h : LAY P) : P 83 3 = 84 := h (83, 3, 84) (List.mem_of_getElem? (i := 70) rfl)
theorem ly_82_0 {P : qMP} (h : LAY P) : P 82 0 = 83 := h (82, 0, 83) (List.mem_of_getElem? (i := 71) rfl)
theorem ly_82_1 {P : qMP} (h : LAY P) : P 82 1 = 85 := h (82, 1, 85) (List.mem_of_getElem? (i := 72) rfl)
theorem ly_86_0 {P : qMP} (h : LAY P) : P 86 0 = 87 := h (86, 0, 87) (List.mem_of_getElem? (i := 73) rfl)
theorem ly_82_2 {P : qMP} (h : LAY P) : P 82 2 = 86 := h (82, 2, 86) (List.mem_of_getElem? (i := 74) rfl)
theorem ly_89_3 {P : qMP} (h : LAY P) : P 89 3 = 90 := h (89, 3, 90) (List.mem_of_getElem? (i := 75) rfl)
theorem ly_89_4 {P : qMP} (h : LAY P) : P 89 4 = 91 := h (89, 4, 91) (List.mem_of_getElem? (i := 76) rfl)
theorem ly_88_0 {P : qMP} (h : LAY P) : P 88 0 = 89 := h (88, 0, 89) (List.mem_of_getElem? (i := 77) rfl)
theorem ly_92_3 {P : qMP} (h : LAY P) : P 92 3 = 93 := h (92, 3, 93) (List.mem_of_getElem? (i := 78) rfl)
theorem ly_88_1 {P : qMP} (h : LAY P) : P 88 1 = 92 := h (88, 1, 92) (List.mem_of_getElem? (i := 79) rfl)
theorem ly_88_8 {P : qMP} (h : LAY P) : P 88 8 = 94 := h (88, 8, 94) (List.mem_of_getElem? (i := 80) rfl)
theorem ly_95_0 {P : qMP} (h : LAY P) : P 95 0 = 96 := h (95, 0, 96) (List.mem_of_getElem? (i := 81) rfl)
theorem ly_95_1 {P : qMP} (h : LAY P) : P 95 1 = 97 := h (95, 1, 97) (List.mem_of_getElem? (i := 82) rfl)
theorem ly_95_2 {P : qMP} (h : LAY P) : P 95 2 = 98 := h (95, 2, 98) (List.mem_of_getElem? (i := 83) rfl)
theorem ly_95_3 {P : qMP} (h : LAY P) : P 95 3 = 99 := h (95, 3, 99) (List.mem_of_getElem? (i := 84) rfl)
theorem ly_95_4 {P : qMP} (h : LAY P) : P 95 4 = 100 := h (95, 4, 100) (List.mem_of_getElem? (i := 85) rfl)
theorem ly_95_5 {P : qMP} (h : LAY P) : P 95 5 = 101 := h (95, 5, 101) (List.mem_of_getElem? (i := 86) rfl)
theorem ly_95_6 {P : qMP} (h : LAY P) : P 95 6 = 102 := h (95, 6, 102) (List.mem_of_getElem? (i := 87) rfl)
theorem ly_95_7 {P : qMP} (h : LAY P) : P 95 7 = 103 := h (95, 7, 103) (List.mem_of_getElem? (i := 88) rfl)
theorem ly_95_8 {P : qMP} (h : LAY P) : P 95 8 = 104 := h (95, 8, 104) (List.mem_of_getElem? (i := 89) rfl)
theorem ly_95_9 {P : qMP} (h : LAY P) : P 95 9 = 105 := h (95, 9, 105) (List.mem_of_getElem? (i := 90) rfl)
theorem ly_95_10 {P : qMP} (h : LAY P) : P 95 10 = 106 := h (95, 10, 106) (List.mem_of_getElem? (i := 91) rfl)
theorem ly_95_11 {P : qMP} (h : LAY P) : P 95 11 = 107 := h (95, 11, 107) (List.mem_of_getElem? (i := 92) rfl)
theorem ly_95_12 {P : qMP} (h : LAY P) : P 95 12 = 108 := h (95, 12, 108) (List.mem_of_getElem? (i := 93) rfl)
theorem ly_95_13 {P : qMP} (h : LAY P) : P 95 13 = 109 := h (95, 13, 109) (List.mem_of_getElem? (i := 94) rfl)
theorem ly_95_14 {P : qMP} (h : LAY P) : P 95 14 = 110 := h (95, 14, 110) (List.mem_of_getElem? (i := 95) rfl)
theorem ly_95_15 {P : qMP} (h : LAY P) : P 95 15 = 111 := h (95, 15, 111) (List.mem_of_getElem? (i := 96) rfl)
theorem ly_88_9 {P : qMP} (h : LAY P) : P 88 9 = 95 := h (88, 9, 95) (List.mem_of_getElem? (i := 97) rfl)
theorem ly_1_4 {P : qMP} (h : LAY P) : P 1 4 = 88 := h (1, 4, 88) (List.mem_of_getElem? (i := 98) rfl)
theorem ly_113_3 {P : qMP} (h : LAY P) : P 113 3 = 114 := h (113, 3, 114) (List.mem_of_getElem? (i := 99) rfl)
theorem ly_113_4 {P : qMP} (h : LAY P) : P 113 4 = 115 := h (113, 4, 115) (List.mem_of_getElem? (i := 100) rfl)
theorem ly_112_0 {P : qMP} (h : LAY P) : P 112 0 = 113 := h (112, 0, 113) (List.mem_of_getElem? (i := 101) rfl)
theorem ly_116_3 {P : qMP} (h : LAY P) : P 116 3 = 117 := h (116, 3, 117) (List.mem_of_getElem? (i := 102) rfl)
theorem ly_112_1 {P : qMP} (h : LAY P) : P 112 1 = 116 := h (112, 1, 116) (List.mem_of_getElem? (i := 103) rfl)
theorem ly_112_8 {P : qMP} (h : LAY P) : P 112 8 = 118 := h (112, 8, 118) (List.mem_of_getElem? (i := 104) rfl)
theorem ly_119_0 {P : qMP} (h : LAY P) : P 119 0 = 120 := h (119, 0, 120) (List.mem_of_getElem? (i := 105) rfl)
theorem ly_119_1 {P : qMP} (h : LAY P) : P 119 1 = 121 := h (119, 1, 121) (List.mem_of_getElem? (i := 106) rfl)
theorem ly_119_2 {P : qMP} (h : LAY P) : P 119 2 = 122 := h (119, 2, 122) (List.mem_of_getElem? (i := 107) rfl)
theorem ly_119_3 {P : qMP} (h : LAY P) : P 119 3 = 123 := h (119, 3, 123) (List.mem_of_getElem? (i := 108) rfl)
theorem ly_119_4 {P : qMP} (h : LAY P) : P 119 4 = 124 := h (119, 4, 124) (List.mem_of_getElem? (i := 109) rfl)
theorem ly_119_5 {P : qMP} (h : LAY P) : P 119 5 = 125 := h (119, 5, 125) (List.mem_of_getElem? (i := 110) rfl)
theorem ly_119_6 {P : qMP} (h : LAY P) : P 119 6 = 126 := h (119, 6, 126) (List.mem_of_getElem? (i := 111) rfl)
theorem ly_119_7 {P : qMP} (h : LAY P) : P 119 7 = 127 := h (119, 7, 127) (List.mem_of_getElem? (i := 112) rfl)
theorem ly_119_8 {P : qMP} (h : LAY P) : P 119 8 = 128 := h (119, 8, 128) (List.mem_of_getElem? (i := 113) rfl)
theorem ly_119_9 {P : qMP} (h : LAY P) : P 119 9 = 129 := h (119, 9, 129) (List.mem_of_getElem? (i := 114) rfl)
theorem ly_119_10 {P : qMP} (h : LAY P) : P 119 10 = 130 := h (119, 10, 130) (List.mem_of_getElem? (i := 115) rfl)
theorem ly_119_11 {P : qMP} (h : LAY P) : P 119 11 = 131 := h (119, 11, 131) (List.mem_of_getElem? (i := 116) rfl)
theorem ly_119_12 {P : qMP} (h : LAY P) : P 119 12 = 132 := h (119, 12, 132) (List.mem_of_getElem? (i := 117) rfl)
theorem ly_119_13 {P : qMP} (h : LAY P) : P 119 13 = 133 := h (119, 13, 133) (List.mem_of_getElem? (i := 118) rfl)
theorem ly_119_14 {P : qMP} (h : LAY P) : P 119 14 = 134 := h (119, 14, 134) (List.mem_of_getElem? (i := 119) rfl)
theorem ly_119_15 {P : qMP} (h : LAY P) : P 119 15 = 135 := h (119, 15, 135) (List.mem_of_getElem? (i := 120) rfl)
theorem ly_112_9 {P : qMP} (h : LAY P) : P 112 9 = 119 := h (112, 9, 119) (List.mem_of_getElem? (i := 121) rfl)
theorem ly_1_5 {P : qMP} (h : LAY P) : P 1 5 = 112 := h (1, 5, 112) (List.mem_of_getElem? (i := 122) rfl)
theorem ly_1_6 {P : qMP} (h : LAY P) : P 1 6 = 136 := h (1, 6, 136) (List.mem_of_getElem? (i := 123) rfl)
theorem ly_136_0 {P : qMP} (h : LAY P) : P 136 0 = 137 := h (136, 0, 137) (List.mem_of_getElem? (i := 124) rfl)
theorem ly_136_1 {P : qMP} (h : LAY P) : P 136 1 = 138 := h (136, 1, 138) (List.mem_of_getElem? (i := 125) rfl)
theorem ly_139_3 {P : qMP} (h : LAY P) : P 139 3 = 140 := h (139, 3, 140) (List.mem_of_getElem? (i := 126) rfl)
theorem ly_1_7 {P : qMP} (h : LAY P) : P 1 7 = 139 := h (1, 7, 139) (List.mem_of_getElem? (i := 127) rfl)
theorem ly_141_5 {P : qMP} (h : LAY P) : P 141 5 = 142 := h (141, 5, 142) (List.mem_of_getElem? (i := 128) rfl)
theorem ly_141_6 {P : qMP} (h : LAY P) : P 141 6 = 143 := h (141, 6, 143) (List.mem_of_getElem? (i := 129) rfl)
theorem ly_1_8 {P : qMP} (h : LAY P) : P 1 8 = 141 := h (1, 8, 141) (List.mem_of_getElem? (i := 130) rfl)
theorem ly_144_0 {P : qMP} (h : LAY P) : P 144 0 = 145 := h (144, 0, 145) (List.mem_of_getElem? (i := 131) rfl)
theorem ly_144_1 {P : qMP} (h : LAY P) : P 144 1 = 146 := h (144, 1, 146) (List.mem_of_getElem? (i := 132) rfl)
theorem ly_144_2 {P : qMP} (h : LAY P) : P 144 2 = 147 := h (144, 2, 147) (List.mem_of_getElem? (i := 133) rfl)
theorem ly_144_3 {P : qMP} (h : LAY P) : P 144 3 = 148 := h (144, 3, 148) (List.mem_of_getElem? (i := 134) rfl)
theorem ly_144_7 {P : qMP} (h : LAY P) : P 144 7 = 149 := h (144, 7, 149) (List.mem_of_getElem? (i := 135) rfl)
theorem ly_144_8 {P : qMP} (h : LAY P) : P 144 8 = 150 := h (144, 8, 150) (List.mem_of_getElem? (i := 136) rfl)
theorem ly_144_9 {P : qMP} (h : LAY P) : P 144 9 = 151 := h (144, 9, 151) (List.mem_of_getElem? (i := 137) rfl)
theorem ly_144_13 {P : qMP} (h : LAY P) : P 144 13 = 152 := h (144, 13, 152) (List.mem_of_getElem? (i := 138) rfl)
theorem ly_144_14 {P : qMP} (h : LAY P) : P 144 14 = 153 := h (144, 14, 153) (List.mem_of_getElem? (i := 139) rfl)
theorem ly_144_15 {P : qMP} (h : LAY P) : P 144 15 = 154 := h (144, 15, 154) (List.mem_of_getElem? (i := 140) rfl)
theorem ly_144_16 {P : qMP} (h : LAY P) : P 144 16 = 155 := h (144, 16, 155) (List.mem_of_getElem? (i := 141) rfl)
theorem ly_144_18 {P : qMP} (h : LAY P) : P 144 18 = 156 := h (144, 18, 156) (List.mem_of_getElem? (i := 142) rfl)
theorem ly_144_19 {P : qMP} (h : LAY P) : P 144 19 = 157 := h (144, 19, 157) (List.mem_of_getElem? (i := 143) rfl)
theorem ly_144_20 {P : qMP} (h : LAY P) : P 144 20 = 158 := h (144, 20, 158) (List.mem_of_getElem? (i := 144) rfl)
theorem ly_144_21 {P : qMP} (h : LAY P) : P 144 21 = 159 := h (144, 21, 159) (List.mem_of_getElem? (i := 145) rfl)
theorem ly_144_26 {P : qMP} (h : LAY P) : P 144 26 = 160 := h (144, 26, 160) (List.mem_of_getElem? (i := 146) rfl)
theorem ly_144_27 {P : qMP} (h : LAY P) : P 144 27 = 161 := h (144, 27, 161) (List.mem_of_getElem? (i := 147) rfl)
theorem LAY.congr {P P' : qMP} (h : LAY P) (q : ∀ r, r ≠ 15 → P' r = P r) : LAY P' := fun z hz => by
  have key : ∀ z, z ∈ LT0 → z.1 ≠ 15 := by decide +kernel
  rw [q z.1 (key z hz)]
  exact h z hz
/-- a situation of the class -/
def isSit (q : Nat) : Prop := q = 2 ∨ q = 8 ∨ ∃ i, i < 11 ∧ q = 16 + 6 * i
theorem sit_all9 : ∀ i, i < 11 → [(16 + 6 * i, 0, 16 + 6 * i + 1), (16 + 6 * i, 1, 16 + 6 * i + 3), (16 + 6 * i + 1, 3, 16 + 6 * i + 2), (16 + 6 * i + 3, 5, 16 + 6 * i + 4), (16 + 6 * i + 3, 6, 16 + 6 * i + 5)].all (fun z => decide (z ∈ LT0)) = true := by decide +kernel
theorem sit_all (i : Nat) (h : i < 11) : (16 + 6 * i, 0, 16 + 6 * i + 1) ∈ LT0 ∧ (16 + 6 * i, 1, 16 + 6 * i + 3) ∈ LT0 ∧ (16 + 6 * i + 1, 3, 16 + 6 * i + 2) ∈ LT0 ∧ (16 + 6 * i + 3, 5, 16 + 6 * i + 4) ∈ LT0 ∧ (16 + 6 * i + 3, 6, 16 + 6 * i + 5) ∈ LT0 := by
  have q := List.all_eq_true.mp (sit_all9 i h)
  refine ⟨?_, ?_, ?_, ?_, ?_⟩ <;> exact of_decide_eq_true (q _ (by simp))
theorem sit_sh : ∀ i, i < 11 → shp SH0 (16 + 6 * i) = (6, 0) ∧ shp SH0 (16 + 6 * i + 1) = (2, 0) ∧ shp SH0 (16 + 6 * i + 2) = (20, 40) ∧ shp SH0 (16 + 6 * i + 3) = (1, 0) ∧ shp SH0 (16 + 6 * i + 4) = (20, 32) ∧ shp SH0 (16 + 6 * i + 5) = (20, 16) := by decide +kernel
theorem sit_P {P : qMP} (h : LAY P) {q : Nat} (hq : isSit q) : P q 0 = q + 1 ∧ P q 1 = q + 3 ∧ P (q + 1) 3 = q + 2 ∧ P (q + 3) 5 = q + 4 ∧ P (q + 3) 6 = q + 5 := by
  rcases hq with rfl | rfl | ⟨i, hi, rfl⟩
  · exact ⟨ly_2_0 h, ly_2_1 h, ly_3_3 h, ly_5_5 h, ly_5_6 h⟩
  · exact ⟨ly_8_0 h, ly_8_1 h, ly_9_3 h, ly_11_5 h, ly_11_6 h⟩
  · obtain ⟨a, b, c, d, e⟩ := sit_all i hi
    exact ⟨h _ a, h _ b, h _ c, h _ d, h _ e⟩
theorem sit_K {q : Nat} (hq : isSit q) : shp SH0 q = (6, 0) ∧ shp SH0 (q + 1) = (2, 0) ∧ shp SH0 (q + 2) = (20, 40) ∧ shp SH0 (q + 3) = (1, 0) ∧ shp SH0 (q + 4) = (20, 32) ∧ shp SH0 (q + 5) = (20, 16) := by
  rcases hq with rfl | rfl | ⟨i, hi, rfl⟩
  · decide
  · decide
  · exact sit_sh i hi
theorem sit_DSh {P : qMP} (h : LAY P) {q : Nat} (hq : isSit q) : DSh SH0 P (q + 3) := by
  obtain ⟨k0, k1, k2, k3, k4, k5⟩ := sit_K hq
  obtain ⟨p0, p1, p2, p3, p4⟩ := sit_P h hq
  exact ⟨by rw [k3], by rw [p3, k4], by rw [p4, k5]⟩
/-- a situation's cells hold s -/
def XS (I : qMI) (L : qML) (P : qMP) (q : Nat) (s : Sit) : Prop := ES SH0 I P (q + 1) s ∧ DS SH0 I L P (q + 3) s
theorem XS.congr {I I' : qMI} {L L' : qML} {P P' : qMP} {q : Nat} {s : Sit} (hP : LAY P) (hP' : LAY P') (hq : isSit q) (h : XS I L P q s) (hI : ∀ r, q < r → r < q + 6 → I' r = I r) (hL : L' (q + 3) = L (q + 3)) : XS I' L' P' q s := by
  obtain ⟨p0, p1, p2, p3, p4⟩ := sit_P hP hq
  obtain ⟨r0, r1, r2, r3, r4⟩ := sit_P hP' hq
  refine ⟨h.1.congr (hI _ (by omega) (by omega)) (by rw [p2]; exact hI _ (by omega) (by omega)) (by rw [p2, r2]), ?_⟩
  obtain ⟨hd, f, g, j, k, v⟩ := h.2
  refine ⟨sit_DSh hP' hq, by rw [hI _ (by omega) (by omega)]; exact f, by rw [hI _ (by omega) (by omega)]; exact g, j, k, fun z => (v z).congr (by rw [hL]) (by rw [hI _ (by omega) (by omega)]) (by rw [hI _ (by omega) (by omega)]) (fun y _ => by rw [p3, r3, hI _ (by omega) (by omega)]) (fun y _ => by rw [p4, r4, hI _ (by omega) (by omega)])⟩
section LA
variable {d : Nat} {I : qMI} {L : qML} {P : qMP}
theorem ok_X_copy {q u : Nat} {t : Sit} {f : qMI → qML → qMP → Prop} (hP : LAY P) (hq : isSit q) (hu : isSit u) (hne : q + 6 ≤ u ∨ u + 6 ≤ q) (hX : XS I L P u t) (k : ∀ I' L', (∀ r, ¬ (q < r ∧ r < q + 6) → I' r = I r ∧ L' r = L r) → XS I' L' P q t → f I' L' P) : Sq (d + 2) mX6_copyFrom SH0 [.ref q, .ref u] I L P (KV f) := by
  obtain ⟨k0, k1, k2, k3, k4, k5⟩ := sit_K hq
  obtain ⟨p0, p1, p2, p3, p4⟩ := sit_P hP hq
  obtain ⟨j0, j1, j2, j3, j4, j5⟩ := sit_K hu
  obtain ⟨r0, r1, r2, r3, r4⟩ := sit_P hP hu
  refine sp_X6_copyFrom ⟨by rw [k0], by rw [j0], ?_⟩
  rw [p0, r0]
  refine ⟨by rw [k1], ok_E_copy (by rw [k1]) (by rw [p2, k2]) hX.1 fun I1 f1 hE => ?_⟩
  rw [p2] at f1
  rw [p1, r1]
  refine ⟨by rw [k3], ok_D_copy (sit_DSh hP hq) (DS.congr hX.2 (f1 _ (by omega) (by omega)) rfl (by rw [r3]; exact f1 _ (by omega) (by omega)) (by rw [r4]; exact f1 _ (by omega) (by omega)) rfl) fun I2 L2 f2 f3 hD => ?_⟩
  rw [p3, p4] at f2
  refine k I2 L2 (fun r hr => ⟨by rw [f2 r (by omega) (by omega) (by omega), f1 r (by omega) (by omega)], f3 r (by omega)⟩) ⟨hE.congr (f2 _ (by omega) (by omega) (by omega)) (by rw [p2]; exact f2 _ (by omega) (by omega) (by omega)) rfl, hD⟩
/-! the history: kept in the cell 15: where the situations lie -/
def HP (P : qMP) (w : Nat → Nat) : Prop := (∀ i, i < 11 → P 15 i = 16 + 6 * w i ∧ w i < 11) ∧ ∀ i j, i < 11 → j < 11 → w i = w j → i = j
theorem HP.sit {P : qMP} {w : Nat → Nat} (h : HP P w) {i : Nat} (hi : i < 11) : isSit (P 15 i) := Or.inr (Or.inr ⟨w i, (h.1 i hi).2, (h.1 i hi).1⟩)
theorem HP.apart {P : qMP} {w : Nat → Nat} (h : HP P w) {i j : Nat} (hi : i < 11) (hj : j < 11) (hne : i ≠ j) : P 15 i + 6 ≤ P 15 j ∨ P 15 j + 6 ≤ P 15 i := by
  have a := (h.1 i hi).1
  have b := (h.1 j hj).1
  have c : w i ≠ w j := fun q => hne (h.2 i j hi hj q)
  omega
theorem HP.far {P : qMP} {w : Nat → Nat} (h : HP P w) {i : Nat} (hi : i < 11) : 16 ≤ P 15 i ∧ P 15 i + 6 ≤ 82 := by
  have a := h.1 i hi
  omega
theorem ok_loseOldest {w : Nat → Nat} {f : qMI → qML → qMP → Prop} (hP : LAY P) (hH : HP P w) (k : ∀ P', (∀ r, r ≠ 15 → P' r = P r) → (∀ i, i < 10 → P' 15 i = P 15 (i + 1)) → P' 15 10 = P 15 0 → f I L P') : Sq (d + 1) mX3_loseOldest SH0 [.ref 14] I L P (KV f) := by
  refine sp_X3_loseOldest (fun a x I' L' P' => I' = I ∧ L' = L ∧ a = P 15 0 ∧ (∀ r, r ≠ 15 → P' r = P r) ∧ ∃ o, 1 ≤ o ∧ o ≤ 11 ∧ x = nI o ∧ ∀ i, P' 15 i = if i + 1 < o then P 15 (i + 1) else P 15 i) (fun _ x _ _ _ => 20 - x.toNatClampNeg) ?_ ?_
  · refine ⟨by decide, ?_⟩
    rw [ly_14_0 hP]
    exact ⟨by decide, by exact vin 0 rfl (by decide) (by decide), rfl, rfl, by rw [ti_clamp0], fun _ _ => rfl, 1, by decide, by decide, rfl, fun i => (if_neg (by omega)).symm⟩
  · rintro a x I1 L1 P1 ⟨rfl, rfl, rfl, hr, o, ho1, ho2, rfl, hi⟩
    refine ⟨by decide, ?_⟩
    rw [hr 14 (by decide), ly_14_0 hP]
    have hsz : shp SH0 15 = (23, 11) := by decide
    rw [hsz]
    refine ⟨rfl, fun c1 => ?_, fun c1 => ?_⟩
    · have c1 : nI 11 ≤ nI o := c1
      have c1 : o = 11 := by have := (nI_leI (by decide) (by omega)).mp c1; omega
      subst c1
      refine ⟨by exact vin 10 rfl (by decide) (by decide), by rw [(sit_K (hH.sit (i := 0) (by decide))).1], fun P6 e6 => ?_⟩
      rw [show Int32.toNatClampNeg (nI (23, 11).2 - 1) = 10 by decide] at e6
      refine k P6 (fun r q => by rw [e6, uP_ne r q]; exact hr r q) (fun i q => ?_) ?_
      · rw [e6]
        show (if _ then _ else P1 15 i) = _
        rw [if_neg (by omega), hi, if_pos (by omega)]
      · rw [e6]
        show (if _ then _ else _) = _
        rw [if_pos ⟨rfl, rfl⟩]
    · have c1 : ¬ nI 11 ≤ nI o := c1
      have c1 : o < 11 := Nat.lt_of_not_le fun z => c1 (nI_le z (by omega))
      rw [show nI o - 1 = nI (o - 1) from pk_sub (b := 1) ho1]
      refine ⟨vin o rfl c1 (by decide), vin (o - 1) rfl (show o - 1 < 11 by omega) (by decide), ?_, fun P10 e10 => ?_⟩
      · rw [clN (by omega), hi, if_neg (by omega), (sit_K (hH.sit c1)).1]
      · rw [clN (by omega), clN (by omega)] at e10
        refine ⟨⟨rfl, rfl, rfl, fun r q => by rw [e10, uP_ne r q]; exact hr r q, o + 1, by omega, by omega, nI_1 o, fun i => ?_⟩, ?_⟩
        · rw [e10]
          show (if 15 = 15 ∧ i = o - 1 then P1 15 o else P1 15 i) = _
          by_cases c : i = o - 1
          · rw [if_pos ⟨rfl, c⟩, if_pos (by omega), hi, if_neg (by omega), c, show o - 1 + 1 = o by omega]
          · rw [if_neg (fun q => c q.2), hi]
            by_cases c2 : i + 1 < o
            · rw [if_pos c2, if_pos (by omega)]
            · rw [if_neg c2, if_neg (by omega)]
        · rw [nI_1, clN (by omega), clN (by omega)]; omega
end LA
