def tabS : List (Nat × Nat) := [(11, 0), (8, 0), (20, 80), (4, 0), (21, 16), (6, 0), (24, 20), (5, 0), (20, 36), (5, 0), (20, 36), (5, 0), (20, 36), (5, 0), (20, 36), (5, 0), (20, 36), (5, 0), (20, 36), (5, 0), (20, 36), (5, 0), (20, 36), (5, 0), (20, 36), (5, 0), (20, 36), (5, 0), (20, 36), (5, 0), (20, 36), (5, 0), (20, 36), (5, 0), (20, 36), (5, 0), (20, 36), (5, 0), (20, 36), (5, 0), (20, 36), (5, 0), (20, 36), (5, 0), (20, 36), (5, 0), (20, 36), (0, 0), (0, 0), (0, 0), (23, 3), (22, 3), (24, 3), (20, 3), (9, 0), (20, 144), (20, 144), (3, 0), (20, 25), (20, 32), (2, 0), (20, 36), (20, 144), (20, 144), (5, 0), (20, 36), (20, 3), (1, 0), (9, 0), (20, 144), (20, 144), (21, 1296), (21, 1296), (21, 1296), (21, 1296), (0, 0), (10, 0), (7, 0), (20, 12), (21, 48), (20, 48), (0, 0), (5, 0), (20, 36), (0, 0), (5, 0), (20, 36), (0, 0), (5, 0), (20, 36), (12, 0), (21, 20), (20, 36), (20, 3), (20, 36), (20, 80), (20, 36), (20, 5), (20, 5), (20, 860), (20, 144), (22, 144), (22, 144), (21, 1440), (21, 1440), (21, 144), (21, 144), (21, 1440), (21, 1440), (22, 3), (20, 15), (20, 5), (20, 32), (20, 32), (20, 12), (21, 52), (20, 52), (20, 25), (20, 5), (20, 5), (20, 129), (20, 3), (20, 3), (21, 1)]
def S0 : MS := fun a => tabS.getD a (99, 0)
theorem s_0 : S0 0 = (11, 0) := rfl
theorem s_1 : S0 1 = (8, 0) := rfl
theorem s_2 : S0 2 = (20, 80) := rfl
theorem s_3 : S0 3 = (4, 0) := rfl
theorem s_4 : S0 4 = (21, 16) := rfl
theorem s_5 : S0 5 = (6, 0) := rfl
theorem s_6 : S0 6 = (24, 20) := rfl
theorem s_7 : S0 7 = (5, 0) := rfl
theorem s_8 : S0 8 = (20, 36) := rfl
theorem s_9 : S0 9 = (5, 0) := rfl
theorem s_10 : S0 10 = (20, 36) := rfl
theorem s_11 : S0 11 = (5, 0) := rfl
theorem s_12 : S0 12 = (20, 36) := rfl
theorem s_13 : S0 13 = (5, 0) := rfl
theorem s_14 : S0 14 = (20, 36) := rfl
theorem s_15 : S0 15 = (5, 0) := rfl
theorem s_16 : S0 16 = (20, 36) := rfl
theorem s_17 : S0 17 = (5, 0) := rfl
theorem s_18 : S0 18 = (20, 36) := rfl
theorem s_19 : S0 19 = (5, 0) := rfl
theorem s_20 : S0 20 = (20, 36) := rfl
theorem s_21 : S0 21 = (5, 0) := rfl
theorem s_22 : S0 22 = (20, 36) := rfl
theorem s_23 : S0 23 = (5, 0) := rfl
theorem s_24 : S0 24 = (20, 36) := rfl
theorem s_25 : S0 25 = (5, 0) := rfl
theorem s_26 : S0 26 = (20, 36) := rfl
theorem s_27 : S0 27 = (5, 0) := rfl
theorem s_28 : S0 28 = (20, 36) := rfl
theorem s_29 : S0 29 = (5, 0) := rfl
theorem s_30 : S0 30 = (20, 36) := rfl
theorem s_31 : S0 31 = (5, 0) := rfl
theorem s_32 : S0 32 = (20, 36) := rfl
theorem s_33 : S0 33 = (5, 0) := rfl
theorem s_34 : S0 34 = (20, 36) := rfl
theorem s_35 : S0 35 = (5, 0) := rfl
theorem s_36 : S0 36 = (20, 36) := rfl
theorem s_37 : S0 37 = (5, 0) := rfl
theorem s_38 : S0 38 = (20, 36) := rfl
theorem s_39 : S0 39 = (5, 0) := rfl
theorem s_40 : S0 40 = (20, 36) := rfl
theorem s_41 : S0 41 = (5, 0) := rfl
theorem s_42 : S0 42 = (20, 36) := rfl
theorem s_43 : S0 43 = (5, 0) := rfl
theorem s_44 : S0 44 = (20, 36) := rfl
theorem s_45 : S0 45 = (5, 0) := rfl
theorem s_46 : S0 46 = (20, 36) := rfl
theorem s_47 : S0 47 = (0, 0) := rfl
theorem s_48 : S0 48 = (0, 0) := rfl
theorem s_49 : S0 49 = (0, 0) := rfl
theorem s_50 : S0 50 = (23, 3) := rfl
theorem s_51 : S0 51 = (22, 3) := rfl
theorem s_52 : S0 52 = (24, 3) := rfl
theorem s_53 : S0 53 = (20, 3) := rfl
theorem s_54 : S0 54 = (9, 0) := rfl
theorem s_55 : S0 55 = (20, 144) := rfl
theorem s_56 : S0 56 = (20, 144) := rfl
theorem s_57 : S0 57 = (3, 0) := rfl
theorem s_58 : S0 58 = (20, 25) := rfl
theorem s_59 : S0 59 = (20, 32) := rfl
theorem s_60 : S0 60 = (2, 0) := rfl
theorem s_61 : S0 61 = (20, 36) := rfl
theorem s_62 : S0 62 = (20, 144) := rfl
theorem s_63 : S0 63 = (20, 144) := rfl
theorem s_64 : S0 64 = (5, 0) := rfl
theorem s_65 : S0 65 = (20, 36) := rfl
theorem s_66 : S0 66 = (20, 3) := rfl
theorem s_67 : S0 67 = (1, 0) := rfl
theorem s_68 : S0 68 = (9, 0) := rfl
theorem s_69 : S0 69 = (20, 144) := rfl
theorem s_70 : S0 70 = (20, 144) := rfl
theorem s_71 : S0 71 = (21, 1296) := rfl
theorem s_72 : S0 72 = (21, 1296) := rfl
theorem s_73 : S0 73 = (21, 1296) := rfl
theorem s_74 : S0 74 = (21, 1296) := rfl
theorem s_75 : S0 75 = (0, 0) := rfl
theorem s_76 : S0 76 = (10, 0) := rfl
theorem s_77 : S0 77 = (7, 0) := rfl
theorem s_78 : S0 78 = (20, 12) := rfl
theorem s_79 : S0 79 = (21, 48) := rfl
theorem s_80 : S0 80 = (20, 48) := rfl
theorem s_81 : S0 81 = (0, 0) := rfl
theorem s_82 : S0 82 = (5, 0) := rfl
theorem s_83 : S0 83 = (20, 36) := rfl
theorem s_84 : S0 84 = (0, 0) := rfl
theorem s_85 : S0 85 = (5, 0) := rfl
theorem s_86 : S0 86 = (20, 36) := rfl
theorem s_87 : S0 87 = (0, 0) := rfl
theorem s_88 : S0 88 = (5, 0) := rfl
theorem s_89 : S0 89 = (20, 36) := rfl
theorem s_90 : S0 90 = (12, 0) := rfl
theorem s_91 : S0 91 = (21, 20) := rfl
theorem s_92 : S0 92 = (20, 36) := rfl
theorem s_93 : S0 93 = (20, 3) := rfl
theorem s_94 : S0 94 = (20, 36) := rfl
theorem s_95 : S0 95 = (20, 80) := rfl
theorem s_96 : S0 96 = (20, 36) := rfl
theorem s_97 : S0 97 = (20, 5) := rfl
theorem s_98 : S0 98 = (20, 5) := rfl
theorem s_99 : S0 99 = (20, 860) := rfl
theorem s_100 : S0 100 = (20, 144) := rfl
theorem s_101 : S0 101 = (22, 144) := rfl
theorem s_102 : S0 102 = (22, 144) := rfl
theorem s_103 : S0 103 = (21, 1440) := rfl
theorem s_104 : S0 104 = (21, 1440) := rfl
theorem s_105 : S0 105 = (21, 144) := rfl
theorem s_106 : S0 106 = (21, 144) := rfl
theorem s_107 : S0 107 = (21, 1440) := rfl
theorem s_108 : S0 108 = (21, 1440) := rfl
theorem s_109 : S0 109 = (22, 3) := rfl
theorem s_110 : S0 110 = (20, 15) := rfl
theorem s_111 : S0 111 = (20, 5) := rfl
theorem s_112 : S0 112 = (20, 32) := rfl
theorem s_113 : S0 113 = (20, 32) := rfl
theorem s_114 : S0 114 = (20, 12) := rfl
theorem s_115 : S0 115 = (21, 52) := rfl
theorem s_116 : S0 116 = (20, 52) := rfl
theorem s_117 : S0 117 = (20, 25) := rfl
theorem s_118 : S0 118 = (20, 5) := rfl
theorem s_119 : S0 119 = (20, 5) := rfl
theorem s_120 : S0 120 = (20, 129) := rfl
theorem s_121 : S0 121 = (20, 3) := rfl
theorem s_122 : S0 122 = (20, 3) := rfl
theorem s_123 : S0 123 = (21, 1) := rfl
def tabR : List (Nat × Nat × Nat) := [(0, 0, 1), (0, 1, 3), (0, 2, 60), (0, 3, 64), (0, 4, 5), (0, 5, 66), (0, 7, 47), (0, 8, 48), (0, 9, 49), (0, 10, 50), (0, 11, 51), (0, 12, 52), (0, 13, 53), (0, 14, 67), (0, 15, 54), (0, 16, 76), (0, 17, 77), (0, 18, 57), (1, 0, 2), (3, 0, 4), (5, 0, 6), (6, 0, 7), (6, 1, 9), (6, 2, 11), (6, 3, 13), (6, 4, 15), (6, 5, 17), (6, 6, 19), (6, 7, 21), (6, 8, 23), (6, 9, 25), (6, 10, 27), (6, 11, 29), (6, 12, 31), (6, 13, 33), (6, 14, 35), (6, 15, 37), (6, 16, 39), (6, 17, 41), (6, 18, 43), (6, 19, 45), (7, 6, 8), (9, 6, 10), (11, 6, 12), (13, 6, 14), (15, 6, 16), (17, 6, 18), (19, 6, 20), (21, 6, 22), (23, 6, 24), (25, 6, 26), (27, 6, 28), (29, 6, 30), (31, 6, 32), (33, 6, 34), (35, 6, 36), (37, 6, 38), (39, 6, 40), (41, 6, 42), (43, 6, 44), (45, 6, 46), (50, 0, 81), (50, 1, 84), (50, 2, 87), (52, 0, 82), (52, 1, 85), (52, 2, 88), (54, 0, 55), (54, 1, 56), (57, 0, 58), (57, 1, 59), (60, 2, 61), (60, 3, 62), (60, 4, 63), (64, 6, 65), (67, 0, 60), (67, 1, 66), (67, 2, 68), (68, 0, 69), (68, 1, 70), (76, 0, 60), (76, 1, 64), (77, 0, 60), (77, 1, 66), (77, 2, 78), (77, 3, 79), (77, 4, 80), (82, 6, 83), (85, 6, 86), (88, 6, 89), (90, 2, 91), (90, 5, 92), (90, 9, 93), (90, 15, 94), (90, 16, 95), (90, 20, 96), (90, 21, 97), (90, 22, 98), (90, 24, 99), (90, 25, 100), (90, 26, 101), (90, 27, 102), (90, 28, 103), (90, 29, 104), (90, 30, 105), (90, 31, 106), (90, 32, 107), (90, 33, 108), (90, 34, 109), (90, 35, 110), (90, 36, 111), (90, 39, 112), (90, 40, 113), (90, 44, 114), (90, 45, 115), (90, 46, 116), (90, 47, 117), (90, 48, 118), (90, 49, 119), (90, 51, 120), (90, 52, 121), (90, 53, 122)]
/-- what the references are; the guide's two pairs of layers change places (p), its fee is fe -/
def RG (p : Bool) (fe : Nat) (R : MR) : Prop := (∀ q ∈ tabR, R q.1 q.2.1 = some q.2.2) ∧ R 67 3 = some (if p then 71 else 72) ∧ R 67 4 = some (if p then 72 else 71) ∧ R 67 5 = some (if p then 73 else 74) ∧ R 67 6 = some (if p then 74 else 73) ∧ R 67 7 = some fe
theorem r_0_0 {p : Bool} {fe : Nat} {R : MR} (h : RG p fe R) : R 0 0 = some 1 := h.1 (0, 0, 1) (List.mem_of_getElem? (i := 0) rfl)
theorem r_0_1 {p : Bool} {fe : Nat} {R : MR} (h : RG p fe R) : R 0 1 = some 3 := h.1 (0, 1, 3) (List.mem_of_getElem? (i := 1) rfl)
theorem r_0_2 {p : Bool} {fe : Nat} {R : MR} (h : RG p fe R) : R 0 2 = some 60 := h.1 (0, 2, 60) (List.mem_of_getElem? (i := 2) rfl)
theorem r_0_3 {p : Bool} {fe : Nat} {R : MR} (h : RG p fe R) : R 0 3 = some 64 := h.1 (0, 3, 64) (List.mem_of_getElem? (i := 3) rfl)
theorem r_0_4 {p : Bool} {fe : Nat} {R : MR} (h : RG p fe R) : R 0 4 = some 5 := h.1 (0, 4, 5) (List.mem_of_getElem? (i := 4) rfl)
theorem r_0_5 {p : Bool} {fe : Nat} {R : MR} (h : RG p fe R) : R 0 5 = some 66 := h.1 (0, 5, 66) (List.mem_of_getElem? (i := 5) rfl)
theorem r_0_7 {p : Bool} {fe : Nat} {R : MR} (h : RG p fe R) : R 0 7 = some 47 := h.1 (0, 7, 47) (List.mem_of_getElem? (i := 6) rfl)
theorem r_0_8 {p : Bool} {fe : Nat} {R : MR} (h : RG p fe R) : R 0 8 = some 48 := h.1 (0, 8, 48) (List.mem_of_getElem? (i := 7) rfl)
theorem r_0_9 {p : Bool} {fe : Nat} {R : MR} (h : RG p fe R) : R 0 9 = some 49 := h.1 (0, 9, 49) (List.mem_of_getElem? (i := 8) rfl)
theorem r_0_10 {p : Bool} {fe : Nat} {R : MR} (h : RG p fe R) : R 0 10 = some 50 := h.1 (0, 10, 50) (List.mem_of_getElem? (i := 9) rfl)
theorem r_0_11 {p : Bool} {fe : Nat} {R : MR} (h : RG p fe R) : R 0 11 = some 51 := h.1 (0, 11, 51) (List.mem_of_getElem? (i := 10) rfl)
theorem r_0_12 {p : Bool} {fe : Nat} {R : MR} (h : RG p fe R) : R 0 12 = some 52 := h.1 (0, 12, 52) (List.mem_of_getElem? (i := 11) rfl)
theorem r_0_13 {p : Bool} {fe : Nat} {R : MR} (h : RG p fe R) : R 0 13 = some 53 := h.1 (0, 13, 53) (List.mem_of_getElem? (i := 12) rfl)
theorem r_0_14 {p : Bool} {fe : Nat} {R : MR} (h : RG p fe R) : R 0 14 = some 67 := h.1 (0, 14, 67) (List.mem_of_getElem? (i := 13) rfl)
theorem r_0_15 {p : Bool} {fe : Nat} {R : MR} (h : RG p fe R) : R 0 15 = some 54 := h.1 (0, 15, 54) (List.mem_of_getElem? (i := 14) rfl)
theorem r_0_16 {p : Bool} {fe : Nat} {R : MR} (h : RG p fe R) : R 0 16 = some 76 := h.1 (0, 16, 76) (List.mem_of_getElem? (i := 15) rfl)
theorem r_0_17 {p : Bool} {fe : Nat} {R : MR} (h : RG p fe R) : R 0 17 = some 77 := h.1 (0, 17, 77) (List.mem_of_getElem? (i := 16) rfl)
theorem r_0_18 {p : Bool} {fe : Nat} {R : MR} (h : RG p fe R) : R 0 18 = some 57 := h.1 (0, 18, 57) (List.mem_of_getElem? (i := 17) rfl)
theorem r_1_0 {p : Bool} {fe : Nat} {R : MR} (h : RG p fe R) : R 1 0 = some 2 := h.1 (1, 0, 2) (List.mem_of_getElem? (i := 18) rfl)
theorem r_3_0 {p : Bool} {fe : Nat} {R : MR} (h : RG p fe R) : R 3 0 = some 4 := h.1 (3, 0, 4) (List.mem_of_getElem? (i := 19) rfl)
theorem r_5_0 {p : Bool} {fe : Nat} {R : MR} (h : RG p fe R) : R 5 0 = some 6 := h.1 (5, 0, 6) (List.mem_of_getElem? (i := 20) rfl)
theorem r_6_0 {p : Bool} {fe : Nat} {R : MR} (h : RG p fe R) : R 6 0 = some 7 := h.1 (6, 0, 7) (List.mem_of_getElem? (i := 21) rfl)
theorem r_6_1 {p : Bool} {fe : Nat} {R : MR} (h : RG p fe R) : R 6 1 = some 9 := h.1 (6, 1, 9) (List.mem_of_getElem? (i := 22) rfl)
theorem r_6_2 {p : Bool} {fe : Nat} {R : MR} (h : RG p fe R) : R 6 2 = some 11 := h.1 (6, 2, 11) (List.mem_of_getElem? (i := 23) rfl)
theorem r_6_3 {p : Bool} {fe : Nat} {R : MR} (h : RG p fe R) : R 6 3 = some 13 := h.1 (6, 3, 13) (List.mem_of_getElem? (i := 24) rfl)
theorem r_6_4 {p : Bool} {fe : Nat} {R : MR} (h : RG p fe R) : R 6 4 = some 15 := h.1 (6, 4, 15) (List.mem_of_getElem? (i := 25) rfl)
theorem r_6_5 {p : Bool} {fe : Nat} {R : MR} (h : RG p fe R) : R 6 5 = some 17 := h.1 (6, 5, 17) (List.mem_of_getElem? (i := 26) rfl)
theorem r_6_6 {p : Bool} {fe : Nat} {R : MR} (h : RG p fe R) : R 6 6 = some 19 := h.1 (6, 6, 19) (List.mem_of_getElem? (i := 27) rfl)
theorem r_6_7 {p : Bool} {fe : Nat} {R : MR} (h : RG p fe R) : R 6 7 = some 21 := h.1 (6, 7, 21) (List.mem_of_getElem? (i := 28) rfl)
theorem r_6_8 {p : Bool} {fe : Nat} {R : MR} (h : RG p fe R) : R 6 8 = some 23 := h.1 (6, 8, 23) (List.mem_of_getElem? (i := 29) rfl)
theorem r_6_9 {p : Bool} {fe : Nat} {R : MR} (h : RG p fe R) : R 6 9 = some 25 := h.1 (6, 9, 25) (List.mem_of_getElem? (i := 30) rfl)
theorem r_6_10 {p : Bool} {fe : Nat} {R : MR} (h : RG p fe R) : R 6 10 = some 27 := h.1 (6, 10, 27) (List.mem_of_getElem? (i := 31) rfl)
theorem r_6_11 {p : Bool} {fe : Nat} {R : MR} (h : RG p fe R) : R 6 11 = some 29 := h.1 (6, 11, 29) (List.mem_of_getElem? (i := 32) rfl)
theorem r_6_12 {p : Bool} {fe : Nat} {R : MR} (h : RG p fe R) : R 6 12 = some 31 := h.1 (6, 12, 31) (List.mem_of_getElem? (i := 33) rfl)
theorem r_6_13 {p : Bool} {fe : Nat} {R : MR} (h : RG p fe R) : R 6 13 = some 33 := h.1 (6, 13, 33) (List.mem_of_getElem? (i := 34) rfl)
theorem r_6_14 {p : Bool} {fe : Nat} {R : MR} (h : RG p fe R) : R 6 14 = some 35 := h.1 (6, 14, 35) (List.mem_of_getElem? (i := 35) rfl)
theorem r_6_15 {p : Bool} {fe : Nat} {R : MR} (h : RG p fe R) : R 6 15 = some 37 := h.1 (6, 15, 37) (List.mem_of_getElem? (i := 36) rfl)
theorem r_6_16 {p : Bool} {fe : Nat} {R : MR} (h : RG p fe R) : R 6 16 = some 39 := h.1 (6, 16, 39) (List.mem_of_getElem? (i := 37) rfl)
theorem r_6_17 {p : Bool} {fe : Nat} {R : MR} (h : RG p fe R) : R 6 17 = some 41 := h.1 (6, 17, 41) (List.mem_of_getElem? (i := 38) rfl)
theorem r_6_18 {p : Bool} {fe : Nat} {R : MR} (h : RG p fe R) : R 6 18 = some 43 := h.1 (6, 18, 43) (List.mem_of_getElem? (i := 39) rfl)
theorem r_6_19 {p : Bool} {fe : Nat} {R : MR} (h : RG p fe R) : R 6 19 = some 45 := h.1 (6, 19, 45) (List.mem_of_getElem? (i := 40) rfl)
theorem r_7_6 {p : Bool} {fe : Nat} {R : MR} (h : RG p fe R) : R 7 6 = some 8 := h.1 (7, 6, 8) (List.mem_of_getElem? (i := 41) rfl)
theorem r_9_6 {p : Bool} {fe : Nat} {R : MR} (h : RG p fe R) : R 9 6 = some 10 := h.1 (9, 6, 10) (List.mem_of_getElem? (i := 42) rfl)
theorem r_11_6 {p : Bool} {fe : Nat} {R : MR} (h : RG p fe R) : R 11 6 = some 12 := h.1 (11, 6, 12) (List.mem_of_getElem? (i := 43) rfl)
theorem r_13_6 {p : Bool} {fe : Nat} {R : MR} (h : RG p fe R) : R 13 6 = some 14 := h.1 (13, 6, 14) (List.mem_of_getElem? (i := 44) rfl)
theorem r_15_6 {p : Bool} {fe : Nat} {R : MR} (h : RG p fe R) : R 15 6 = some 16 := h.1 (15, 6, 16) (List.mem_of_getElem? (i := 45) rfl)
theorem r_17_6 {p : Bool} {fe : Nat} {R : MR} (h : RG p fe R) : R 17 6 = some 18 := h.1 (17, 6, 18) (List.mem_of_getElem? (i := 46) rfl)
theorem r_19_6 {p : Bool} {fe : Nat} {R : MR} (h : RG p fe R) : R 19 6 = some 20 := h.1 (19, 6, 20) (List.mem_of_getElem? (i := 47) rfl)
theorem r_21_6 {p : Bool} {fe : Nat} {R : MR} (h : RG p fe R) : R 21 6 = some 22 := h.1 (21, 6, 22) (List.mem_of_getElem? (i := 48) rfl)
theorem r_23_6 {p : Bool} {fe : Nat} {R : MR} (h : RG p fe R) : R 23 6 = some 24 := h.1 (23, 6, 24) (List.mem_of_getElem? (i := 49) rfl)
theorem r_25_6 {p : Bool} {fe : Nat} {R : MR} (h : RG p fe R) : R 25 6 = some 26 := h.1 (25, 6, 26) (List.mem_of_getElem? (i := 50) rfl)
theorem r_27_6 {p : Bool} {fe : Nat} {R : MR} (h : RG p fe R) : R 27 6 = some 28 := h.1 (27, 6, 28) (List.mem_of_getElem? (i := 51) rfl)
theorem r_29_6 {p : Bool} {fe : Nat} {R : MR} (h : RG p fe R) : R 29 6 = some 30 := h.1 (29, 6, 30) (List.mem_of_getElem? (i := 52) rfl)
theorem r_31_6 {p : Bool} {fe : Nat} {R : MR} (h : RG p fe R) : R 31 6 = some 32 := h.1 (31, 6, 32) (List.mem_of_getElem? (i := 53) rfl)
theorem r_33_6 {p : Bool} {fe : Nat} {R : MR} (h : RG p fe R) : R 33 6 = some 34 := h.1 (33, 6, 34) (List.mem_of_getElem? (i := 54) rfl)
theorem r_35_6 {p : Bool} {fe : Nat} {R : MR} (h : RG p fe R) : R 35 6 = some 36 := h.1 (35, 6, 36) (List.mem_of_getElem? (i := 55) rfl)
theorem r_37_6 {p : Bool} {fe : Nat} {R : MR} (h : RG p fe R) : R 37 6 = some 38 := h.1 (37, 6, 38) (List.mem_of_getElem? (i := 56) rfl)
theorem r_39_6 {p : Bool} {fe : Nat} {R : MR} (h : RG p fe R) : R 39 6 = some 40 := h.1 (39, 6, 40) (List.mem_of_getElem? (i := 57) rfl)
theorem r_41_6 {p : Bool} {fe : Nat} {R : MR} (h : RG p fe R) : R 41 6 = some 42 := h.1 (41, 6, 42) (List.mem_of_getElem? (i := 58) rfl)
theorem r_43_6 {p : Bool} {fe : Nat} {R : MR} (h : RG p fe R) : R 43 6 = some 44 := h.1 (43, 6, 44) (List.mem_of_getElem? (i := 59) rfl)
theorem r_45_6 {p : Bool} {fe : Nat} {R : MR} (h : RG p fe R) : R 45 6 = some 46 := h.1 (45, 6, 46) (List.mem_of_getElem? (i := 60) rfl)
theorem r_50_0 {p : Bool} {fe : Nat} {R : MR} (h : RG p fe R) : R 50 0 = some 81 := h.1 (50, 0, 81) (List.mem_of_getElem? (i := 61) rfl)
theorem r_50_1 {p : Bool} {fe : Nat} {R : MR} (h : RG p fe R) : R 50 1 = some 84 := h.1 (50, 1, 84) (List.mem_of_getElem? (i := 62) rfl)
theorem r_50_2 {p : Bool} {fe : Nat} {R : MR} (h : RG p fe R) : R 50 2 = some 87 := h.1 (50, 2, 87) (List.mem_of_getElem? (i := 63) rfl)
theorem r_52_0 {p : Bool} {fe : Nat} {R : MR} (h : RG p fe R) : R 52 0 = some 82 := h.1 (52, 0, 82) (List.mem_of_getElem? (i := 64) rfl)
theorem r_52_1 {p : Bool} {fe : Nat} {R : MR} (h : RG p fe R) : R 52 1 = some 85 := h.1 (52, 1, 85) (List.mem_of_getElem? (i := 65) rfl)
theorem r_52_2 {p : Bool} {fe : Nat} {R : MR} (h : RG p fe R) : R 52 2 = some 88 := h.1 (52, 2, 88) (List.mem_of_getElem? (i := 66) rfl)
theorem r_54_0 {p : Bool} {fe : Nat} {R : MR} (h : RG p fe R) : R 54 0 = some 55 := h.1 (54, 0, 55) (List.mem_of_getElem? (i := 67) rfl)
theorem r_54_1 {p : Bool} {fe : Nat} {R : MR} (h : RG p fe R) : R 54 1 = some 56 := h.1 (54, 1, 56) (List.mem_of_getElem? (i := 68) rfl)
theorem r_57_0 {p : Bool} {fe : Nat} {R : MR} (h : RG p fe R) : R 57 0 = some 58 := h.1 (57, 0, 58) (List.mem_of_getElem? (i := 69) rfl)
theorem r_57_1 {p : Bool} {fe : Nat} {R : MR} (h : RG p fe R) : R 57 1 = some 59 := h.1 (57, 1, 59) (List.mem_of_getElem? (i := 70) rfl)
theorem r_60_2 {p : Bool} {fe : Nat} {R : MR} (h : RG p fe R) : R 60 2 = some 61 := h.1 (60, 2, 61) (List.mem_of_getElem? (i := 71) rfl)
theorem r_60_3 {p : Bool} {fe : Nat} {R : MR} (h : RG p fe R) : R 60 3 = some 62 := h.1 (60, 3, 62) (List.mem_of_getElem? (i := 72) rfl)
theorem r_60_4 {p : Bool} {fe : Nat} {R : MR} (h : RG p fe R) : R 60 4 = some 63 := h.1 (60, 4, 63) (List.mem_of_getElem? (i := 73) rfl)
theorem r_64_6 {p : Bool} {fe : Nat} {R : MR} (h : RG p fe R) : R 64 6 = some 65 := h.1 (64, 6, 65) (List.mem_of_getElem? (i := 74) rfl)
theorem r_67_0 {p : Bool} {fe : Nat} {R : MR} (h : RG p fe R) : R 67 0 = some 60 := h.1 (67, 0, 60) (List.mem_of_getElem? (i := 75) rfl)
theorem r_67_1 {p : Bool} {fe : Nat} {R : MR} (h : RG p fe R) : R 67 1 = some 66 := h.1 (67, 1, 66) (List.mem_of_getElem? (i := 76) rfl)
theorem r_67_2 {p : Bool} {fe : Nat} {R : MR} (h : RG p fe R) : R 67 2 = some 68 := h.1 (67, 2, 68) (List.mem_of_getElem? (i := 77) rfl)
theorem r_68_0 {p : Bool} {fe : Nat} {R : MR} (h : RG p fe R) : R 68 0 = some 69 := h.1 (68, 0, 69) (List.mem_of_getElem? (i := 78) rfl)
theorem r_68_1 {p : Bool} {fe : Nat} {R : MR} (h : RG p fe R) : R 68 1 = some 70 := h.1 (68, 1, 70) (List.mem_of_getElem? (i := 79) rfl)
theorem r_76_0 {p : Bool} {fe : Nat} {R : MR} (h : RG p fe R) : R 76 0 = some 60 := h.1 (76, 0, 60) (List.mem_of_getElem? (i := 80) rfl)
theorem r_76_1 {p : Bool} {fe : Nat} {R : MR} (h : RG p fe R) : R 76 1 = some 64 := h.1 (76, 1, 64) (List.mem_of_getElem? (i := 81) rfl)
theorem r_77_0 {p : Bool} {fe : Nat} {R : MR} (h : RG p fe R) : R 77 0 = some 60 := h.1 (77, 0, 60) (List.mem_of_getElem? (i := 82) rfl)
theorem r_77_1 {p : Bool} {fe : Nat} {R : MR} (h : RG p fe R) : R 77 1 = some 66 := h.1 (77, 1, 66) (List.mem_of_getElem? (i := 83) rfl)
theorem r_77_2 {p : Bool} {fe : Nat} {R : MR} (h : RG p fe R) : R 77 2 = some 78 := h.1 (77, 2, 78) (List.mem_of_getElem? (i := 84) rfl)
theorem r_77_3 {p : Bool} {fe : Nat} {R : MR} (h : RG p fe R) : R 77 3 = some 79 := h.1 (77, 3, 79) (List.mem_of_getElem? (i := 85) rfl)
theorem r_77_4 {p : Bool} {fe : Nat} {R : MR} (h : RG p fe R) : R 77 4 = some 80 := h.1 (77, 4, 80) (List.mem_of_getElem? (i := 86) rfl)
theorem r_82_6 {p : Bool} {fe : Nat} {R : MR} (h : RG p fe R) : R 82 6 = some 83 := h.1 (82, 6, 83) (List.mem_of_getElem? (i := 87) rfl)
theorem r_85_6 {p : Bool} {fe : Nat} {R : MR} (h : RG p fe R) : R 85 6 = some 86 := h.1 (85, 6, 86) (List.mem_of_getElem? (i := 88) rfl)
theorem r_88_6 {p : Bool} {fe : Nat} {R : MR} (h : RG p fe R) : R 88 6 = some 89 := h.1 (88, 6, 89) (List.mem_of_getElem? (i := 89) rfl)
theorem r_90_2 {p : Bool} {fe : Nat} {R : MR} (h : RG p fe R) : R 90 2 = some 91 := h.1 (90, 2, 91) (List.mem_of_getElem? (i := 90) rfl)
theorem r_90_5 {p : Bool} {fe : Nat} {R : MR} (h : RG p fe R) : R 90 5 = some 92 := h.1 (90, 5, 92) (List.mem_of_getElem? (i := 91) rfl)
theorem r_90_9 {p : Bool} {fe : Nat} {R : MR} (h : RG p fe R) : R 90 9 = some 93 := h.1 (90, 9, 93) (List.mem_of_getElem? (i := 92) rfl)
theorem r_90_15 {p : Bool} {fe : Nat} {R : MR} (h : RG p fe R) : R 90 15 = some 94 := h.1 (90, 15, 94) (List.mem_of_getElem? (i := 93) rfl)
theorem r_90_16 {p : Bool} {fe : Nat} {R : MR} (h : RG p fe R) : R 90 16 = some 95 := h.1 (90, 16, 95) (List.mem_of_getElem? (i := 94) rfl)
theorem r_90_20 {p : Bool} {fe : Nat} {R : MR} (h : RG p fe R) : R 90 20 = some 96 := h.1 (90, 20, 96) (List.mem_of_getElem? (i := 95) rfl)
theorem r_90_21 {p : Bool} {fe : Nat} {R : MR} (h : RG p fe R) : R 90 21 = some 97 := h.1 (90, 21, 97) (List.mem_of_getElem? (i := 96) rfl)
theorem r_90_22 {p : Bool} {fe : Nat} {R : MR} (h : RG p fe R) : R 90 22 = some 98 := h.1 (90, 22, 98) (List.mem_of_getElem? (i := 97) rfl)
theorem r_90_24 {p : Bool} {fe : Nat} {R : MR} (h : RG p fe R) : R 90 24 = some 99 := h.1 (90, 24, 99) (List.mem_of_getElem? (i := 98) rfl)
theorem r_90_25 {p : Bool} {fe : Nat} {R : MR} (h : RG p fe R) : R 90 25 = some 100 := h.1 (90, 25, 100) (List.mem_of_getElem? (i := 99) rfl)
theorem r_90_26 {p : Bool} {fe : Nat} {R : MR} (h : RG p fe R) : R 90 26 = some 101 := h.1 (90, 26, 101) (List.mem_of_getElem? (i := 100) rfl)
theorem r_90_27 {p : Bool} {fe : Nat} {R : MR} (h : RG p fe R) : R 90 27 = some 102 := h.1 (90, 27, 102) (List.mem_of_getElem? (i := 101) rfl)
theorem r_90_28 {p : Bool} {fe : Nat} {R : MR} (h : RG p fe R) : R 90 28 = some 103 := h.1 (90, 28, 103) (List.mem_of_getElem? (i := 102) rfl)
theorem r_90_29 {p : Bool} {fe : Nat} {R : MR} (h : RG p fe R) : R 90 29 = some 104 := h.1 (90, 29, 104) (List.mem_of_getElem? (i := 103) rfl)
theorem r_90_30 {p : Bool} {fe : Nat} {R : MR} (h : RG p fe R) : R 90 30 = some 105 := h.1 (90, 30, 105) (List.mem_of_getElem? (i := 104) rfl)
theorem r_90_31 {p : Bool} {fe : Nat} {R : MR} (h : RG p fe R) : R 90 31 = some 106 := h.1 (90, 31, 106) (List.mem_of_getElem? (i := 105) rfl)
theorem r_90_32 {p : Bool} {fe : Nat} {R : MR} (h : RG p fe R) : R 90 32 = some 107 := h.1 (90, 32, 107) (List.mem_of_getElem? (i := 106) rfl)
theorem r_90_33 {p : Bool} {fe : Nat} {R : MR} (h : RG p fe R) : R 90 33 = some 108 := h.1 (90, 33, 108) (List.mem_of_getElem? (i := 107) rfl)
theorem r_90_34 {p : Bool} {fe : Nat} {R : MR} (h : RG p fe R) : R 90 34 = some 109 := h.1 (90, 34, 109) (List.mem_of_getElem? (i := 108) rfl)
theorem r_90_35 {p : Bool} {fe : Nat} {R : MR} (h : RG p fe R) : R 90 35 = some 110 := h.1 (90, 35, 110) (List.mem_of_getElem? (i := 109) rfl)
theorem r_90_36 {p : Bool} {fe : Nat} {R : MR} (h : RG p fe R) : R 90 36 = some 111 := h.1 (90, 36, 111) (List.mem_of_getElem? (i := 110) rfl)
theorem r_90_39 {p : Bool} {fe : Nat} {R : MR} (h : RG p fe R) : R 90 39 = some 112 := h.1 (90, 39, 112) (List.mem_of_getElem? (i := 111) rfl)
theorem r_90_40 {p : Bool} {fe : Nat} {R : MR} (h : RG p fe R) : R 90 40 = some 113 := h.1 (90, 40, 113) (List.mem_of_getElem? (i := 112) rfl)
theorem r_90_44 {p : Bool} {fe : Nat} {R : MR} (h : RG p fe R) : R 90 44 = some 114 := h.1 (90, 44, 114) (List.mem_of_getElem? (i := 113) rfl)
theorem r_90_45 {p : Bool} {fe : Nat} {R : MR} (h : RG p fe R) : R 90 45 = some 115 := h.1 (90, 45, 115) (List.mem_of_getElem? (i := 114) rfl)
theorem r_90_46 {p : Bool} {fe : Nat} {R : MR} (h : RG p fe R) : R 90 46 = some 116 := h.1 (90, 46, 116) (List.mem_of_getElem? (i := 115) rfl)
theorem r_90_47 {p : Bool} {fe : Nat} {R : MR} (h : RG p fe R) : R 90 47 = some 117 := h.1 (90, 47, 117) (List.mem_of_getElem? (i := 116) rfl)
theorem r_90_48 {p : Bool} {fe : Nat} {R : MR} (h : RG p fe R) : R 90 48 = some 118 := h.1 (90, 48, 118) (List.mem_of_getElem? (i := 117) rfl)
theorem r_90_49 {p : Bool} {fe : Nat} {R : MR} (h : RG p fe R) : R 90 49 = some 119 := h.1 (90, 49, 119) (List.mem_of_getElem? (i := 118) rfl)
theorem r_90_51 {p : Bool} {fe : Nat} {R : MR} (h : RG p fe R) : R 90 51 = some 120 := h.1 (90, 51, 120) (List.mem_of_getElem? (i := 119) rfl)
theorem r_90_52 {p : Bool} {fe : Nat} {R : MR} (h : RG p fe R) : R 90 52 = some 121 := h.1 (90, 52, 121) (List.mem_of_getElem? (i := 120) rfl)
theorem r_90_53 {p : Bool} {fe : Nat} {R : MR} (h : RG p fe R) : R 90 53 = some 122 := h.1 (90, 53, 122) (List.mem_of_getElem? (i := 121) rfl)
/-! small rows -/
theorem wI_s {I : MI} {a k : Nat} {v : Int32} : wI I a k v a k = v := by simp [wI]
theorem wI_n {I : MI} {a k b j : Nat} {v : Int32} (h : ¬ (b = a ∧ j = k)) : wI I a k v b j = I b j := by simp [wI, h]
theorem wI_r {I : MI} {a k b : Nat} {v : Int32} (h : b ≠ a) : wI I a k v b = I b := by funext j; simp [wI, h]
theorem wL_s {I : ML} {a k : Nat} {v : Int64} : wL I a k v a k = v := by simp [wL]
theorem wL_n {I : ML} {a k b j : Nat} {v : Int64} (h : ¬ (b = a ∧ j = k)) : wL I a k v b j = I b j := by simp [wL, h]
theorem wL_r {I : ML} {a k b : Nat} {v : Int64} (h : b ≠ a) : wL I a k v b = I b := by funext j; simp [wL, h]
theorem wR_s {I : MR} {a k : Nat} {v : Option Nat} : wR I a k v a k = v := by simp [wR]
theorem wR_n {I : MR} {a k b j : Nat} {v : Option Nat} (h : ¬ (b = a ∧ j = k)) : wR I a k v b j = I b j := by simp [wR, h]
theorem clamp0 : (0 : Int32).toNatClampNeg = 0 := by decide
theorem nI0 : (0 : Int32) = nI 0 := rfl
theorem bnd0_c {β : Type} {f : Option β} : bnd0 (some ()) f = f := rfl
theorem bnd1_c {α β : Type} {a : α} {f : α → Option β} : bnd1 (some a) f = f a := rfl
theorem bnd2_c {α γ β : Type} {a : α} {b : γ} {f : α → γ → Option β} : bnd2 (some (a, b)) f = f a b := rfl
theorem bnd3_c {α γ δ β : Type} {a : α} {b : γ} {c : δ} {f : α → γ → δ → Option β} : bnd3 (some (a, b, c)) f = f a b c := rfl
theorem bnd4_c {α γ δ ε β : Type} {a : α} {b : γ} {c : δ} {d : ε} {f : α → γ → δ → ε → Option β} : bnd4 (some (a, b, c, d)) f = f a b c d := rfl
theorem bnd5_c {α γ δ ε ζ β : Type} {a : α} {b : γ} {c : δ} {d : ε} {e : ζ} {f : α → γ → δ → ε → ζ → Option β} : bnd5 (some (a, b, c, d, e)) f = f a b c d e := rfl
theorem lt_c {α β : Type} {x : α} {f : α → β} : lt x f = f x := rfl
theorem asrt_t {α : Type} {A : Option α} : asrt True A = A := asrt_pos trivial
theorem ifb_t {α : Type} {A B : Option α} : ifb True A B = A := ifb_pos trivial
theorem ifb_f {α : Type} {A B : Option α} : ifb False A B = B := ifb_neg (fun h => h)
