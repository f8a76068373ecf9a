/-! ===== what the tables say is so: methods, links, handlers, throws; printed by wip/whole/gen_good2.py ===== -/
def mt_mi : List (Nat × Nat × Nat × Nat × Nat) := [(0, 0, 0, 0, 0), (39, 3, 38, 0, 0), (83, 4, 82, 0, 0), (33, 2, 32, 0, 0), (108, 5, 107, 0, 0), (133, 6, 132, 0, 0), (148, 7, 147, 0, 0), (23, 1, 22, 0, 0), (780, 8, 779, 0, 0), (211, 1, 210, 0, 0), (276, 1, 275, 0, 0), (298, 14, 297, 0, 0), (295, 4, 293, 294, 0), (0, 0, 0, 0, 0), (0, 0, 0, 0, 0), (315, 4, 314, 0, 0), (306, 4, 305, 1, 1), (302, 4, 300, 301, 0), (320, 2, 318, 319, 0), (342, 17, 341, 0, 0), (339, 16, 338, 0, 0), (336, 4, 335, 2, 1), (332, 4, 330, 331, 0), (328, 4, 326, 327, 0), (347, 4, 345, 346, 0), (356, 4, 354, 355, 0), (351, 2, 350, 3, 1), (0, 0, 0, 0, 0), (360, 4, 358, 359, 0), (324, 2, 322, 323, 0), (367, 1, 366, 4, 1), (208, 1, 206, 207, 0), (202, 0, 201, 0, 0), (938, 8, 937, 0, 0), (942, 8, 941, 26, 1), (946, 8, 945, 27, 1), (950, 8, 949, 28, 1), (958, 8, 957, 30, 1), (954, 8, 953, 29, 1), (962, 8, 961, 31, 1), (935, 8, 933, 934, 0), (931, 8, 929, 930, 0), (378, 3, 376, 377, 0), (374, 1, 372, 373, 0), (370, 0, 369, 0, 0), (974, 8, 973, 33, 1), (970, 8, 969, 32, 1), (966, 8, 964, 965, 0), (389, 3, 387, 388, 0), (399, 3, 397, 398, 0), (407, 3, 405, 406, 0), (411, 3, 409, 410, 0), (403, 3, 401, 402, 0), (395, 1, 394, 0, 0), (418, 4, 417, 0, 0), (415, 4, 413, 414, 0), (385, 1, 383, 384, 0), (381, 0, 380, 0, 0), (986, 8, 985, 35, 1), (982, 8, 981, 34, 1), (994, 8, 993, 37, 1), (990, 8, 989, 36, 1), (998, 8, 997, 38, 1), (1006, 8, 1005, 40, 1), (1010, 8, 1009, 41, 1), (1002, 8, 1001, 39, 1), (978, 8, 976, 977, 0), (429, 4, 427, 428, 0), (425, 1, 423, 424, 0), (421, 0, 420, 0, 0), (1018, 8, 1017, 42, 1), (1014, 8, 1012, 1013, 0), (436, 1, 434, 435, 0), (432, 0, 431, 0, 0), (1025, 8, 1024, 0, 0), (1022, 8, 1020, 1021, 0), (452, 1, 451, 6, 1), (448, 1, 447, 5, 1), (458, 1, 457, 7, 1), (470, 3, 468, 469, 0), (466, 3, 464, 465, 0), (482, 3, 480, 481, 0), (478, 3, 476, 477, 0), (474, 1, 473, 9, 1), (462, 1, 461, 8, 1), (444, 1, 442, 443, 0), (440, 0, 439, 0, 0), (1033, 8, 1032, 43, 1), (1037, 8, 1036, 44, 1), (1029, 8, 1027, 1028, 0), (492, 1, 491, 0, 0), (489, 1, 487, 488, 0), (485, 0, 484, 0, 0), (1045, 8, 1044, 45, 1), (1049, 8, 1048, 46, 1), (1041, 8, 1039, 1040, 0), (508, 3, 506, 507, 0), (503, 1, 502, 10, 1), (499, 1, 497, 498, 0), (495, 0, 494, 0, 0), (1057, 8, 1056, 47, 1), (1053, 8, 1051, 1052, 0), (515, 1, 513, 514, 0), (511, 0, 510, 0, 0), (1061, 8, 1059, 1060, 0), (522, 1, 520, 521, 0), (518, 0, 517, 0, 0), (1065, 8, 1063, 1064, 0), (529, 1, 527, 528, 0), (525, 0, 524, 0, 0), (1069, 8, 1067, 1068, 0), (536, 1, 534, 535, 0), (532, 0, 531, 0, 0), (1077, 8, 1076, 48, 1), (1073, 8, 1071, 1072, 0), (555, 14, 554, 0, 0), (562, 5, 561, 0, 0), (566, 3, 564, 565, 0), (570, 5, 569, 13, 1), (578, 3, 576, 577, 0), (583, 5, 582, 15, 1), (589, 5, 588, 16, 1), (574, 5, 573, 14, 1), (594, 5, 593, 17, 1), (559, 5, 558, 12, 1), (551, 5, 549, 550, 0), (547, 1, 546, 11, 1), (607, 5, 606, 18, 1), (611, 5, 609, 610, 0), (0, 0, 0, 0, 0), (618, 5, 616, 617, 0), (603, 5, 601, 602, 0), (599, 5, 597, 598, 0), (642, 6, 641, 22, 1), (638, 6, 637, 21, 1), (632, 6, 631, 20, 1), (626, 6, 624, 625, 0), (622, 1, 621, 19, 1), (652, 5, 650, 651, 0), (648, 5, 646, 647, 0), (543, 1, 541, 542, 0), (539, 0, 538, 0, 0), (1089, 8, 1088, 50, 1), (1085, 8, 1084, 49, 1), (1093, 8, 1092, 51, 1), (1101, 8, 1100, 53, 1), (1105, 8, 1104, 54, 1), (1109, 8, 1108, 55, 1), (1097, 8, 1096, 52, 1), (1117, 8, 1116, 57, 1), (1121, 8, 1120, 58, 1), (1129, 8, 1128, 60, 1), (1125, 8, 1124, 59, 1), (1113, 8, 1112, 56, 1), (1133, 8, 1132, 61, 1), (1081, 8, 1079, 1080, 0), (664, 5, 662, 663, 0), (660, 1, 658, 659, 0), (656, 0, 655, 0, 0), (1137, 8, 1135, 1136, 0), (673, 1, 671, 672, 0), (669, 0, 668, 0, 0), (1142, 8, 1140, 1141, 0), (686, 5, 684, 685, 0), (682, 1, 680, 681, 0), (678, 0, 677, 0, 0), (1146, 8, 1144, 1145, 0), (694, 1, 692, 693, 0), (690, 0, 689, 0, 0), (1150, 8, 1148, 1149, 0), (701, 1, 699, 700, 0), (697, 0, 696, 0, 0), (1154, 8, 1152, 1153, 0), (716, 7, 714, 715, 0), (729, 7, 728, 25, 1), (725, 7, 723, 724, 0), (720, 1, 719, 24, 1), (712, 1, 711, 23, 1), (708, 1, 706, 707, 0), (704, 0, 703, 0, 0), (1166, 8, 1165, 63, 1), (1162, 8, 1161, 62, 1), (1158, 8, 1156, 1157, 0), (736, 1, 734, 735, 0), (732, 0, 731, 0, 0), (1170, 8, 1168, 1169, 0), (746, 1, 745, 0, 0), (749, 1, 748, 0, 0), (743, 1, 741, 742, 0), (739, 0, 738, 0, 0), (1177, 8, 1176, 0, 0), (1174, 8, 1172, 1173, 0), (760, 5, 758, 759, 0), (765, 5, 763, 764, 0), (771, 3, 769, 770, 0), (775, 5, 773, 774, 0), (756, 1, 754, 755, 0), (752, 0, 751, 0, 0), (1181, 8, 1179, 1180, 0), (0, 0, 0, 0, 0)]
def mt_sel (q : Nat × Nat × Nat × Nat × Nat) (y : Nat) (me : mm_E) : Bool := if q.2.2.2.2 = 1 then decide ((lw_privs[q.2.2.2.1]?).map (·.1) = some (mt_nmf y)) && decide ((mt_nmf y).cls = mt_cnf me.1) else decide (tables_1[q.2.2.2.1]? = some (Cond.selects (mt_cnf me.1) (mt_nmf y) (mt_nmf y)))
theorem mt_sel_in {q : Nat × Nat × Nat × Nat × Nat} {y : Nat} {me : mm_E} (h : mt_sel q y me = true) : Cond.selects (mt_cnf me.1) (mt_nmf y) (mt_nmf y) ∈ mt_Ts := by
  unfold mt_sel at h
  split at h
  · simp only [Bool.and_eq_true, decide_eq_true_eq] at h
    obtain ⟨p, h1, h2⟩ := Option.map_eq_some_iff.mp h.1
    refine List.mem_filter.mpr ⟨List.mem_append_left _ (List.mem_map.mpr ⟨p, List.mem_of_getElem? h1, ?_⟩), rfl⟩
    rw [h2, h.2]
  · exact mt_in h rfl
def mt_mchk (y : Nat) : Bool := match mt_mt[y]? with
  | some me => decide (10 ≤ me.2.1) || (plainName (mt_nmf y).cls && decide ((mt_nmf y).cls = mt_cnf me.1) && decide ((mt_nmf y).cls ≠ "java/lang/invoke/MethodHandle") && decide ((mt_nmf y).cls ≠ "java/lang/invoke/VarHandle") && decide ((parseMethodDescriptor (mt_nmf y).desc).map (fun d => d.parameters.length) = some me.2.2.1) && decide (tables_1[(mt_mi.getD y (0, 0, 0, 0, 0)).2.1]? = some (Cond.initialized (mt_nmf y).cls)) &&
      ((decide (me.2.1 = 0) && decide (tables_1[(mt_mi.getD y (0, 0, 0, 0, 0)).2.2.1]? = some (Cond.static (mt_nmf y)))) || (decide (me.2.1 = 1) && decide (tables_1[(mt_mi.getD y (0, 0, 0, 0, 0)).2.2.1]? = some (Cond.instanceMethod (mt_nmf y))) && mt_sel (mt_mi.getD y (0, 0, 0, 0, 0)) y me && decide (mt_hhf y = []) && decide ((mt_cl[me.1]?).map (·.1) = some (mt_cnf me.1))) || (decide (me.2.1 = 2) && decide ((mt_nmf y).name = "<init>") && decide (tables_1[(mt_mi.getD y (0, 0, 0, 0, 0)).2.2.1]? = some (Cond.instanceMethod (mt_nmf y))) && decide (me.2.2.2.2.1 = none) && decide (mt_hhf y = []) && decide ((mt_cl[me.1]?).map (·.1) = some (mt_cnf me.1)))))
  | none => false
theorem mt_m0 : ((List.range 20).all fun k => mt_mchk (0 + k)) = true := by decide +kernel
theorem mt_m20 : ((List.range 20).all fun k => mt_mchk (20 + k)) = true := by decide +kernel
theorem mt_m40 : ((List.range 20).all fun k => mt_mchk (40 + k)) = true := by decide +kernel
theorem mt_m60 : ((List.range 20).all fun k => mt_mchk (60 + k)) = true := by decide +kernel
theorem mt_m80 : ((List.range 20).all fun k => mt_mchk (80 + k)) = true := by decide +kernel
theorem mt_m100 : ((List.range 20).all fun k => mt_mchk (100 + k)) = true := by decide +kernel
theorem mt_m120 : ((List.range 20).all fun k => mt_mchk (120 + k)) = true := by decide +kernel
theorem mt_m140 : ((List.range 20).all fun k => mt_mchk (140 + k)) = true := by decide +kernel
theorem mt_m160 : ((List.range 20).all fun k => mt_mchk (160 + k)) = true := by decide +kernel
theorem mt_m180 : ((List.range 19).all fun k => mt_mchk (180 + k)) = true := by decide +kernel
theorem mt_mall (y : Nat) (h : y < 199) : mt_mchk y = true := by
  by_cases h0 : y < 20
  · have g := List.all_eq_true.mp mt_m0 (y - 0) (List.mem_range.mpr (by omega))
    rw [show 0 + (y - 0) = y by omega] at g; exact g
  by_cases h20 : y < 40
  · have g := List.all_eq_true.mp mt_m20 (y - 20) (List.mem_range.mpr (by omega))
    rw [show 20 + (y - 20) = y by omega] at g; exact g
  by_cases h40 : y < 60
  · have g := List.all_eq_true.mp mt_m40 (y - 40) (List.mem_range.mpr (by omega))
    rw [show 40 + (y - 40) = y by omega] at g; exact g
  by_cases h60 : y < 80
  · have g := List.all_eq_true.mp mt_m60 (y - 60) (List.mem_range.mpr (by omega))
    rw [show 60 + (y - 60) = y by omega] at g; exact g
  by_cases h80 : y < 100
  · have g := List.all_eq_true.mp mt_m80 (y - 80) (List.mem_range.mpr (by omega))
    rw [show 80 + (y - 80) = y by omega] at g; exact g
  by_cases h100 : y < 120
  · have g := List.all_eq_true.mp mt_m100 (y - 100) (List.mem_range.mpr (by omega))
    rw [show 100 + (y - 100) = y by omega] at g; exact g
  by_cases h120 : y < 140
  · have g := List.all_eq_true.mp mt_m120 (y - 120) (List.mem_range.mpr (by omega))
    rw [show 120 + (y - 120) = y by omega] at g; exact g
  by_cases h140 : y < 160
  · have g := List.all_eq_true.mp mt_m140 (y - 140) (List.mem_range.mpr (by omega))
    rw [show 140 + (y - 140) = y by omega] at g; exact g
  by_cases h160 : y < 180
  · have g := List.all_eq_true.mp mt_m160 (y - 160) (List.mem_range.mpr (by omega))
    rw [show 160 + (y - 160) = y by omega] at g; exact g
  by_cases h180 : y < 199
  · have g := List.all_eq_true.mp mt_m180 (y - 180) (List.mem_range.mpr (by omega))
    rw [show 180 + (y - 180) = y by omega] at g; exact g
  exact absurd h (by omega)
def mt_CW (y : Nat) : Prop := ∀ me, mt_mt[y]? = some me → me.2.1 < 10 → mm_cw mt_nmf mt_byf mt_hhf y me ∈ tables_1
theorem mt_cwof {y : Nat} {e : mm_E} {i : Nat} {w : Cond} (h1 : mt_mt[y]? = some e) (h2 : mm_cw mt_nmf mt_byf mt_hhf y e = w) (h3 : tables_1[i]? = some w) : mt_CW y := fun me h _ => by
  rw [h1] at h
  cases h
  rw [h2]
  exact List.mem_of_getElem? h3
theorem mt_cwno {y : Nat} {e : mm_E} (h1 : mt_mt[y]? = some e) (h2 : 10 ≤ e.2.1) : mt_CW y := fun me h h9 => by
  rw [h1] at h
  cases h
  omega
theorem mt_cw0 : mt_CW 0 := mt_cwno (e := (0, 10, 0, 0, none, 0, 0)) rfl (by decide)
set_option maxRecDepth 100000 in
theorem mt_cw1 : mt_CW 1 := mt_cwof (e := (0, 2, 0, 1, none, 1, 41)) (i := 39) (w := Cond.code ⟨"CellAreas$Area", "<init>", "()V"⟩ prog_2_method_1_code 1 none) rfl rfl rfl
set_option maxRecDepth 100000 in
theorem mt_cw2 : mt_CW 2 := mt_cwof (e := (5, 2, 0, 1, none, 1, 41)) (i := 83) (w := Cond.code ⟨"CellAreas$Row", "<init>", "()V"⟩ prog_7_method_1_code 1 none) rfl rfl rfl
set_option maxRecDepth 100000 in
theorem mt_cw3 : mt_CW 3 := mt_cwof (e := (2, 2, 0, 1, none, 2, 61)) (i := 33) (w := Cond.code ⟨"CellAreas$Builder", "<init>", "()V"⟩ prog_4_method_1_code 1 none) rfl rfl rfl
set_option maxRecDepth 100000 in
theorem mt_cw4 : mt_CW 4 := mt_cwof (e := (3, 2, 0, 1, none, 1, 41)) (i := 108) (w := Cond.code ⟨"CellAreas$Loops", "<init>", "()V"⟩ prog_5_method_1_code 1 none) rfl rfl rfl
set_option maxRecDepth 100000 in
theorem mt_cw5 : mt_CW 5 := mt_cwof (e := (4, 2, 0, 1, none, 1, 41)) (i := 133) (w := Cond.code ⟨"CellAreas$Parts", "<init>", "()V"⟩ prog_6_method_1_code 1 none) rfl rfl rfl
set_option maxRecDepth 100000 in
theorem mt_cw6 : mt_CW 6 := mt_cwof (e := (1, 2, 0, 1, none, 1, 41)) (i := 148) (w := Cond.code ⟨"CellAreas$BestBox", "<init>", "()V"⟩ prog_3_method_1_code 1 none) rfl rfl rfl
set_option maxRecDepth 100000 in
theorem mt_cw7 : mt_CW 7 := mt_cwof (e := (6, 2, 0, 2, none, 3, 81)) (i := 23) (w := Cond.code ⟨"CellAreas", "<init>", "()V"⟩ prog_1_method_1_code 2 none) rfl rfl rfl
set_option maxRecDepth 100000 in
theorem mt_cw8 : mt_CW 8 := mt_cwof (e := (7, 2, 0, 1, none, 1, 41)) (i := 780) (w := Cond.code ⟨"CellAreasModel", "<init>", "()V"⟩ prog_9_method_1_code 1 none) rfl rfl rfl
set_option maxRecDepth 100000 in
theorem mt_cw9 : mt_CW 9 := mt_cwof (e := (6, 0, 1, 1, none, 6, 81)) (i := 211) (w := Cond.code ⟨"CellAreas", "needArea", "(I)V"⟩ prog_1_method_24_code 1 none) rfl rfl rfl
set_option maxRecDepth 100000 in
theorem mt_cw10 : mt_CW 10 := mt_cwof (e := (6, 0, 3, 3, none, 6, 81)) (i := 276) (w := Cond.code ⟨"CellAreas", "needBetween", "(III)V"⟩ prog_1_method_25_code 3 none) rfl rfl rfl
set_option maxRecDepth 100000 in
theorem mt_cw11 : mt_CW 11 := mt_cwof (e := (9, 0, 2, 5, none, 0, 0)) (i := 298) (w := Cond.code ⟨"java/util/Arrays", "fill", "([JJ)V"⟩ prog_19_method_101_code 5 none) rfl rfl rfl
set_option maxRecDepth 100000 in
theorem mt_cw12 : mt_CW 12 := mt_cwof (e := (5, 1, 0, 1, none, 1, 24)) (i := 295) (w := Cond.code ⟨"CellAreas$Row", "wipe", "()V"⟩ prog_7_method_2_code 1 none) rfl rfl rfl
theorem mt_cw13 : mt_CW 13 := mt_cwno (e := (0, 11, 2, 0, none, 0, 0)) rfl (by decide)
theorem mt_cw14 : mt_CW 14 := mt_cwno (e := (0, 12, 2, 0, none, 0, 0)) rfl (by decide)
set_option maxRecDepth 100000 in
theorem mt_cw15 : mt_CW 15 := mt_cwof (e := (5, 0, 3, 5, (some .long), 0, 0)) (i := 315) (w := Cond.code ⟨"CellAreas$Row", "mask", "(III)J"⟩ prog_7_method_6_code 5 (some .long)) rfl rfl rfl
set_option maxRecDepth 100000 in
theorem mt_cw16 : mt_CW 16 := mt_cwof (e := (5, 1, 3, 9, none, 1, 42)) (i := 306) (w := Cond.code ⟨"CellAreas$Row", "change", "(IIZ)V"⟩ prog_7_method_5_code 9 none) rfl rfl rfl
set_option maxRecDepth 100000 in
theorem mt_cw17 : mt_CW 17 := mt_cwof (e := (5, 1, 2, 3, none, 2, 70)) (i := 302) (w := Cond.code ⟨"CellAreas$Row", "fill", "(II)V"⟩ prog_7_method_3_code 3 none) rfl rfl rfl
set_option maxRecDepth 100000 in
theorem mt_cw18 : mt_CW 18 := mt_cwof (e := (2, 1, 0, 1, none, 0, 0)) (i := 320) (w := Cond.code ⟨"CellAreas$Builder", "start", "()V"⟩ prog_4_method_2_code 1 none) rfl rfl rfl
set_option maxRecDepth 100000 in
theorem mt_cw19 : mt_CW 19 := mt_cwof (e := (11, 0, 1, 2, (some .int), 0, 0)) (i := 342) (w := Cond.code ⟨"java/lang/Integer", "numberOfTrailingZeros", "(I)I"⟩ prog_13_method_48_code 2 (some .int)) rfl rfl rfl
set_option maxRecDepth 100000 in
theorem mt_cw20 : mt_CW 20 := mt_cwof (e := (10, 0, 1, 3, (some .int), 1, 21)) (i := 339) (w := Cond.code ⟨"java/lang/Long", "numberOfTrailingZeros", "(J)I"⟩ prog_14_method_49_code 3 (some .int)) rfl rfl rfl
set_option maxRecDepth 100000 in
theorem mt_cw21 : mt_CW 21 := mt_cwof (e := (5, 1, 2, 8, (some .int), 2, 43)) (i := 336) (w := Cond.code ⟨"CellAreas$Row", "seek", "(IJ)I"⟩ prog_7_method_14_code 8 (some .int)) rfl rfl rfl
set_option maxRecDepth 100000 in
theorem mt_cw22 : mt_CW 22 := mt_cwof (e := (5, 1, 1, 2, (some .int), 3, 70)) (i := 332) (w := Cond.code ⟨"CellAreas$Row", "nextIn", "(I)I"⟩ prog_7_method_12_code 2 (some .int)) rfl rfl rfl
set_option maxRecDepth 100000 in
theorem mt_cw23 : mt_CW 23 := mt_cwof (e := (5, 1, 0, 1, (some .boolean), 4, 91)) (i := 328) (w := Cond.code ⟨"CellAreas$Row", "isEmpty", "()Z"⟩ prog_7_method_9_code 1 (some .boolean)) rfl rfl rfl
set_option maxRecDepth 100000 in
theorem mt_cw24 : mt_CW 24 := mt_cwof (e := (5, 1, 1, 3, (some .boolean), 0, 0)) (i := 347) (w := Cond.code ⟨"CellAreas$Row", "sameAs", "(LCellAreas$Row;)Z"⟩ prog_7_method_10_code 3 (some .boolean)) rfl rfl rfl
set_option maxRecDepth 100000 in
theorem mt_cw25 : mt_CW 25 := mt_cwof (e := (5, 1, 1, 2, (some .int), 3, 70)) (i := 356) (w := Cond.code ⟨"CellAreas$Row", "nextOut", "(I)I"⟩ prog_7_method_13_code 2 (some .int)) rfl rfl rfl
set_option maxRecDepth 100000 in
theorem mt_cw26 : mt_CW 26 := mt_cwof (e := (2, 1, 2, 5, none, 4, 91)) (i := 351) (w := Cond.code ⟨"CellAreas$Builder", "addStretches", "(ILCellAreas$Row;)V"⟩ prog_4_method_4_code 5 none) rfl rfl rfl
theorem mt_cw27 : mt_CW 27 := mt_cwno (e := (0, 14, 5, 0, none, 0, 0)) rfl (by decide)
set_option maxRecDepth 100000 in
theorem mt_cw28 : mt_CW 28 := mt_cwof (e := (5, 1, 1, 2, none, 1, 45)) (i := 360) (w := Cond.code ⟨"CellAreas$Row", "copyFrom", "(LCellAreas$Row;)V"⟩ prog_7_method_11_code 2 none) rfl rfl rfl
set_option maxRecDepth 100000 in
theorem mt_cw29 : mt_CW 29 := mt_cwof (e := (2, 1, 3, 5, none, 5, 115)) (i := 324) (w := Cond.code ⟨"CellAreas$Builder", "add", "(IILCellAreas$Row;)V"⟩ prog_4_method_3_code 5 none) rfl rfl rfl
set_option maxRecDepth 100000 in
theorem mt_cw30 : mt_CW 30 := mt_cwof (e := (6, 1, 1, 3, (some .int), 0, 0)) (i := 367) (w := Cond.code ⟨"CellAreas", "keep", "(I)I"⟩ prog_1_method_27_code 3 (some .int)) rfl rfl rfl
set_option maxRecDepth 100000 in
theorem mt_cw31 : mt_CW 31 := mt_cwof (e := (6, 1, 5, 6, none, 7, 139)) (i := 208) (w := Cond.code ⟨"CellAreas", "box", "(IIIII)V"⟩ prog_1_method_2_code 6 none) rfl rfl rfl
set_option maxRecDepth 100000 in
theorem mt_cw32 : mt_CW 32 := mt_cwof (e := (8, 0, 6, 7, (some .int), 8, 164)) (i := 202) (w := Cond.codeWith ⟨"CellAreasLaw", "box", "(LCellAreas;IIIII)I"⟩ method_3_code 7 (some .int) [(0, 11, 14, 13), (0, 11, 18, 15)]) rfl rfl rfl
set_option maxRecDepth 100000 in
theorem mt_cw33 : mt_CW 33 := mt_cwof (e := (7, 0, 3, 3, (some .boolean), 0, 0)) (i := 938) (w := Cond.code ⟨"CellAreasModel", "isIn", "(III)Z"⟩ prog_9_method_19_code 3 (some .boolean)) rfl rfl rfl
set_option maxRecDepth 100000 in
theorem mt_cw34 : mt_CW 34 := mt_cwof (e := (7, 1, 1, 2, (some .boolean), 0, 0)) (i := 942) (w := Cond.code ⟨"CellAreasModel", "isArea", "(I)Z"⟩ prog_9_method_17_code 2 (some .boolean)) rfl rfl rfl
set_option maxRecDepth 100000 in
theorem mt_cw35 : mt_CW 35 := mt_cwof (e := (7, 1, 0, 1, none, 0, 0)) (i := 946) (w := Cond.code ⟨"CellAreasModel", "begin", "()V"⟩ prog_9_method_3_code 1 none) rfl rfl rfl
set_option maxRecDepth 100000 in
theorem mt_cw36 : mt_CW 36 := mt_cwof (e := (7, 1, 2, 3, none, 0, 0)) (i := 950) (w := Cond.code ⟨"CellAreasModel", "push", "(II)V"⟩ prog_9_method_12_code 3 none) rfl rfl rfl
set_option maxRecDepth 100000 in
theorem mt_cw37 : mt_CW 37 := mt_cwof (e := (7, 1, 0, 4, (some .boolean), 0, 0)) (i := 958) (w := Cond.code ⟨"CellAreasModel", "isLikeLast", "()Z"⟩ prog_9_method_5_code 4 (some .boolean)) rfl rfl rfl
set_option maxRecDepth 100000 in
theorem mt_cw38 : mt_CW 38 := mt_cwof (e := (7, 1, 2, 5, none, 1, 23)) (i := 954) (w := Cond.code ⟨"CellAreasModel", "addRow", "(II)V"⟩ prog_9_method_6_code 5 none) rfl rfl rfl
set_option maxRecDepth 100000 in
theorem mt_cw39 : mt_CW 39 := mt_cwof (e := (7, 1, 1, 3, (some .int), 0, 0)) (i := 962) (w := Cond.code ⟨"CellAreasModel", "finish", "(I)I"⟩ prog_9_method_7_code 3 (some .int)) rfl rfl rfl
set_option maxRecDepth 100000 in
theorem mt_cw40 : mt_CW 40 := mt_cwof (e := (7, 1, 5, 8, none, 2, 47)) (i := 935) (w := Cond.code ⟨"CellAreasModel", "box", "(IIIII)V"⟩ prog_9_method_20_code 8 none) rfl rfl rfl
set_option maxRecDepth 100000 in
theorem mt_cw41 : mt_CW 41 := mt_cwof (e := (7, 1, 0, 1, (some .int), 0, 0)) (i := 931) (w := Cond.code ⟨"CellAreasModel", "thrown", "()I"⟩ prog_9_method_2_code 1 (some .int)) rfl rfl rfl
set_option maxRecDepth 100000 in
theorem mt_cw42 : mt_CW 42 := mt_cwof (e := (0, 1, 0, 4, (some .int), 0, 0)) (i := 378) (w := Cond.code ⟨"CellAreas$Area", "cells", "()I"⟩ prog_2_method_11_code 4 (some .int)) rfl rfl rfl
set_option maxRecDepth 100000 in
theorem mt_cw43 : mt_CW 43 := mt_cwof (e := (6, 1, 1, 3, (some .int), 7, 101)) (i := 374) (w := Cond.code ⟨"CellAreas", "clear", "(I)I"⟩ prog_1_method_3_code 3 (some .int)) rfl rfl rfl
set_option maxRecDepth 100000 in
theorem mt_cw44 : mt_CW 44 := mt_cwof (e := (8, 0, 3, 4, (some .int), 8, 123)) (i := 370) (w := Cond.codeWith ⟨"CellAreasLaw", "clear", "(LCellAreas;I[J)I"⟩ method_4_code 4 (some .int) [(0, 9, 12, 13)]) rfl rfl rfl
set_option maxRecDepth 100000 in
theorem mt_cw45 : mt_CW 45 := mt_cwof (e := (7, 1, 1, 2, (some .int), 0, 0)) (i := 974) (w := Cond.code ⟨"CellAreasModel", "bandEnd", "(I)I"⟩ prog_9_method_8_code 2 (some .int)) rfl rfl rfl
set_option maxRecDepth 100000 in
theorem mt_cw46 : mt_CW 46 := mt_cwof (e := (7, 1, 1, 5, (some .int), 1, 21)) (i := 970) (w := Cond.code ⟨"CellAreasModel", "cellsOf", "(I)I"⟩ prog_9_method_21_code 5 (some .int)) rfl rfl rfl
set_option maxRecDepth 100000 in
theorem mt_cw47 : mt_CW 47 := mt_cwof (e := (7, 1, 1, 3, (some .int), 2, 45)) (i := 966) (w := Cond.code ⟨"CellAreasModel", "clear", "(I)I"⟩ prog_9_method_22_code 3 (some .int)) rfl rfl rfl
set_option maxRecDepth 100000 in
theorem mt_cw48 : mt_CW 48 := mt_cwof (e := (0, 1, 2, 4, none, 3, 92)) (i := 389) (w := Cond.code ⟨"CellAreas$Area", "markRows", "(LCellAreas$Row;I)V"⟩ prog_2_method_13_code 4 none) rfl rfl rfl
set_option maxRecDepth 100000 in
theorem mt_cw49 : mt_CW 49 := mt_cwof (e := (0, 1, 1, 5, (some .int), 0, 0)) (i := 399) (w := Cond.code ⟨"CellAreas$Area", "bandAt", "(I)I"⟩ prog_2_method_7_code 5 (some .int)) rfl rfl rfl
set_option maxRecDepth 100000 in
theorem mt_cw50 : mt_CW 50 := mt_cwof (e := (0, 1, 1, 2, (some .int), 0, 0)) (i := 407) (w := Cond.code ⟨"CellAreas$Area", "startOf", "(I)I"⟩ prog_2_method_3_code 2 (some .int)) rfl rfl rfl
set_option maxRecDepth 100000 in
theorem mt_cw51 : mt_CW 51 := mt_cwof (e := (0, 1, 1, 2, (some .int), 0, 0)) (i := 411) (w := Cond.code ⟨"CellAreas$Area", "endOf", "(I)I"⟩ prog_2_method_4_code 2 (some .int)) rfl rfl rfl
set_option maxRecDepth 100000 in
theorem mt_cw52 : mt_CW 52 := mt_cwof (e := (0, 1, 4, 6, none, 3, 92)) (i := 403) (w := Cond.code ⟨"CellAreas$Area", "layBand", "(ILCellAreas$Row;II)V"⟩ prog_2_method_12_code 6 none) rfl rfl rfl
set_option maxRecDepth 100000 in
theorem mt_cw53 : mt_CW 53 := mt_cwof (e := (6, 0, 3, 3, none, 4, 117)) (i := 395) (w := Cond.code ⟨"CellAreas", "layRow", "(LCellAreas$Area;ILCellAreas$Row;)V"⟩ prog_1_method_30_code 3 none) rfl rfl rfl
set_option maxRecDepth 100000 in
theorem mt_cw54 : mt_CW 54 := mt_cwof (e := (5, 0, 3, 5, (some .long), 0, 0)) (i := 418) (w := Cond.code ⟨"CellAreas$Row", "mixWords", "(JJI)J"⟩ prog_7_method_8_code 5 (some .long)) rfl rfl rfl
set_option maxRecDepth 100000 in
theorem mt_cw55 : mt_CW 55 := mt_cwof (e := (5, 1, 2, 4, none, 1, 24)) (i := 415) (w := Cond.code ⟨"CellAreas$Row", "mix", "(LCellAreas$Row;I)V"⟩ prog_7_method_7_code 4 none) rfl rfl rfl
set_option maxRecDepth 100000 in
theorem mt_cw56 : mt_CW 56 := mt_cwof (e := (6, 1, 4, 7, (some .int), 7, 139)) (i := 385) (w := Cond.code ⟨"CellAreas", "combine", "(IIII)I"⟩ prog_1_method_4_code 7 (some .int)) rfl rfl rfl
set_option maxRecDepth 100000 in
theorem mt_cw57 : mt_CW 57 := mt_cwof (e := (8, 0, 6, 7, (some .int), 8, 165)) (i := 381) (w := Cond.codeWith ⟨"CellAreasLaw", "combine", "(LCellAreas;IIII[J)I"⟩ method_5_code 7 (some .int) [(0, 14, 17, 13), (0, 14, 21, 15)]) rfl rfl rfl
set_option maxRecDepth 100000 in
theorem mt_cw58 : mt_CW 58 := mt_cwof (e := (7, 1, 1, 5, none, 0, 0)) (i := 986) (w := Cond.code ⟨"CellAreasModel", "cut", "(I)V"⟩ prog_9_method_4_code 5 none) rfl rfl rfl
set_option maxRecDepth 100000 in
theorem mt_cw59 : mt_CW 59 := mt_cwof (e := (7, 1, 1, 3, none, 1, 24)) (i := 982) (w := Cond.code ⟨"CellAreasModel", "cutBands", "(I)V"⟩ prog_9_method_23_code 3 none) rfl rfl rfl
set_option maxRecDepth 100000 in
theorem mt_cw60 : mt_CW 60 := mt_cwof (e := (7, 1, 2, 5, (some .int), 1, 21)) (i := 994) (w := Cond.code ⟨"CellAreasModel", "bandAt", "(II)I"⟩ prog_9_method_9_code 5 (some .int)) rfl rfl rfl
set_option maxRecDepth 100000 in
theorem mt_cw61 : mt_CW 61 := mt_cwof (e := (7, 1, 2, 5, none, 2, 45)) (i := 990) (w := Cond.code ⟨"CellAreasModel", "loadOne", "(II)V"⟩ prog_9_method_10_code 5 none) rfl rfl rfl
set_option maxRecDepth 100000 in
theorem mt_cw62 : mt_CW 62 := mt_cwof (e := (7, 1, 2, 5, none, 2, 45)) (i := 998) (w := Cond.code ⟨"CellAreasModel", "loadTwo", "(II)V"⟩ prog_9_method_11_code 5 none) rfl rfl rfl
set_option maxRecDepth 100000 in
theorem mt_cw63 : mt_CW 63 := mt_cwof (e := (7, 1, 1, 2, (some .int), 0, 0)) (i := 1006) (w := Cond.code ⟨"CellAreasModel", "oneBorder", "(I)I"⟩ prog_9_method_13_code 2 (some .int)) rfl rfl rfl
set_option maxRecDepth 100000 in
theorem mt_cw64 : mt_CW 64 := mt_cwof (e := (7, 1, 1, 2, (some .int), 0, 0)) (i := 1010) (w := Cond.code ⟨"CellAreasModel", "twoBorder", "(I)I"⟩ prog_9_method_14_code 2 (some .int)) rfl rfl rfl
set_option maxRecDepth 100000 in
theorem mt_cw65 : mt_CW 65 := mt_cwof (e := (7, 1, 1, 10, none, 1, 22)) (i := 1002) (w := Cond.code ⟨"CellAreasModel", "join", "(I)V"⟩ prog_9_method_15_code 10 none) rfl rfl rfl
set_option maxRecDepth 100000 in
theorem mt_cw66 : mt_CW 66 := mt_cwof (e := (7, 1, 4, 6, (some .int), 3, 69)) (i := 978) (w := Cond.code ⟨"CellAreasModel", "combine", "(IIII)I"⟩ prog_9_method_24_code 6 (some .int)) rfl rfl rfl
set_option maxRecDepth 100000 in
theorem mt_cw67 : mt_CW 67 := mt_cwof (e := (5, 1, 2, 3, none, 2, 70)) (i := 429) (w := Cond.code ⟨"CellAreas$Row", "flip", "(II)V"⟩ prog_7_method_4_code 3 none) rfl rfl rfl
set_option maxRecDepth 100000 in
theorem mt_cw68 : mt_CW 68 := mt_cwof (e := (6, 1, 2, 5, (some .int), 7, 139)) (i := 425) (w := Cond.code ⟨"CellAreas", "invert", "(II)I"⟩ prog_1_method_5_code 5 (some .int)) rfl rfl rfl
set_option maxRecDepth 100000 in
theorem mt_cw69 : mt_CW 69 := mt_cwof (e := (8, 0, 4, 5, (some .int), 8, 163)) (i := 421) (w := Cond.codeWith ⟨"CellAreasLaw", "invert", "(LCellAreas;II[J)I"⟩ method_6_code 5 (some .int) [(0, 10, 13, 13)]) rfl rfl rfl
set_option maxRecDepth 100000 in
theorem mt_cw70 : mt_CW 70 := mt_cwof (e := (7, 1, 2, 3, (some .boolean), 1, 21)) (i := 1018) (w := Cond.code ⟨"CellAreasModel", "areAreas", "(II)Z"⟩ prog_9_method_18_code 3 (some .boolean)) rfl rfl rfl
set_option maxRecDepth 100000 in
theorem mt_cw71 : mt_CW 71 := mt_cwof (e := (7, 1, 2, 4, (some .int), 3, 69)) (i := 1014) (w := Cond.code ⟨"CellAreasModel", "invert", "(II)I"⟩ prog_9_method_25_code 4 (some .int)) rfl rfl rfl
set_option maxRecDepth 100000 in
theorem mt_cw72 : mt_CW 72 := mt_cwof (e := (6, 1, 4, 7, (some .int), 7, 139)) (i := 436) (w := Cond.code ⟨"CellAreas", "move", "(IIII)I"⟩ prog_1_method_6_code 7 (some .int)) rfl rfl rfl
set_option maxRecDepth 100000 in
theorem mt_cw73 : mt_CW 73 := mt_cwof (e := (8, 0, 6, 7, (some .int), 8, 165)) (i := 432) (w := Cond.codeWith ⟨"CellAreasLaw", "move", "(LCellAreas;IIII[J)I"⟩ method_7_code 7 (some .int) [(0, 14, 17, 13), (0, 14, 21, 15)]) rfl rfl rfl
set_option maxRecDepth 100000 in
theorem mt_cw74 : mt_CW 74 := mt_cwof (e := (7, 0, 1, 1, (some .int), 0, 0)) (i := 1025) (w := Cond.code ⟨"CellAreasModel", "clipped", "(I)I"⟩ prog_9_method_26_code 1 (some .int)) rfl rfl rfl
set_option maxRecDepth 100000 in
theorem mt_cw75 : mt_CW 75 := mt_cwof (e := (7, 1, 4, 7, (some .int), 2, 47)) (i := 1022) (w := Cond.code ⟨"CellAreasModel", "move", "(IIII)I"⟩ prog_9_method_27_code 7 (some .int)) rfl rfl rfl
set_option maxRecDepth 100000 in
theorem mt_cw76 : mt_CW 76 := mt_cwof (e := (6, 1, 2, 4, none, 3, 92)) (i := 452) (w := Cond.code ⟨"CellAreas", "layMirrored", "(LCellAreas$Area;I)V"⟩ prog_1_method_32_code 4 none) rfl rfl rfl
set_option maxRecDepth 100000 in
theorem mt_cw77 : mt_CW 77 := mt_cwof (e := (6, 1, 1, 3, none, 6, 139)) (i := 448) (w := Cond.code ⟨"CellAreas", "swapSides", "(LCellAreas$Area;)V"⟩ prog_1_method_31_code 3 none) rfl rfl rfl
set_option maxRecDepth 100000 in
theorem mt_cw78 : mt_CW 78 := mt_cwof (e := (6, 1, 1, 3, none, 6, 139)) (i := 458) (w := Cond.code ⟨"CellAreas", "swapEnds", "(LCellAreas$Area;)V"⟩ prog_1_method_33_code 3 none) rfl rfl rfl
set_option maxRecDepth 100000 in
theorem mt_cw79 : mt_CW 79 := mt_cwof (e := (0, 1, 0, 1, (some .int), 0, 0)) (i := 470) (w := Cond.code ⟨"CellAreas$Area", "stretches", "()I"⟩ prog_2_method_2_code 1 (some .int)) rfl rfl rfl
set_option maxRecDepth 100000 in
theorem mt_cw80 : mt_CW 80 := mt_cwof (e := (0, 1, 1, 3, none, 3, 92)) (i := 466) (w := Cond.code ⟨"CellAreas$Area", "markColumns", "(LCellAreas$Row;)V"⟩ prog_2_method_14_code 3 none) rfl rfl rfl
set_option maxRecDepth 100000 in
theorem mt_cw81 : mt_CW 81 := mt_cwof (e := (0, 1, 2, 6, (some .int), 0, 0)) (i := 482) (w := Cond.code ⟨"CellAreas$Area", "endingBehind", "(II)I"⟩ prog_2_method_8_code 6 (some .int)) rfl rfl rfl
set_option maxRecDepth 100000 in
theorem mt_cw82 : mt_CW 82 := mt_cwof (e := (0, 1, 2, 4, (some .int), 1, 25)) (i := 478) (w := Cond.code ⟨"CellAreas$Area", "stretchAt", "(II)I"⟩ prog_2_method_9_code 4 (some .int)) rfl rfl rfl
set_option maxRecDepth 100000 in
theorem mt_cw83 : mt_CW 83 := mt_cwof (e := (6, 1, 2, 4, none, 3, 92)) (i := 474) (w := Cond.code ⟨"CellAreas", "layColumn", "(LCellAreas$Area;I)V"⟩ prog_1_method_35_code 4 none) rfl rfl rfl
set_option maxRecDepth 100000 in
theorem mt_cw84 : mt_CW 84 := mt_cwof (e := (6, 1, 1, 4, none, 6, 139)) (i := 462) (w := Cond.code ⟨"CellAreas", "swapAxes", "(LCellAreas$Area;)V"⟩ prog_1_method_34_code 4 none) rfl rfl rfl
set_option maxRecDepth 100000 in
theorem mt_cw85 : mt_CW 85 := mt_cwof (e := (6, 1, 3, 4, (some .int), 7, 162)) (i := 444) (w := Cond.code ⟨"CellAreas", "mirror", "(III)I"⟩ prog_1_method_7_code 4 (some .int)) rfl rfl rfl
set_option maxRecDepth 100000 in
theorem mt_cw86 : mt_CW 86 := mt_cwof (e := (8, 0, 5, 6, (some .int), 8, 185)) (i := 440) (w := Cond.codeWith ⟨"CellAreasLaw", "mirror", "(LCellAreas;III[J)I"⟩ method_8_code 6 (some .int) [(0, 12, 15, 13), (0, 12, 19, 15)]) rfl rfl rfl
set_option maxRecDepth 100000 in
theorem mt_cw87 : mt_CW 87 := mt_cwof (e := (7, 1, 1, 3, none, 1, 24)) (i := 1033) (w := Cond.code ⟨"CellAreasModel", "cutStretches", "(I)V"⟩ prog_9_method_29_code 3 none) rfl rfl rfl
set_option maxRecDepth 100000 in
theorem mt_cw88 : mt_CW 88 := mt_cwof (e := (7, 1, 2, 5, (some .boolean), 0, 0)) (i := 1037) (w := Cond.code ⟨"CellAreasModel", "holds", "(II)Z"⟩ prog_9_method_28_code 5 (some .boolean)) rfl rfl rfl
set_option maxRecDepth 100000 in
theorem mt_cw89 : mt_CW 89 := mt_cwof (e := (7, 1, 3, 8, (some .int), 2, 47)) (i := 1029) (w := Cond.code ⟨"CellAreasModel", "mirror", "(III)I"⟩ prog_9_method_30_code 8 (some .int)) rfl rfl rfl
set_option maxRecDepth 100000 in
theorem mt_cw90 : mt_CW 90 := mt_cwof (e := (6, 0, 4, 4, none, 7, 103)) (i := 492) (w := Cond.code ⟨"CellAreas", "needReach", "(IIII)V"⟩ prog_1_method_26_code 4 none) rfl rfl rfl
set_option maxRecDepth 100000 in
theorem mt_cw91 : mt_CW 91 := mt_cwof (e := (6, 1, 6, 11, (some .int), 8, 139)) (i := 489) (w := Cond.code ⟨"CellAreas", "grow", "(IIIIII)I"⟩ prog_1_method_8_code 11 (some .int)) rfl rfl rfl
set_option maxRecDepth 100000 in
theorem mt_cw92 : mt_CW 92 := mt_cwof (e := (8, 0, 8, 9, (some .int), 9, 169)) (i := 485) (w := Cond.codeWith ⟨"CellAreasLaw", "grow", "(LCellAreas;IIIIII[J)I"⟩ method_9_code 9 (some .int) [(0, 18, 21, 13), (0, 18, 25, 15)]) rfl rfl rfl
set_option maxRecDepth 100000 in
theorem mt_cw93 : mt_CW 93 := mt_cwof (e := (7, 1, 4, 5, (some .boolean), 1, 22)) (i := 1045) (w := Cond.code ⟨"CellAreasModel", "areSteps", "(IIII)Z"⟩ prog_9_method_31_code 5 (some .boolean)) rfl rfl rfl
set_option maxRecDepth 100000 in
theorem mt_cw94 : mt_CW 94 := mt_cwof (e := (7, 1, 0, 2, none, 0, 0)) (i := 1049) (w := Cond.code ⟨"CellAreasModel", "newToOne", "()V"⟩ prog_9_method_16_code 2 none) rfl rfl rfl
set_option maxRecDepth 100000 in
theorem mt_cw95 : mt_CW 95 := mt_cwof (e := (7, 1, 6, 10, (some .int), 2, 51)) (i := 1041) (w := Cond.code ⟨"CellAreasModel", "grow", "(IIIIII)I"⟩ prog_9_method_32_code 10 (some .int)) rfl rfl rfl
set_option maxRecDepth 100000 in
theorem mt_cw96 : mt_CW 96 := mt_cwof (e := (0, 1, 1, 2, (some .int), 0, 0)) (i := 508) (w := Cond.code ⟨"CellAreas$Area", "below", "(I)I"⟩ prog_2_method_6_code 2 (some .int)) rfl rfl rfl
set_option maxRecDepth 100000 in
theorem mt_cw97 : mt_CW 97 := mt_cwof (e := (6, 1, 5, 9, none, 5, 117)) (i := 503) (w := Cond.code ⟨"CellAreas", "layShrunkRow", "(LCellAreas$Area;IIII)V"⟩ prog_1_method_36_code 9 none) rfl rfl rfl
set_option maxRecDepth 100000 in
theorem mt_cw98 : mt_CW 98 := mt_cwof (e := (6, 1, 6, 10, (some .int), 8, 145)) (i := 499) (w := Cond.code ⟨"CellAreas", "shrink", "(IIIIII)I"⟩ prog_1_method_9_code 10 (some .int)) rfl rfl rfl
set_option maxRecDepth 100000 in
theorem mt_cw99 : mt_CW 99 := mt_cwof (e := (8, 0, 8, 9, (some .int), 9, 174)) (i := 495) (w := Cond.codeWith ⟨"CellAreasLaw", "shrink", "(LCellAreas;IIIIII[J)I"⟩ method_10_code 9 (some .int) [(0, 18, 21, 13), (0, 18, 25, 15)]) rfl rfl rfl
set_option maxRecDepth 100000 in
theorem mt_cw100 : mt_CW 100 := mt_cwof (e := (7, 1, 6, 12, none, 2, 51)) (i := 1057) (w := Cond.code ⟨"CellAreasModel", "shrinkRow", "(IIIIII)V"⟩ prog_9_method_34_code 12 none) rfl rfl rfl
set_option maxRecDepth 100000 in
theorem mt_cw101 : mt_CW 101 := mt_cwof (e := (7, 1, 6, 8, (some .int), 3, 82)) (i := 1053) (w := Cond.code ⟨"CellAreasModel", "shrink", "(IIIIII)I"⟩ prog_9_method_33_code 8 (some .int)) rfl rfl rfl
set_option maxRecDepth 100000 in
theorem mt_cw102 : mt_CW 102 := mt_cwof (e := (6, 1, 1, 2, (some .int), 7, 101)) (i := 515) (w := Cond.code ⟨"CellAreas", "bands", "(I)I"⟩ prog_1_method_10_code 2 (some .int)) rfl rfl rfl
set_option maxRecDepth 100000 in
theorem mt_cw103 : mt_CW 103 := mt_cwof (e := (8, 0, 3, 4, (some .int), 8, 122)) (i := 511) (w := Cond.codeWith ⟨"CellAreasLaw", "bands", "(LCellAreas;I[J)I"⟩ method_11_code 4 (some .int) [(0, 9, 12, 13)]) rfl rfl rfl
set_option maxRecDepth 100000 in
theorem mt_cw104 : mt_CW 104 := mt_cwof (e := (7, 1, 1, 2, (some .int), 1, 21)) (i := 1061) (w := Cond.code ⟨"CellAreasModel", "bands", "(I)I"⟩ prog_9_method_35_code 2 (some .int)) rfl rfl rfl
set_option maxRecDepth 100000 in
theorem mt_cw105 : mt_CW 105 := mt_cwof (e := (6, 1, 3, 5, (some .int), 7, 101)) (i := 522) (w := Cond.code ⟨"CellAreas", "band", "(III)I"⟩ prog_1_method_11_code 5 (some .int)) rfl rfl rfl
set_option maxRecDepth 100000 in
theorem mt_cw106 : mt_CW 106 := mt_cwof (e := (8, 0, 5, 6, (some .int), 8, 125)) (i := 518) (w := Cond.codeWith ⟨"CellAreasLaw", "band", "(LCellAreas;III[J)I"⟩ method_12_code 6 (some .int) [(0, 12, 15, 13)]) rfl rfl rfl
set_option maxRecDepth 100000 in
theorem mt_cw107 : mt_CW 107 := mt_cwof (e := (7, 1, 3, 5, (some .int), 1, 22)) (i := 1065) (w := Cond.code ⟨"CellAreasModel", "band", "(III)I"⟩ prog_9_method_36_code 5 (some .int)) rfl rfl rfl
set_option maxRecDepth 100000 in
theorem mt_cw108 : mt_CW 108 := mt_cwof (e := (6, 1, 4, 6, (some .int), 7, 101)) (i := 529) (w := Cond.code ⟨"CellAreas", "stretch", "(IIII)I"⟩ prog_1_method_12_code 6 (some .int)) rfl rfl rfl
set_option maxRecDepth 100000 in
theorem mt_cw109 : mt_CW 109 := mt_cwof (e := (8, 0, 6, 7, (some .int), 8, 126)) (i := 525) (w := Cond.codeWith ⟨"CellAreasLaw", "stretch", "(LCellAreas;IIII[J)I"⟩ method_13_code 7 (some .int) [(0, 14, 17, 13)]) rfl rfl rfl
set_option maxRecDepth 100000 in
theorem mt_cw110 : mt_CW 110 := mt_cwof (e := (7, 1, 4, 6, (some .int), 1, 22)) (i := 1069) (w := Cond.code ⟨"CellAreasModel", "stretch", "(IIII)I"⟩ prog_9_method_37_code 6 (some .int)) rfl rfl rfl
set_option maxRecDepth 100000 in
theorem mt_cw111 : mt_CW 111 := mt_cwof (e := (6, 1, 3, 4, (some .boolean), 7, 101)) (i := 536) (w := Cond.code ⟨"CellAreas", "has", "(III)Z"⟩ prog_1_method_13_code 4 (some .boolean)) rfl rfl rfl
set_option maxRecDepth 100000 in
theorem mt_cw112 : mt_CW 112 := mt_cwof (e := (8, 0, 5, 6, (some .int), 8, 124)) (i := 532) (w := Cond.codeWith ⟨"CellAreasLaw", "has", "(LCellAreas;III[J)I"⟩ method_14_code 6 (some .int) [(0, 19, 22, 13)]) rfl rfl rfl
set_option maxRecDepth 100000 in
theorem mt_cw113 : mt_CW 113 := mt_cwof (e := (7, 1, 3, 8, (some .int), 2, 45)) (i := 1077) (w := Cond.code ⟨"CellAreasModel", "stretchAt", "(III)I"⟩ prog_9_method_38_code 8 (some .int)) rfl rfl rfl
set_option maxRecDepth 100000 in
theorem mt_cw114 : mt_CW 114 := mt_cwof (e := (7, 1, 3, 4, (some .boolean), 3, 72)) (i := 1073) (w := Cond.code ⟨"CellAreasModel", "has", "(III)Z"⟩ prog_9_method_39_code 4 (some .boolean)) rfl rfl rfl
set_option maxRecDepth 100000 in
theorem mt_cw115 : mt_CW 115 := mt_cwof (e := (9, 0, 2, 4, none, 0, 0)) (i := 555) (w := Cond.code ⟨"java/util/Arrays", "fill", "([II)V"⟩ prog_19_method_103_code 4 none) rfl rfl rfl
set_option maxRecDepth 100000 in
theorem mt_cw116 : mt_CW 116 := mt_cwof (e := (3, 0, 1, 1, (some .boolean), 0, 0)) (i := 562) (w := Cond.code ⟨"CellAreas$Loops", "goesUp", "(I)Z"⟩ prog_5_method_4_code 1 (some .boolean)) rfl rfl rfl
set_option maxRecDepth 100000 in
theorem mt_cw117 : mt_CW 117 := mt_cwof (e := (0, 1, 1, 5, (some .int), 0, 0)) (i := 566) (w := Cond.code ⟨"CellAreas$Area", "bandOf", "(I)I"⟩ prog_2_method_10_code 5 (some .int)) rfl rfl rfl
set_option maxRecDepth 100000 in
theorem mt_cw118 : mt_CW 118 := mt_cwof (e := (3, 1, 2, 3, none, 0, 0)) (i := 570) (w := Cond.code ⟨"CellAreas$Loops", "turnAt", "(II)V"⟩ prog_5_method_5_code 3 none) rfl rfl rfl
set_option maxRecDepth 100000 in
theorem mt_cw119 : mt_CW 119 := mt_cwof (e := (0, 1, 1, 2, (some .int), 0, 0)) (i := 578) (w := Cond.code ⟨"CellAreas$Area", "above", "(I)I"⟩ prog_2_method_5_code 2 (some .int)) rfl rfl rfl
set_option maxRecDepth 100000 in
theorem mt_cw120 : mt_CW 120 := mt_cwof (e := (3, 1, 5, 7, (some .int), 1, 25)) (i := 583) (w := Cond.code ⟨"CellAreas$Loops", "alongTop", "(LCellAreas$Area;IIII)I"⟩ prog_5_method_10_code 7 (some .int)) rfl rfl rfl
set_option maxRecDepth 100000 in
theorem mt_cw121 : mt_CW 121 := mt_cwof (e := (3, 1, 5, 7, (some .int), 1, 25)) (i := 589) (w := Cond.code ⟨"CellAreas$Loops", "alongBottom", "(LCellAreas$Area;IIII)I"⟩ prog_5_method_11_code 7 (some .int)) rfl rfl rfl
set_option maxRecDepth 100000 in
theorem mt_cw122 : mt_CW 122 := mt_cwof (e := (3, 1, 2, 6, (some .int), 2, 51)) (i := 574) (w := Cond.code ⟨"CellAreas$Loops", "afterUp", "(LCellAreas$Area;I)I"⟩ prog_5_method_8_code 6 (some .int)) rfl rfl rfl
set_option maxRecDepth 100000 in
theorem mt_cw123 : mt_CW 123 := mt_cwof (e := (3, 1, 2, 6, (some .int), 2, 51)) (i := 594) (w := Cond.code ⟨"CellAreas$Loops", "afterDown", "(LCellAreas$Area;I)I"⟩ prog_5_method_9_code 6 (some .int)) rfl rfl rfl
set_option maxRecDepth 100000 in
theorem mt_cw124 : mt_CW 124 := mt_cwof (e := (3, 1, 3, 7, none, 3, 76)) (i := 559) (w := Cond.code ⟨"CellAreas$Loops", "walk", "(LCellAreas$Area;II)V"⟩ prog_5_method_3_code 7 none) rfl rfl rfl
set_option maxRecDepth 100000 in
theorem mt_cw125 : mt_CW 125 := mt_cwof (e := (3, 1, 1, 4, none, 4, 102)) (i := 551) (w := Cond.code ⟨"CellAreas$Loops", "trace", "(LCellAreas$Area;)V"⟩ prog_5_method_2_code 4 none) rfl rfl rfl
set_option maxRecDepth 100000 in
theorem mt_cw126 : mt_CW 126 := mt_cwof (e := (6, 1, 1, 2, (some (.object "CellAreas$Loops")), 5, 125)) (i := 547) (w := Cond.code ⟨"CellAreas", "loopsOf", "(I)LCellAreas$Loops;"⟩ prog_1_method_28_code 2 (some (.object "CellAreas$Loops"))) rfl rfl rfl
set_option maxRecDepth 100000 in
theorem mt_cw127 : mt_CW 127 := mt_cwof (e := (3, 1, 2, 3, (some .int), 0, 0)) (i := 607) (w := Cond.code ⟨"CellAreas$Loops", "next", "(II)I"⟩ prog_5_method_13_code 3 (some .int)) rfl rfl rfl
set_option maxRecDepth 100000 in
theorem mt_cw128 : mt_CW 128 := mt_cwof (e := (3, 1, 1, 2, (some .int), 0, 0)) (i := 611) (w := Cond.code ⟨"CellAreas$Loops", "xOf", "(I)I"⟩ prog_5_method_6_code 2 (some .int)) rfl rfl rfl
theorem mt_cw129 : mt_CW 129 := mt_cwno (e := (0, 13, 1, 0, none, 0, 0)) rfl (by decide)
set_option maxRecDepth 100000 in
theorem mt_cw130 : mt_CW 130 := mt_cwof (e := (3, 1, 1, 2, (some .int), 0, 0)) (i := 618) (w := Cond.code ⟨"CellAreas$Loops", "yOf", "(I)I"⟩ prog_5_method_7_code 2 (some .int)) rfl rfl rfl
set_option maxRecDepth 100000 in
theorem mt_cw131 : mt_CW 131 := mt_cwof (e := (3, 1, 1, 5, (some .int), 1, 43)) (i := 603) (w := Cond.code ⟨"CellAreas$Loops", "length", "(I)I"⟩ prog_5_method_14_code 5 (some .int)) rfl rfl rfl
set_option maxRecDepth 100000 in
theorem mt_cw132 : mt_CW 132 := mt_cwof (e := (3, 1, 0, 3, (some .int), 2, 67)) (i := 599) (w := Cond.code ⟨"CellAreas$Loops", "sides", "()I"⟩ prog_5_method_16_code 3 (some .int)) rfl rfl rfl
set_option maxRecDepth 100000 in
theorem mt_cw133 : mt_CW 133 := mt_cwof (e := (4, 1, 1, 3, (some .int), 0, 0)) (i := 642) (w := Cond.code ⟨"CellAreas$Parts", "earliest", "(I)I"⟩ prog_6_method_5_code 3 (some .int)) rfl rfl rfl
set_option maxRecDepth 100000 in
theorem mt_cw134 : mt_CW 134 := mt_cwof (e := (4, 1, 2, 5, none, 1, 44)) (i := 638) (w := Cond.code ⟨"CellAreas$Parts", "join", "(II)V"⟩ prog_6_method_4_code 5 none) rfl rfl rfl
set_option maxRecDepth 100000 in
theorem mt_cw135 : mt_CW 135 := mt_cwof (e := (4, 1, 3, 6, none, 2, 68)) (i := 632) (w := Cond.code ⟨"CellAreas$Parts", "joinBands", "(LCellAreas$Area;II)V"⟩ prog_6_method_3_code 6 none) rfl rfl rfl
set_option maxRecDepth 100000 in
theorem mt_cw136 : mt_CW 136 := mt_cwof (e := (4, 1, 1, 3, none, 3, 93)) (i := 626) (w := Cond.code ⟨"CellAreas$Parts", "find", "(LCellAreas$Area;)V"⟩ prog_6_method_2_code 3 none) rfl rfl rfl
set_option maxRecDepth 100000 in
theorem mt_cw137 : mt_CW 137 := mt_cwof (e := (6, 1, 1, 2, (some (.object "CellAreas$Parts")), 4, 115)) (i := 622) (w := Cond.code ⟨"CellAreas", "partsOf", "(I)LCellAreas$Parts;"⟩ prog_1_method_29_code 2 (some (.object "CellAreas$Parts"))) rfl rfl rfl
set_option maxRecDepth 100000 in
theorem mt_cw138 : mt_CW 138 := mt_cwof (e := (3, 1, 1, 6, (some .int), 1, 22)) (i := 652) (w := Cond.code ⟨"CellAreas$Loops", "goesRound", "(I)I"⟩ prog_5_method_15_code 6 (some .int)) rfl rfl rfl
set_option maxRecDepth 100000 in
theorem mt_cw139 : mt_CW 139 := mt_cwof (e := (3, 1, 0, 3, (some .int), 2, 47)) (i := 648) (w := Cond.code ⟨"CellAreas$Loops", "holes", "()I"⟩ prog_5_method_18_code 3 (some .int)) rfl rfl rfl
set_option maxRecDepth 100000 in
theorem mt_cw140 : mt_CW 140 := mt_cwof (e := (6, 1, 2, 3, (some .int), 7, 146)) (i := 543) (w := Cond.code ⟨"CellAreas", "count", "(II)I"⟩ prog_1_method_14_code 3 (some .int)) rfl rfl rfl
set_option maxRecDepth 100000 in
theorem mt_cw141 : mt_CW 141 := mt_cwof (e := (8, 0, 4, 5, (some .int), 8, 168)) (i := 539) (w := Cond.codeWith ⟨"CellAreasLaw", "count", "(LCellAreas;II[J)I"⟩ method_15_code 5 (some .int) [(0, 10, 13, 13), (0, 10, 17, 15)]) rfl rfl rfl
set_option maxRecDepth 100000 in
theorem mt_cw142 : mt_CW 142 := mt_cwof (e := (7, 1, 0, 3, (some .int), 2, 51)) (i := 1089) (w := Cond.code ⟨"CellAreasModel", "shared", "()I"⟩ prog_9_method_40_code 3 (some .int)) rfl rfl rfl
set_option maxRecDepth 100000 in
theorem mt_cw143 : mt_CW 143 := mt_cwof (e := (7, 1, 1, 6, (some .int), 3, 73)) (i := 1085) (w := Cond.code ⟨"CellAreasModel", "sidesOf", "(I)I"⟩ prog_9_method_41_code 6 (some .int)) rfl rfl rfl
set_option maxRecDepth 100000 in
theorem mt_cw144 : mt_CW 144 := mt_cwof (e := (7, 1, 1, 8, (some .int), 1, 21)) (i := 1093) (w := Cond.code ⟨"CellAreasModel", "findParts", "(I)I"⟩ prog_9_method_52_code 8 (some .int)) rfl rfl rfl
set_option maxRecDepth 100000 in
theorem mt_cw145 : mt_CW 145 := mt_cwof (e := (7, 1, 1, 5, none, 2, 46)) (i := 1101) (w := Cond.code ⟨"CellAreasModel", "makeGrid", "(I)V"⟩ prog_9_method_42_code 5 none) rfl rfl rfl
set_option maxRecDepth 100000 in
theorem mt_cw146 : mt_CW 146 := mt_cwof (e := (7, 1, 2, 3, (some .boolean), 0, 0)) (i := 1105) (w := Cond.code ⟨"CellAreasModel", "isCell", "(II)Z"⟩ prog_9_method_43_code 3 (some .boolean)) rfl rfl rfl
set_option maxRecDepth 100000 in
theorem mt_cw147 : mt_CW 147 := mt_cwof (e := (7, 1, 1, 9, none, 0, 0)) (i := 1109) (w := Cond.code ⟨"CellAreasModel", "flood", "(I)V"⟩ prog_9_method_51_code 9 none) rfl rfl rfl
set_option maxRecDepth 100000 in
theorem mt_cw148 : mt_CW 148 := mt_cwof (e := (7, 1, 1, 5, (some .int), 3, 70)) (i := 1097) (w := Cond.code ⟨"CellAreasModel", "holesOf", "(I)I"⟩ prog_9_method_50_code 5 (some .int)) rfl rfl rfl
set_option maxRecDepth 100000 in
theorem mt_cw149 : mt_CW 149 := mt_cwof (e := (7, 1, 3, 8, (some .boolean), 1, 22)) (i := 1117) (w := Cond.code ⟨"CellAreasModel", "leads", "(III)Z"⟩ prog_9_method_44_code 8 (some .boolean)) rfl rfl rfl
set_option maxRecDepth 100000 in
theorem mt_cw150 : mt_CW 150 := mt_cwof (e := (7, 1, 3, 4, (some .int), 0, 0)) (i := 1121) (w := Cond.code ⟨"CellAreasModel", "sideOf", "(III)I"⟩ prog_9_method_45_code 4 (some .int)) rfl rfl rfl
set_option maxRecDepth 100000 in
theorem mt_cw151 : mt_CW 151 := mt_cwof (e := (7, 1, 0, 3, none, 2, 49)) (i := 1129) (w := Cond.code ⟨"CellAreasModel", "step", "()V"⟩ prog_9_method_46_code 3 none) rfl rfl rfl
set_option maxRecDepth 100000 in
theorem mt_cw152 : mt_CW 152 := mt_cwof (e := (7, 1, 3, 4, none, 3, 71)) (i := 1125) (w := Cond.code ⟨"CellAreasModel", "goRound", "(III)V"⟩ prog_9_method_48_code 4 none) rfl rfl rfl
set_option maxRecDepth 100000 in
theorem mt_cw153 : mt_CW 153 := mt_cwof (e := (7, 1, 1, 5, none, 4, 94)) (i := 1113) (w := Cond.code ⟨"CellAreasModel", "findLoops", "(I)V"⟩ prog_9_method_47_code 5 none) rfl rfl rfl
set_option maxRecDepth 100000 in
theorem mt_cw154 : mt_CW 154 := mt_cwof (e := (7, 1, 2, 8, none, 3, 71)) (i := 1133) (w := Cond.code ⟨"CellAreasModel", "measure", "(II)V"⟩ prog_9_method_49_code 8 none) rfl rfl rfl
set_option maxRecDepth 100000 in
theorem mt_cw155 : mt_CW 155 := mt_cwof (e := (7, 1, 2, 5, (some .int), 5, 118)) (i := 1081) (w := Cond.code ⟨"CellAreasModel", "count", "(II)I"⟩ prog_9_method_53_code 5 (some .int)) rfl rfl rfl
set_option maxRecDepth 100000 in
theorem mt_cw156 : mt_CW 156 := mt_cwof (e := (3, 1, 1, 2, (some .int), 0, 0)) (i := 664) (w := Cond.code ⟨"CellAreas$Loops", "cornersOf", "(I)I"⟩ prog_5_method_12_code 2 (some .int)) rfl rfl rfl
set_option maxRecDepth 100000 in
theorem mt_cw157 : mt_CW 157 := mt_cwof (e := (6, 1, 3, 5, (some .int), 7, 146)) (i := 660) (w := Cond.code ⟨"CellAreas", "loop", "(III)I"⟩ prog_1_method_15_code 5 (some .int)) rfl rfl rfl
set_option maxRecDepth 100000 in
theorem mt_cw158 : mt_CW 158 := mt_cwof (e := (8, 0, 5, 6, (some .int), 8, 170)) (i := 656) (w := Cond.codeWith ⟨"CellAreasLaw", "loop", "(LCellAreas;III[J)I"⟩ method_16_code 6 (some .int) [(0, 12, 15, 13), (0, 12, 19, 15)]) rfl rfl rfl
set_option maxRecDepth 100000 in
theorem mt_cw159 : mt_CW 159 := mt_cwof (e := (7, 1, 3, 4, (some .int), 5, 118)) (i := 1137) (w := Cond.code ⟨"CellAreasModel", "loop", "(III)I"⟩ prog_9_method_54_code 4 (some .int)) rfl rfl rfl
set_option maxRecDepth 100000 in
theorem mt_cw160 : mt_CW 160 := mt_cwof (e := (6, 1, 4, 7, (some .int), 7, 146)) (i := 673) (w := Cond.code ⟨"CellAreas", "corner", "(IIII)I"⟩ prog_1_method_16_code 7 (some .int)) rfl rfl rfl
set_option maxRecDepth 100000 in
theorem mt_cw161 : mt_CW 161 := mt_cwof (e := (8, 0, 6, 7, (some .int), 8, 172)) (i := 669) (w := Cond.codeWith ⟨"CellAreasLaw", "corner", "(LCellAreas;IIII[J)I"⟩ method_17_code 7 (some .int) [(0, 14, 17, 13), (0, 14, 21, 15)]) rfl rfl rfl
set_option maxRecDepth 100000 in
theorem mt_cw162 : mt_CW 162 := mt_cwof (e := (7, 1, 4, 5, (some .int), 5, 118)) (i := 1142) (w := Cond.code ⟨"CellAreasModel", "corner", "(IIII)I"⟩ prog_9_method_55_code 5 (some .int)) rfl rfl rfl
set_option maxRecDepth 100000 in
theorem mt_cw163 : mt_CW 163 := mt_cwof (e := (3, 1, 4, 6, none, 3, 92)) (i := 686) (w := Cond.code ⟨"CellAreas$Loops", "layInside", "(LCellAreas$Area;IILCellAreas$Row;)V"⟩ prog_5_method_19_code 6 none) rfl rfl rfl
set_option maxRecDepth 100000 in
theorem mt_cw164 : mt_CW 164 := mt_cwof (e := (6, 1, 3, 7, (some .int), 7, 146)) (i := 682) (w := Cond.code ⟨"CellAreas", "inner", "(III)I"⟩ prog_1_method_17_code 7 (some .int)) rfl rfl rfl
set_option maxRecDepth 100000 in
theorem mt_cw165 : mt_CW 165 := mt_cwof (e := (8, 0, 5, 6, (some .int), 8, 172)) (i := 678) (w := Cond.codeWith ⟨"CellAreasLaw", "inner", "(LCellAreas;III[J)I"⟩ method_18_code 6 (some .int) [(0, 12, 15, 13), (0, 12, 19, 15)]) rfl rfl rfl
set_option maxRecDepth 100000 in
theorem mt_cw166 : mt_CW 166 := mt_cwof (e := (7, 1, 3, 9, (some .int), 5, 118)) (i := 1146) (w := Cond.code ⟨"CellAreasModel", "inner", "(III)I"⟩ prog_9_method_56_code 9 (some .int)) rfl rfl rfl
set_option maxRecDepth 100000 in
theorem mt_cw167 : mt_CW 167 := mt_cwof (e := (6, 1, 3, 5, (some .int), 7, 136)) (i := 694) (w := Cond.code ⟨"CellAreas", "partOf", "(III)I"⟩ prog_1_method_18_code 5 (some .int)) rfl rfl rfl
set_option maxRecDepth 100000 in
theorem mt_cw168 : mt_CW 168 := mt_cwof (e := (8, 0, 5, 6, (some .int), 8, 160)) (i := 690) (w := Cond.codeWith ⟨"CellAreasLaw", "partOf", "(LCellAreas;III[J)I"⟩ method_19_code 6 (some .int) [(0, 12, 15, 13)]) rfl rfl rfl
set_option maxRecDepth 100000 in
theorem mt_cw169 : mt_CW 169 := mt_cwof (e := (7, 1, 3, 6, (some .int), 3, 72)) (i := 1150) (w := Cond.code ⟨"CellAreasModel", "partOf", "(III)I"⟩ prog_9_method_57_code 6 (some .int)) rfl rfl rfl
set_option maxRecDepth 100000 in
theorem mt_cw170 : mt_CW 170 := mt_cwof (e := (6, 1, 3, 8, (some .int), 7, 139)) (i := 701) (w := Cond.code ⟨"CellAreas", "take", "(III)I"⟩ prog_1_method_19_code 8 (some .int)) rfl rfl rfl
set_option maxRecDepth 100000 in
theorem mt_cw171 : mt_CW 171 := mt_cwof (e := (8, 0, 5, 6, (some .int), 8, 166)) (i := 697) (w := Cond.codeWith ⟨"CellAreasLaw", "take", "(LCellAreas;III[J)I"⟩ method_20_code 6 (some .int) [(0, 12, 15, 13), (0, 12, 19, 15)]) rfl rfl rfl
set_option maxRecDepth 100000 in
theorem mt_cw172 : mt_CW 172 := mt_cwof (e := (7, 1, 3, 6, (some .int), 2, 48)) (i := 1154) (w := Cond.code ⟨"CellAreasModel", "take", "(III)I"⟩ prog_9_method_58_code 6 (some .int)) rfl rfl rfl
set_option maxRecDepth 100000 in
theorem mt_cw173 : mt_CW 173 := mt_cwof (e := (1, 1, 0, 1, none, 0, 0)) (i := 716) (w := Cond.code ⟨"CellAreas$BestBox", "forget", "()V"⟩ prog_3_method_2_code 1 none) rfl rfl rfl
set_option maxRecDepth 100000 in
theorem mt_cw174 : mt_CW 174 := mt_cwof (e := (1, 1, 3, 4, (some .boolean), 0, 0)) (i := 729) (w := Cond.code ⟨"CellAreas$BestBox", "comesBefore", "(III)Z"⟩ prog_3_method_4_code 4 (some .boolean)) rfl rfl rfl
set_option maxRecDepth 100000 in
theorem mt_cw175 : mt_CW 175 := mt_cwof (e := (1, 1, 4, 6, none, 1, 23)) (i := 725) (w := Cond.code ⟨"CellAreas$BestBox", "offer", "(IIII)V"⟩ prog_3_method_3_code 6 none) rfl rfl rfl
set_option maxRecDepth 100000 in
theorem mt_cw176 : mt_CW 176 := mt_cwof (e := (6, 1, 2, 5, none, 4, 91)) (i := 720) (w := Cond.code ⟨"CellAreas", "offerBoxes", "(II)V"⟩ prog_1_method_38_code 5 none) rfl rfl rfl
set_option maxRecDepth 100000 in
theorem mt_cw177 : mt_CW 177 := mt_cwof (e := (6, 1, 1, 4, none, 5, 117)) (i := 712) (w := Cond.code ⟨"CellAreas", "findLargest", "(LCellAreas$Area;)V"⟩ prog_1_method_37_code 4 none) rfl rfl rfl
set_option maxRecDepth 100000 in
theorem mt_cw178 : mt_CW 178 := mt_cwof (e := (6, 1, 2, 3, (some .int), 7, 140)) (i := 708) (w := Cond.code ⟨"CellAreas", "largest", "(II)I"⟩ prog_1_method_20_code 3 (some .int)) rfl rfl rfl
set_option maxRecDepth 100000 in
theorem mt_cw179 : mt_CW 179 := mt_cwof (e := (8, 0, 4, 5, (some .int), 8, 162)) (i := 704) (w := Cond.codeWith ⟨"CellAreasLaw", "largest", "(LCellAreas;II[J)I"⟩ method_21_code 5 (some .int) [(0, 10, 13, 13)]) rfl rfl rfl
set_option maxRecDepth 100000 in
theorem mt_cw180 : mt_CW 180 := mt_cwof (e := (7, 1, 4, 7, none, 0, 0)) (i := 1166) (w := Cond.code ⟨"CellAreasModel", "offer", "(IIII)V"⟩ prog_9_method_60_code 7 none) rfl rfl rfl
set_option maxRecDepth 100000 in
theorem mt_cw181 : mt_CW 181 := mt_cwof (e := (7, 1, 1, 5, none, 1, 26)) (i := 1162) (w := Cond.code ⟨"CellAreasModel", "boxesFrom", "(I)V"⟩ prog_9_method_59_code 5 none) rfl rfl rfl
set_option maxRecDepth 100000 in
theorem mt_cw182 : mt_CW 182 := mt_cwof (e := (7, 1, 2, 4, (some .int), 3, 70)) (i := 1158) (w := Cond.code ⟨"CellAreasModel", "largest", "(II)I"⟩ prog_9_method_61_code 4 (some .int)) rfl rfl rfl
set_option maxRecDepth 100000 in
theorem mt_cw183 : mt_CW 183 := mt_cwof (e := (6, 1, 2, 6, (some .boolean), 7, 139)) (i := 736) (w := Cond.code ⟨"CellAreas", "within", "(II)Z"⟩ prog_1_method_21_code 6 (some .boolean)) rfl rfl rfl
set_option maxRecDepth 100000 in
theorem mt_cw184 : mt_CW 184 := mt_cwof (e := (8, 0, 4, 5, (some .int), 8, 164)) (i := 732) (w := Cond.codeWith ⟨"CellAreasLaw", "within", "(LCellAreas;II[J)I"⟩ method_22_code 5 (some .int) [(0, 17, 20, 13)]) rfl rfl rfl
set_option maxRecDepth 100000 in
theorem mt_cw185 : mt_CW 185 := mt_cwof (e := (7, 1, 2, 5, (some .boolean), 3, 69)) (i := 1170) (w := Cond.code ⟨"CellAreasModel", "within", "(II)Z"⟩ prog_9_method_62_code 5 (some .boolean)) rfl rfl rfl
set_option maxRecDepth 100000 in
theorem mt_cw186 : mt_CW 186 := mt_cwof (e := (6, 0, 4, 4, (some .int), 1, 43)) (i := 746) (w := Cond.code ⟨"CellAreas", "gap", "(IIII)I"⟩ prog_1_method_39_code 4 (some .int)) rfl rfl rfl
set_option maxRecDepth 100000 in
theorem mt_cw187 : mt_CW 187 := mt_cwof (e := (6, 0, 4, 7, (some .int), 2, 66)) (i := 749) (w := Cond.code ⟨"CellAreas", "gapBetweenBands", "(LCellAreas$Area;ILCellAreas$Area;I)I"⟩ prog_1_method_40_code 7 (some .int)) rfl rfl rfl
set_option maxRecDepth 100000 in
theorem mt_cw188 : mt_CW 188 := mt_cwof (e := (6, 1, 2, 9, (some .int), 7, 101)) (i := 743) (w := Cond.code ⟨"CellAreas", "distance", "(II)I"⟩ prog_1_method_22_code 9 (some .int)) rfl rfl rfl
set_option maxRecDepth 100000 in
theorem mt_cw189 : mt_CW 189 := mt_cwof (e := (8, 0, 4, 5, (some .int), 8, 129)) (i := 739) (w := Cond.codeWith ⟨"CellAreasLaw", "distance", "(LCellAreas;II[J)I"⟩ method_23_code 5 (some .int) [(0, 10, 13, 13)]) rfl rfl rfl
set_option maxRecDepth 100000 in
theorem mt_cw190 : mt_CW 190 := mt_cwof (e := (7, 0, 4, 4, (some .int), 0, 0)) (i := 1177) (w := Cond.code ⟨"CellAreasModel", "gap", "(IIII)I"⟩ prog_9_method_63_code 4 (some .int)) rfl rfl rfl
set_option maxRecDepth 100000 in
theorem mt_cw191 : mt_CW 191 := mt_cwof (e := (7, 1, 2, 11, (some .int), 2, 43)) (i := 1174) (w := Cond.code ⟨"CellAreasModel", "distance", "(II)I"⟩ prog_9_method_64_code 11 (some .int)) rfl rfl rfl
set_option maxRecDepth 100000 in
theorem mt_cw192 : mt_CW 192 := mt_cwof (e := (3, 1, 1, 3, none, 3, 92)) (i := 760) (w := Cond.code ⟨"CellAreas$Loops", "markRows", "(LCellAreas$Row;)V"⟩ prog_5_method_21_code 3 none) rfl rfl rfl
set_option maxRecDepth 100000 in
theorem mt_cw193 : mt_CW 193 := mt_cwof (e := (3, 1, 2, 6, none, 3, 92)) (i := 765) (w := Cond.code ⟨"CellAreas$Loops", "layInsideOfAll", "(ILCellAreas$Row;)V"⟩ prog_5_method_20_code 6 none) rfl rfl rfl
set_option maxRecDepth 100000 in
theorem mt_cw194 : mt_CW 194 := mt_cwof (e := (0, 1, 1, 3, (some .boolean), 1, 20)) (i := 771) (w := Cond.code ⟨"CellAreas$Area", "sameAs", "(LCellAreas$Area;)Z"⟩ prog_2_method_15_code 3 (some .boolean)) rfl rfl rfl
set_option maxRecDepth 100000 in
theorem mt_cw195 : mt_CW 195 := mt_cwof (e := (3, 1, 0, 3, (some .int), 2, 47)) (i := 775) (w := Cond.code ⟨"CellAreas$Loops", "allGoRound", "()I"⟩ prog_5_method_17_code 3 (some .int)) rfl rfl rfl
set_option maxRecDepth 100000 in
theorem mt_cw196 : mt_CW 196 := mt_cwof (e := (6, 1, 1, 5, (some .int), 7, 146)) (i := 756) (w := Cond.code ⟨"CellAreas", "check", "(I)I"⟩ prog_1_method_23_code 5 (some .int)) rfl rfl rfl
set_option maxRecDepth 100000 in
theorem mt_cw197 : mt_CW 197 := mt_cwof (e := (8, 0, 3, 4, (some .int), 8, 170)) (i := 752) (w := Cond.codeWith ⟨"CellAreasLaw", "check", "(LCellAreas;I[J)I"⟩ method_24_code 4 (some .int) [(0, 9, 12, 13)]) rfl rfl rfl
set_option maxRecDepth 100000 in
theorem mt_cw198 : mt_CW 198 := mt_cwof (e := (7, 1, 1, 2, (some .int), 1, 21)) (i := 1181) (w := Cond.code ⟨"CellAreasModel", "check", "(I)I"⟩ prog_9_method_65_code 2 (some .int)) rfl rfl rfl
theorem mt_cwl0 : ∀ y ∈ ([0, 1, 2, 3, 4, 5, 6, 7, 8, 9, 10, 11, 12, 13, 14, 15, 16, 17, 18, 19, 20, 21, 22, 23, 24, 25, 26, 27, 28, 29, 30, 31, 32, 33, 34, 35, 36, 37, 38, 39] : List Nat), mt_CW y := List.forall_mem_cons.mpr ⟨mt_cw0, List.forall_mem_cons.mpr ⟨mt_cw1, List.forall_mem_cons.mpr ⟨mt_cw2, List.forall_mem_cons.mpr ⟨mt_cw3, List.forall_mem_cons.mpr ⟨mt_cw4, List.forall_mem_cons.mpr ⟨mt_cw5, List.forall_mem_cons.mpr ⟨mt_cw6, List.forall_mem_cons.mpr ⟨mt_cw7, List.forall_mem_cons.mpr ⟨mt_cw8, List.forall_mem_cons.mpr ⟨mt_cw9, List.forall_mem_cons.mpr ⟨mt_cw10, List.forall_mem_cons.mpr ⟨mt_cw11, List.forall_mem_cons.mpr ⟨mt_cw12, List.forall_mem_cons.mpr ⟨mt_cw13, List.forall_mem_cons.mpr ⟨mt_cw14, List.forall_mem_cons.mpr ⟨mt_cw15, List.forall_mem_cons.mpr ⟨mt_cw16, List.forall_mem_cons.mpr ⟨mt_cw17, List.forall_mem_cons.mpr ⟨mt_cw18, List.forall_mem_cons.mpr ⟨mt_cw19, List.forall_mem_cons.mpr ⟨mt_cw20, List.forall_mem_cons.mpr ⟨mt_cw21, List.forall_mem_cons.mpr ⟨mt_cw22, List.forall_mem_cons.mpr ⟨mt_cw23, List.forall_mem_cons.mpr ⟨mt_cw24, List.forall_mem_cons.mpr ⟨mt_cw25, List.forall_mem_cons.mpr ⟨mt_cw26, List.forall_mem_cons.mpr ⟨mt_cw27, List.forall_mem_cons.mpr ⟨mt_cw28, List.forall_mem_cons.mpr ⟨mt_cw29, List.forall_mem_cons.mpr ⟨mt_cw30, List.forall_mem_cons.mpr ⟨mt_cw31, List.forall_mem_cons.mpr ⟨mt_cw32, List.forall_mem_cons.mpr ⟨mt_cw33, List.forall_mem_cons.mpr ⟨mt_cw34, List.forall_mem_cons.mpr ⟨mt_cw35, List.forall_mem_cons.mpr ⟨mt_cw36, List.forall_mem_cons.mpr ⟨mt_cw37, List.forall_mem_cons.mpr ⟨mt_cw38, List.forall_mem_cons.mpr ⟨mt_cw39, fun _ h => absurd h List.not_mem_nil⟩⟩⟩⟩⟩⟩⟩⟩⟩⟩⟩⟩⟩⟩⟩⟩⟩⟩⟩⟩⟩⟩⟩⟩⟩⟩⟩⟩⟩⟩⟩⟩⟩⟩⟩⟩⟩⟩⟩⟩
theorem mt_cwl40 : ∀ y ∈ ([40, 41, 42, 43, 44, 45, 46, 47, 48, 49, 50, 51, 52, 53, 54, 55, 56, 57, 58, 59, 60, 61, 62, 63, 64, 65, 66, 67, 68, 69, 70, 71, 72, 73, 74, 75, 76, 77, 78, 79] : List Nat), mt_CW y := List.forall_mem_cons.mpr ⟨mt_cw40, List.forall_mem_cons.mpr ⟨mt_cw41, List.forall_mem_cons.mpr ⟨mt_cw42, List.forall_mem_cons.mpr ⟨mt_cw43, List.forall_mem_cons.mpr ⟨mt_cw44, List.forall_mem_cons.mpr ⟨mt_cw45, List.forall_mem_cons.mpr ⟨mt_cw46, List.forall_mem_cons.mpr ⟨mt_cw47, List.forall_mem_cons.mpr ⟨mt_cw48, List.forall_mem_cons.mpr ⟨mt_cw49, List.forall_mem_cons.mpr ⟨mt_cw50, List.forall_mem_cons.mpr ⟨mt_cw51, List.forall_mem_cons.mpr ⟨mt_cw52, List.forall_mem_cons.mpr ⟨mt_cw53, List.forall_mem_cons.mpr ⟨mt_cw54, List.forall_mem_cons.mpr ⟨mt_cw55, List.forall_mem_cons.mpr ⟨mt_cw56, List.forall_mem_cons.mpr ⟨mt_cw57, List.forall_mem_cons.mpr ⟨mt_cw58, List.forall_mem_cons.mpr ⟨mt_cw59, List.forall_mem_cons.mpr ⟨mt_cw60, List.forall_mem_cons.mpr ⟨mt_cw61, List.forall_mem_cons.mpr ⟨mt_cw62, List.forall_mem_cons.mpr ⟨mt_cw63, List.forall_mem_cons.mpr ⟨mt_cw64, List.forall_mem_cons.mpr ⟨mt_cw65, List.forall_mem_cons.mpr ⟨mt_cw66, List.forall_mem_cons.mpr ⟨mt_cw67, List.forall_mem_cons.mpr ⟨mt_cw68, List.forall_mem_cons.mpr ⟨mt_cw69, List.forall_mem_cons.mpr ⟨mt_cw70, List.forall_mem_cons.mpr ⟨mt_cw71, List.forall_mem_cons.mpr ⟨mt_cw72, List.forall_mem_cons.mpr ⟨mt_cw73, List.forall_mem_cons.mpr ⟨mt_cw74, List.forall_mem_cons.mpr ⟨mt_cw75, List.forall_mem_cons.mpr ⟨mt_cw76, List.forall_mem_cons.mpr ⟨mt_cw77, List.forall_mem_cons.mpr ⟨mt_cw78, List.forall_mem_cons.mpr ⟨mt_cw79, fun _ h => absurd h List.not_mem_nil⟩⟩⟩⟩⟩⟩⟩⟩⟩⟩⟩⟩⟩⟩⟩⟩⟩⟩⟩⟩⟩⟩⟩⟩⟩⟩⟩⟩⟩⟩⟩⟩⟩⟩⟩⟩⟩⟩⟩⟩
theorem mt_cwl80 : ∀ y ∈ ([80, 81, 82, 83, 84, 85, 86, 87, 88, 89, 90, 91, 92, 93, 94, 95, 96, 97, 98, 99, 100, 101, 102, 103, 104, 105, 106, 107, 108, 109, 110, 111, 112, 113, 114, 115, 116, 117, 118, 119] : List Nat), mt_CW y := List.forall_mem_cons.mpr ⟨mt_cw80, List.forall_mem_cons.mpr ⟨mt_cw81, List.forall_mem_cons.mpr ⟨mt_cw82, List.forall_mem_cons.mpr ⟨mt_cw83, List.forall_mem_cons.mpr ⟨mt_cw84, List.forall_mem_cons.mpr ⟨mt_cw85, List.forall_mem_cons.mpr ⟨mt_cw86, List.forall_mem_cons.mpr ⟨mt_cw87, List.forall_mem_cons.mpr ⟨mt_cw88, List.forall_mem_cons.mpr ⟨mt_cw89, List.forall_mem_cons.mpr ⟨mt_cw90, List.forall_mem_cons.mpr ⟨mt_cw91, List.forall_mem_cons.mpr ⟨mt_cw92, List.forall_mem_cons.mpr ⟨mt_cw93, List.forall_mem_cons.mpr ⟨mt_cw94, List.forall_mem_cons.mpr ⟨mt_cw95, List.forall_mem_cons.mpr ⟨mt_cw96, List.forall_mem_cons.mpr ⟨mt_cw97, List.forall_mem_cons.mpr ⟨mt_cw98, List.forall_mem_cons.mpr ⟨mt_cw99, List.forall_mem_cons.mpr ⟨mt_cw100, List.forall_mem_cons.mpr ⟨mt_cw101, List.forall_mem_cons.mpr ⟨mt_cw102, List.forall_mem_cons.mpr ⟨mt_cw103, List.forall_mem_cons.mpr ⟨mt_cw104, List.forall_mem_cons.mpr ⟨mt_cw105, List.forall_mem_cons.mpr ⟨mt_cw106, List.forall_mem_cons.mpr ⟨mt_cw107, List.forall_mem_cons.mpr ⟨mt_cw108, List.forall_mem_cons.mpr ⟨mt_cw109, List.forall_mem_cons.mpr ⟨mt_cw110, List.forall_mem_cons.mpr ⟨mt_cw111, List.forall_mem_cons.mpr ⟨mt_cw112, List.forall_mem_cons.mpr ⟨mt_cw113, List.forall_mem_cons.mpr ⟨mt_cw114, List.forall_mem_cons.mpr ⟨mt_cw115, List.forall_mem_cons.mpr ⟨mt_cw116, List.forall_mem_cons.mpr ⟨mt_cw117, List.forall_mem_cons.mpr ⟨mt_cw118, List.forall_mem_cons.mpr ⟨mt_cw119, fun _ h => absurd h List.not_mem_nil⟩⟩⟩⟩⟩⟩⟩⟩⟩⟩⟩⟩⟩⟩⟩⟩⟩⟩⟩⟩⟩⟩⟩⟩⟩⟩⟩⟩⟩⟩⟩⟩⟩⟩⟩⟩⟩⟩⟩⟩
theorem mt_cwl120 : ∀ y ∈ ([120, 121, 122, 123, 124, 125, 126, 127, 128, 129, 130, 131, 132, 133, 134, 135, 136, 137, 138, 139, 140, 141, 142, 143, 144, 145, 146, 147, 148, 149, 150, 151, 152, 153, 154, 155, 156, 157, 158, 159] : List Nat), mt_CW y := List.forall_mem_cons.mpr ⟨mt_cw120, List.forall_mem_cons.mpr ⟨mt_cw121, List.forall_mem_cons.mpr ⟨mt_cw122, List.forall_mem_cons.mpr ⟨mt_cw123, List.forall_mem_cons.mpr ⟨mt_cw124, List.forall_mem_cons.mpr ⟨mt_cw125, List.forall_mem_cons.mpr ⟨mt_cw126, List.forall_mem_cons.mpr ⟨mt_cw127, List.forall_mem_cons.mpr ⟨mt_cw128, List.forall_mem_cons.mpr ⟨mt_cw129, List.forall_mem_cons.mpr ⟨mt_cw130, List.forall_mem_cons.mpr ⟨mt_cw131, List.forall_mem_cons.mpr ⟨mt_cw132, List.forall_mem_cons.mpr ⟨mt_cw133, List.forall_mem_cons.mpr ⟨mt_cw134, List.forall_mem_cons.mpr ⟨mt_cw135, List.forall_mem_cons.mpr ⟨mt_cw136, List.forall_mem_cons.mpr ⟨mt_cw137, List.forall_mem_cons.mpr ⟨mt_cw138, List.forall_mem_cons.mpr ⟨mt_cw139, List.forall_mem_cons.mpr ⟨mt_cw140, List.forall_mem_cons.mpr ⟨mt_cw141, List.forall_mem_cons.mpr ⟨mt_cw142, List.forall_mem_cons.mpr ⟨mt_cw143, List.forall_mem_cons.mpr ⟨mt_cw144, List.forall_mem_cons.mpr ⟨mt_cw145, List.forall_mem_cons.mpr ⟨mt_cw146, List.forall_mem_cons.mpr ⟨mt_cw147, List.forall_mem_cons.mpr ⟨mt_cw148, List.forall_mem_cons.mpr ⟨mt_cw149, List.forall_mem_cons.mpr ⟨mt_cw150, List.forall_mem_cons.mpr ⟨mt_cw151, List.forall_mem_cons.mpr ⟨mt_cw152, List.forall_mem_cons.mpr ⟨mt_cw153, List.forall_mem_cons.mpr ⟨mt_cw154, List.forall_mem_cons.mpr ⟨mt_cw155, List.forall_mem_cons.mpr ⟨mt_cw156, List.forall_mem_cons.mpr ⟨mt_cw157, List.forall_mem_cons.mpr ⟨mt_cw158, List.forall_mem_cons.mpr ⟨mt_cw159, fun _ h => absurd h List.not_mem_nil⟩⟩⟩⟩⟩⟩⟩⟩⟩⟩⟩⟩⟩⟩⟩⟩⟩⟩⟩⟩⟩⟩⟩⟩⟩⟩⟩⟩⟩⟩⟩⟩⟩⟩⟩⟩⟩⟩⟩⟩
theorem mt_cwl160 : ∀ y ∈ ([160, 161, 162, 163, 164, 165, 166, 167, 168, 169, 170, 171, 172, 173, 174, 175, 176, 177, 178, 179, 180, 181, 182, 183, 184, 185, 186, 187, 188, 189, 190, 191, 192, 193, 194, 195, 196, 197, 198] : List Nat), mt_CW y := List.forall_mem_cons.mpr ⟨mt_cw160, List.forall_mem_cons.mpr ⟨mt_cw161, List.forall_mem_cons.mpr ⟨mt_cw162, List.forall_mem_cons.mpr ⟨mt_cw163, List.forall_mem_cons.mpr ⟨mt_cw164, List.forall_mem_cons.mpr ⟨mt_cw165, List.forall_mem_cons.mpr ⟨mt_cw166, List.forall_mem_cons.mpr ⟨mt_cw167, List.forall_mem_cons.mpr ⟨mt_cw168, List.forall_mem_cons.mpr ⟨mt_cw169, List.forall_mem_cons.mpr ⟨mt_cw170, List.forall_mem_cons.mpr ⟨mt_cw171, List.forall_mem_cons.mpr ⟨mt_cw172, List.forall_mem_cons.mpr ⟨mt_cw173, List.forall_mem_cons.mpr ⟨mt_cw174, List.forall_mem_cons.mpr ⟨mt_cw175, List.forall_mem_cons.mpr ⟨mt_cw176, List.forall_mem_cons.mpr ⟨mt_cw177, List.forall_mem_cons.mpr ⟨mt_cw178, List.forall_mem_cons.mpr ⟨mt_cw179, List.forall_mem_cons.mpr ⟨mt_cw180, List.forall_mem_cons.mpr ⟨mt_cw181, List.forall_mem_cons.mpr ⟨mt_cw182, List.forall_mem_cons.mpr ⟨mt_cw183, List.forall_mem_cons.mpr ⟨mt_cw184, List.forall_mem_cons.mpr ⟨mt_cw185, List.forall_mem_cons.mpr ⟨mt_cw186, List.forall_mem_cons.mpr ⟨mt_cw187, List.forall_mem_cons.mpr ⟨mt_cw188, List.forall_mem_cons.mpr ⟨mt_cw189, List.forall_mem_cons.mpr ⟨mt_cw190, List.forall_mem_cons.mpr ⟨mt_cw191, List.forall_mem_cons.mpr ⟨mt_cw192, List.forall_mem_cons.mpr ⟨mt_cw193, List.forall_mem_cons.mpr ⟨mt_cw194, List.forall_mem_cons.mpr ⟨mt_cw195, List.forall_mem_cons.mpr ⟨mt_cw196, List.forall_mem_cons.mpr ⟨mt_cw197, List.forall_mem_cons.mpr ⟨mt_cw198, fun _ h => absurd h List.not_mem_nil⟩⟩⟩⟩⟩⟩⟩⟩⟩⟩⟩⟩⟩⟩⟩⟩⟩⟩⟩⟩⟩⟩⟩⟩⟩⟩⟩⟩⟩⟩⟩⟩⟩⟩⟩⟩⟩⟩⟩
theorem mt_mem_iv {y a b : Nat} (h1 : a ≤ y) (h2 : y < b) (l : List Nat) (h : l = (List.range (b - a)).map (a + ·)) : y ∈ l := by
  rw [h]
  exact List.mem_map.mpr ⟨y - a, List.mem_range.mpr (by omega), by omega⟩
theorem mt_cwall (y : Nat) (h : y < 199) : mt_CW y := by
  by_cases h0 : y < 40
  · exact mt_cwl0 y (mt_mem_iv (a := 0) (b := 40) (by omega) (by omega) _ rfl)
  by_cases h40 : y < 80
  · exact mt_cwl40 y (mt_mem_iv (a := 40) (b := 80) (by omega) (by omega) _ rfl)
  by_cases h80 : y < 120
  · exact mt_cwl80 y (mt_mem_iv (a := 80) (b := 120) (by omega) (by omega) _ rfl)
  by_cases h120 : y < 160
  · exact mt_cwl120 y (mt_mem_iv (a := 120) (b := 160) (by omega) (by omega) _ rfl)
  by_cases h160 : y < 199
  · exact mt_cwl160 y (mt_mem_iv (a := 160) (b := 199) (by omega) (by omega) _ rfl)
  exact absurd h (by omega)
theorem mt_lmz : mt_lm.all (fun e => decide (e.2.2.1 < 199)) = true := by decide +kernel
theorem mt_cw_good (y : Nat) (me : mm_E) : goodWord (mm_cw mt_nmf mt_byf mt_hhf y me) = true := by
  unfold mm_cw
  split <;> rfl
theorem mt_Gm (sc : Nat × (Int → Int)) : mm_Gm (mt_P sc) mt_cl mt_Ts mt_cnf mt_nmf mt_byf mt_hhf := by
  intro c0 i0 y me hl hy hk
  obtain ⟨v, h1, h2⟩ := Option.map_eq_some_iff.mp (show (mt_look mt_lm c0 i0).map (·.1) = some y from hl)
  have hlt : y < 199 := by
    have := of_decide_eq_true (mt_look_all mt_lmz h1)
    rw [← h2]; exact this
  have g := mt_mall y hlt
  unfold mt_mchk at g
  rw [show mt_mt[y]? = some me from hy] at g
  simp only [Bool.or_eq_true, Bool.and_eq_true, decide_eq_true_eq] at g
  rcases g with g | g
  · omega
  · obtain ⟨⟨⟨⟨⟨⟨a1, a2⟩, a4⟩, a5⟩, a6⟩, a7⟩, a8⟩ := g
    have a3 := mt_cwall y hlt me hy hk
    refine ⟨a1, a2, mt_inT a3 (mt_cw_good y me), a4, a5, a6, mt_inT (List.mem_of_getElem? a7) rfl, fun q => ?_, fun q => ?_, fun q => ?_, fun q => ?_⟩
    · rcases a8 with (b | b) | b
      · exact mt_inT (List.mem_of_getElem? b.2) rfl
      · have := b.1.1.1.1; omega
      · have := b.1.1.1.1.1; omega
    · rcases a8 with (b | b) | b
      · have := b.1; omega
      · exact ⟨mt_inT (List.mem_of_getElem? b.1.1.1.2) rfl, mt_sel_in b.1.1.2, b.1.2⟩
      · have := b.1.1.1.1.1; omega
    · rcases a8 with (b | b) | b
      · have := b.1; omega
      · have := b.1.1.1.1; omega
      · exact ⟨b.1.1.1.1.2, mt_inT (List.mem_of_getElem? b.1.1.1.2) rfl, b.1.1.2, b.1.2⟩
    · have h9 : (mt_cl[me.1]?).map (·.1) = some (mt_cnf me.1) := by
        rcases a8 with (b | b) | b
        · have := b.1; omega
        · exact b.2
        · exact b.2
      obtain ⟨⟨C, T, N⟩, e1, e2⟩ := Option.map_eq_some_iff.mp h9
      cases e2
      exact ⟨T, N, e1⟩
def mt_lchk (e : Nat × Nat × Nat × Nat × Nat) : Bool := match mt_mt[e.2.2.1]? with
  | some mz => if 10 ≤ mz.2.1 then decide (tables_1[e.2.2.2.1]? = some (Cond.methodLink (mt_cnf e.1) e.2.1 (mm_bn mz.2.1)))
    else if e.2.2.2.2 = 1 then decide (mz.2.1 = 2) && decide (tables_1[e.2.2.2.1]? = some (Cond.methodLinkNest (mt_cnf e.1) e.2.1 (mt_nmf e.2.2.1) "CellAreas"))
    else decide (tables_1[e.2.2.2.1]? = some (Cond.methodLink (mt_cnf e.1) e.2.1 (mt_nmf e.2.2.1)))
  | none => false
theorem mt_lmok : mt_lm.all mt_lchk = true := by decide +kernel
theorem mt_Gl (sc : Nat × (Int → Int)) : mm_Gl (mt_P sc) mt_Ts mt_Nw mt_cnf mt_nmf := by
  intro c idx z mz hl hz
  obtain ⟨v, h1, h2⟩ := Option.map_eq_some_iff.mp (show (mt_look mt_lm c idx).map (·.1) = some z from hl)
  subst h2
  have g := mt_look_all mt_lmok h1
  unfold mt_lchk at g
  simp only at g
  rw [show mt_mt[v.1]? = some mz from hz] at g
  simp only at g
  split at g
  · exact ⟨fun q => by omega, fun _ => mt_in g rfl⟩
  · split at g
    · simp only [Bool.and_eq_true] at g
      exact ⟨fun _ => Or.inr ⟨of_decide_eq_true g.1, "CellAreas", mt_inN g.2 rfl⟩, fun q => by omega⟩
    · exact ⟨fun _ => Or.inl (mt_in g rfl), fun q => by omega⟩
theorem mt_Gb : mm_Gb mt_Ts := ⟨mt_in (i := 25) (by decide +kernel) rfl, mt_in (i := 26) (by decide +kernel) rfl, mt_in (i := 15) (by decide +kernel) rfl, mt_in (i := 308) (by decide +kernel) rfl, mt_in (i := 309) (by decide +kernel) rfl, mt_in (i := 311) (by decide +kernel) rfl, mt_in (i := 312) (by decide +kernel) rfl, mt_in (i := 613) (by decide +kernel) rfl, mt_in (i := 614) (by decide +kernel) rfl, mt_in (i := 363) (by decide +kernel) rfl, mt_in (i := 362) (by decide +kernel) rfl, mt_in (i := 18) (by decide +kernel) rfl⟩
theorem mt_hok : (mt_hh.all fun l => l.all fun h => (h.2.2.2 == 13 || h.2.2.2 == 15)) = true := by decide +kernel
theorem mt_hcl : ((List.range 200).all fun y => decide (mt_hhf y = []) || decide ((mt_mt[y]?).map (·.1) = some 8)) = true := by decide +kernel
theorem mt_hlen : mt_hh.length = 200 := by decide +kernel
theorem mt_hy {y : Nat} {me : mm_E} (hy : mt_mt[y]? = some me) : mt_hhf y = [] ∨ me.1 = 8 := by
  by_cases h : y < 200
  · have g := List.all_eq_true.mp mt_hcl y (List.mem_range.mpr h)
    simp only [Bool.or_eq_true, decide_eq_true_eq] at g
    rcases g with g | g
    · exact Or.inl g
    · rw [hy] at g; exact Or.inr (Option.some.inj g)
  · left
    unfold mt_hhf
    rw [List.getD_eq_getElem?_getD, List.getElem?_eq_none (by rw [mt_hlen]; omega)]; rfl
theorem mt_hc {y : Nat} {h : Nat × Nat × Nat × Nat} (hh : h ∈ mt_hhf y) : h.2.2.2 = 13 ∨ h.2.2.2 = 15 := by
  unfold mt_hhf at hh
  rw [List.getD_eq_getElem?_getD] at hh
  cases hq : mt_hh[y]? with
  | none => rw [hq] at hh; cases hh
  | some l =>
    rw [hq] at hh
    have g := List.all_eq_true.mp (List.all_eq_true.mp mt_hok l (List.mem_of_getElem? hq)) h hh
    simpa using g
theorem mt_w13 : Cond.classLink (mt_cnf 8) 13 "java/lang/IndexOutOfBoundsException" ∈ mt_Ts := mt_in (i := 203) (by decide +kernel) rfl
theorem mt_w15 : Cond.classLink (mt_cnf 8) 15 "java/lang/IllegalArgumentException" ∈ mt_Ts := mt_in (i := 204) (by decide +kernel) rfl
theorem mt_cx1 : Cond.castable "java/lang/IndexOutOfBoundsException" "java/lang/IndexOutOfBoundsException" ∈ mt_Nw := mt_inN (i := 214) (by decide +kernel) rfl
theorem mt_cx2 : Cond.castable "java/lang/IllegalArgumentException" "java/lang/IllegalArgumentException" ∈ mt_Nw := mt_inN (i := 279) (by decide +kernel) rfl
def mt_take (x : Nat) (h : Nat × Nat × Nat × Nat) : Bool := (h.2.2.2 == 13 && x == 1) || (h.2.2.2 == 15 && x != 1)
theorem mt_pass {pc x : Nat} {h : Nat × Nat × Nat × Nat} (hc : h.2.2.2 = 13 ∨ h.2.2.2 = 15) (hn : (decide (h.1 ≤ pc) && decide (pc < h.2.1) && mt_take x h) = false) {z : ExceptionTableEntry} (hz : tableOf [h] = [z]) : mm_ps mt_Ts mt_Nc mt_xn mt_cnf 8 pc x z := by
  obtain ⟨a, b, d, ct⟩ := h
  have hz2 : z = { startPc := a, endPc := b, handlerPc := d, catchType := ct } := by
    have := List.head_eq_of_cons_eq hz; exact this.symm
  subst hz2
  by_cases hcv : covers { startPc := a, endPc := b, handlerPc := d, catchType := ct } pc = true
  · right
    simp only [covers, Bool.and_eq_true, decide_eq_true_eq] at hcv
    simp only at hc
    simp only [mt_take, hcv, decide_true, Bool.true_and, Bool.or_eq_false_iff, Bool.and_eq_false_iff] at hn
    rcases hc with rfl | rfl
    · have hx : x ≠ 1 := by simpa using hn.1
      exact ⟨(show (13 : Nat) ≠ 0 by decide), _, mt_w13, by simp [mt_xn, hx, mt_Nc]⟩
    · have hx : x = 1 := by simpa using hn.2
      exact ⟨(show (15 : Nat) ≠ 0 by decide), _, mt_w15, by simp [mt_xn, hx, mt_Nc]⟩
  · left; simpa using hcv
theorem mt_tab_mem {L : List (Nat × Nat × Nat × Nat)} {z : ExceptionTableEntry} (hz : z ∈ tableOf L) : ∃ h ∈ L, tableOf [h] = [z] := by
  obtain ⟨h, h1, h2⟩ := List.mem_map.mp hz
  exact ⟨h, h1, by rw [← h2]; rfl⟩
theorem mt_Gh (sc : Nat × (Int → Int)) : mm_Gh (mt_P sc) mt_Ts mt_Nw mt_Nc mt_xn mt_cnf mt_hhf := by
  intro y me pc x hy
  constructor
  · intro hn _ z hz
    obtain ⟨h, h1, h2⟩ := mt_tab_mem hz
    have hc8 : me.1 = 8 := by
      rcases mt_hy hy with q | q
      · rw [q] at h1; cases h1
      · exact q
    rw [hc8]
    refine mt_pass (mt_hc h1) ?_ h2
    have hn2 : ((mt_hh.getD y []).find? fun h => decide (h.1 ≤ pc) && decide (pc < h.2.1) && mt_take x h) = none := by
      have hn3 : mt_hd y pc x = none := hn
      unfold mt_hd at hn3
      exact Option.map_eq_none_iff.mp hn3
    have := List.find?_eq_none.mp hn2 h h1
    simpa using this
  · intro hp hs
    have hs2 : mt_hd y pc x = some hp := hs
    unfold mt_hd at hs2
    obtain ⟨h, h1, h2⟩ := Option.map_eq_some_iff.mp hs2
    obtain ⟨g1, as, bs, g2, g3⟩ := List.find?_eq_some_iff_append.mp h1
    have hmem : ∀ q ∈ as, q ∈ mt_hhf y := fun q hq => by
      show q ∈ mt_hh.getD y []
      rw [g2]; exact List.mem_append_left _ hq
    have hmh : h ∈ mt_hhf y := by
      show h ∈ mt_hh.getD y []
      rw [g2]; exact List.mem_append_right _ List.mem_cons_self
    have hc8 : me.1 = 8 := by
      rcases mt_hy hy with q | q
      · rw [q] at hmh; cases hmh
      · exact q
    rw [hc8]
    obtain ⟨a, b, d, ct⟩ := h
    have hct := mt_hc hmh
    simp only at hct h2
    simp only [Bool.and_eq_true, Bool.or_eq_true, decide_eq_true_eq, beq_iff_eq, bne_iff_ne] at g1
    refine ⟨tableOf as, ⟨a, b, d, ct⟩, tableOf bs, if ct = 13 then "java/lang/IndexOutOfBoundsException" else "java/lang/IllegalArgumentException", ?_, fun z hz => ?_, ?_, ?_, h2, ?_, ?_⟩
    · show tableOf (mt_hh.getD y []) = _
      rw [g2]
      unfold tableOf
      rw [List.map_append]; rfl
    · obtain ⟨h', h3, h4⟩ := mt_tab_mem hz
      refine mt_pass (mt_hc (hmem _ h3)) ?_ h4
      have := g3 h' h3
      simp only [Bool.not_eq_true'] at this
      exact this
    · simp only [covers, Bool.and_eq_true, decide_eq_true_eq]
      exact g1.1
    · show ct ≠ 0
      rcases hct with rfl | rfl <;> decide
    · rcases hct with rfl | rfl
      · exact mt_w13
      · exact mt_w15
    · rcases g1.2 with ⟨rfl, rfl⟩ | ⟨rfl, hx⟩
      · exact mt_cx1
      · simp only [mt_xn, hx, if_false]
        exact mt_cx2
def mt_xb (w : Cond) : Bool := (goodWord w && decide (w ∈ lw_tbl)) || (mt_nw w && decide (w ∈ tables_1))
theorem mt_xb_in {w : Cond} (h : mt_xb w = true) : w ∈ mt_Ts ∨ w ∈ mt_Nw := by
  simp only [mt_xb, Bool.or_eq_true, Bool.and_eq_true, decide_eq_true_eq] at h
  rcases h with h | h
  · exact Or.inl (List.mem_filter.mpr ⟨h.2, h.1⟩)
  · exact Or.inr (List.mem_filter.mpr ⟨h.2, h.1⟩)
theorem mt_x1 : ((vx_at0 "CellAreas" 261 "java/lang/IndexOutOfBoundsException" mm_nms).all mt_xb) = true := by decide +kernel
theorem mt_x2 : ((vx_at0 "CellAreas" 264 "java/lang/IllegalArgumentException" mm_nms).all mt_xb) = true := by decide +kernel
theorem mt_o1 : ((Cond.classLink "CellAreas" 259 "java/lang/IndexOutOfBoundsException" :: Cond.initialized "java/lang/IndexOutOfBoundsException" :: vx_at0 "CellAreas" 261 "java/lang/IndexOutOfBoundsException" mm_nms).all vx_ot) = true := by decide +kernel
theorem mt_o2 : ((Cond.classLink "CellAreas" 262 "java/lang/IllegalArgumentException" :: Cond.initialized "java/lang/IllegalArgumentException" :: vx_at0 "CellAreas" 264 "java/lang/IllegalArgumentException" mm_nms).all vx_ot) = true := by decide +kernel
theorem mt_Gx (sc : Nat × (Int → Int)) : mm_Gx (mt_P sc) mt_Ts mt_Nw mt_xn mt_cnf mt_hhf := by
  constructor
  · intro y me idx x hy hl
    obtain ⟨v, h1, h2⟩ := Option.map_eq_some_iff.mp (show (mt_look mt_lt me.1 idx).map (·.1) = some x from hl)
    have h3 := mt_look_mem _ h1
    rcases mt_hy hy with q | q
    · exact q
    · rw [q] at h3
      simp [mt_lt] at h3
  · intro c idx ic x hl1 hl2
    obtain ⟨v, h1, h2⟩ := Option.map_eq_some_iff.mp (show (mt_look mt_lt c idx).map (·.1) = some x from hl1)
    obtain ⟨v', h1', h2'⟩ := Option.map_eq_some_iff.mp (show (mt_look mt_lt c ic).map (·.1) = some (x + 100) from hl2)
    have h3 := mt_look_mem _ h1
    have h3' := mt_look_mem _ h1'
    subst h2
    simp only [mt_lt, List.mem_cons, Prod.mk.injEq, List.not_mem_nil, or_false] at h3 h3'
    rcases h3 with ⟨rfl, rfl, rfl⟩ | ⟨rfl, rfl, rfl⟩ | ⟨rfl, rfl, rfl⟩ | ⟨rfl, rfl, rfl⟩ <;> rcases h3' with ⟨-, rfl, rfl⟩ | ⟨-, rfl, rfl⟩ | ⟨-, rfl, rfl⟩ | ⟨-, rfl, rfl⟩ <;> first
      | exact absurd h2' (by decide)
      | exact ⟨by decide, by decide +kernel, mt_in (i := 212) (by decide +kernel) rfl, mt_in (i := 12) (by decide +kernel) rfl, fun w hw => mt_xb_in (List.all_eq_true.mp mt_x1 w hw), fun w hw => List.all_eq_true.mp mt_o1 w hw⟩
      | exact ⟨by decide, by decide +kernel, mt_in (i := 277) (by decide +kernel) rfl, mt_in (i := 13) (by decide +kernel) rfl, fun w hw => mt_xb_in (List.all_eq_true.mp mt_x2 w hw), fun w hw => List.all_eq_true.mp mt_o2 w hw⟩
def mt_DW (y : Nat) : Prop := ((mt_co.getD y []).all fun e => decide (decode (mt_byf y) e.1 = .ok e.2)) = true
theorem mt_dw0 : mt_DW 0 := rfl
theorem mt_dw1 : mt_DW 1 := mt_d1
theorem mt_dw2 : mt_DW 2 := mt_d2
theorem mt_dw3 : mt_DW 3 := mt_d3
theorem mt_dw4 : mt_DW 4 := mt_d4
theorem mt_dw5 : mt_DW 5 := mt_d5
theorem mt_dw6 : mt_DW 6 := mt_d6
theorem mt_dw7 : mt_DW 7 := mt_d7
theorem mt_dw8 : mt_DW 8 := mt_d8
theorem mt_dw9 : mt_DW 9 := mt_d9
theorem mt_dw10 : mt_DW 10 := mt_d10
theorem mt_dw11 : mt_DW 11 := mt_d11
theorem mt_dw12 : mt_DW 12 := mt_d12
theorem mt_dw13 : mt_DW 13 := rfl
theorem mt_dw14 : mt_DW 14 := rfl
theorem mt_dw15 : mt_DW 15 := mt_d15
theorem mt_dw16 : mt_DW 16 := mt_d16
theorem mt_dw17 : mt_DW 17 := mt_d17
theorem mt_dw18 : mt_DW 18 := mt_d18
theorem mt_dw19 : mt_DW 19 := mt_d19
theorem mt_dw20 : mt_DW 20 := mt_d20
theorem mt_dw21 : mt_DW 21 := mt_d21
theorem mt_dw22 : mt_DW 22 := mt_d22
theorem mt_dw23 : mt_DW 23 := mt_d23
theorem mt_dw24 : mt_DW 24 := mt_d24
theorem mt_dw25 : mt_DW 25 := mt_d25
theorem mt_dw26 : mt_DW 26 := mt_d26
theorem mt_dw27 : mt_DW 27 := rfl
theorem mt_dw28 : mt_DW 28 := mt_d28
theorem mt_dw29 : mt_DW 29 := mt_d29
theorem mt_dw30 : mt_DW 30 := mt_d30
theorem mt_dw31 : mt_DW 31 := mt_d31
theorem mt_dw32 : mt_DW 32 := mt_d32
theorem mt_dw33 : mt_DW 33 := mt_d33
theorem mt_dw34 : mt_DW 34 := mt_d34
theorem mt_dw35 : mt_DW 35 := mt_d35
theorem mt_dw36 : mt_DW 36 := mt_d36
theorem mt_dw37 : mt_DW 37 := mt_d37
theorem mt_dw38 : mt_DW 38 := mt_d38
theorem mt_dw39 : mt_DW 39 := mt_d39
theorem mt_dw40 : mt_DW 40 := mt_d40
theorem mt_dw41 : mt_DW 41 := mt_d41
theorem mt_dw42 : mt_DW 42 := mt_d42
theorem mt_dw43 : mt_DW 43 := mt_d43
theorem mt_dw44 : mt_DW 44 := mt_d44
theorem mt_dw45 : mt_DW 45 := mt_d45
theorem mt_dw46 : mt_DW 46 := mt_d46
theorem mt_dw47 : mt_DW 47 := mt_d47
theorem mt_dw48 : mt_DW 48 := mt_d48
theorem mt_dw49 : mt_DW 49 := mt_d49
theorem mt_dw50 : mt_DW 50 := mt_d50
theorem mt_dw51 : mt_DW 51 := mt_d51
theorem mt_dw52 : mt_DW 52 := mt_d52
theorem mt_dw53 : mt_DW 53 := mt_d53
theorem mt_dw54 : mt_DW 54 := mt_d54
theorem mt_dw55 : mt_DW 55 := mt_d55
theorem mt_dw56 : mt_DW 56 := mt_d56
theorem mt_dw57 : mt_DW 57 := mt_d57
theorem mt_dw58 : mt_DW 58 := mt_d58
theorem mt_dw59 : mt_DW 59 := mt_d59
theorem mt_dw60 : mt_DW 60 := mt_d60
theorem mt_dw61 : mt_DW 61 := mt_d61
theorem mt_dw62 : mt_DW 62 := mt_d62
theorem mt_dw63 : mt_DW 63 := mt_d63
theorem mt_dw64 : mt_DW 64 := mt_d64
theorem mt_dw65 : mt_DW 65 := mt_d65
theorem mt_dw66 : mt_DW 66 := mt_d66
theorem mt_dw67 : mt_DW 67 := mt_d67
theorem mt_dw68 : mt_DW 68 := mt_d68
theorem mt_dw69 : mt_DW 69 := mt_d69
theorem mt_dw70 : mt_DW 70 := mt_d70
theorem mt_dw71 : mt_DW 71 := mt_d71
theorem mt_dw72 : mt_DW 72 := mt_d72
theorem mt_dw73 : mt_DW 73 := mt_d73
theorem mt_dw74 : mt_DW 74 := mt_d74
theorem mt_dw75 : mt_DW 75 := mt_d75
theorem mt_dw76 : mt_DW 76 := mt_d76
theorem mt_dw77 : mt_DW 77 := mt_d77
theorem mt_dw78 : mt_DW 78 := mt_d78
theorem mt_dw79 : mt_DW 79 := mt_d79
theorem mt_dw80 : mt_DW 80 := mt_d80
theorem mt_dw81 : mt_DW 81 := mt_d81
theorem mt_dw82 : mt_DW 82 := mt_d82
theorem mt_dw83 : mt_DW 83 := mt_d83
theorem mt_dw84 : mt_DW 84 := mt_d84
theorem mt_dw85 : mt_DW 85 := mt_d85
theorem mt_dw86 : mt_DW 86 := mt_d86
theorem mt_dw87 : mt_DW 87 := mt_d87
theorem mt_dw88 : mt_DW 88 := mt_d88
theorem mt_dw89 : mt_DW 89 := mt_d89
theorem mt_dw90 : mt_DW 90 := mt_d90
theorem mt_dw91 : mt_DW 91 := mt_d91
theorem mt_dw92 : mt_DW 92 := mt_d92
theorem mt_dw93 : mt_DW 93 := mt_d93
theorem mt_dw94 : mt_DW 94 := mt_d94
theorem mt_dw95 : mt_DW 95 := mt_d95
theorem mt_dw96 : mt_DW 96 := mt_d96
theorem mt_dw97 : mt_DW 97 := mt_d97
theorem mt_dw98 : mt_DW 98 := mt_d98
theorem mt_dw99 : mt_DW 99 := mt_d99
theorem mt_dw100 : mt_DW 100 := mt_d100
theorem mt_dw101 : mt_DW 101 := mt_d101
theorem mt_dw102 : mt_DW 102 := mt_d102
theorem mt_dw103 : mt_DW 103 := mt_d103
theorem mt_dw104 : mt_DW 104 := mt_d104
theorem mt_dw105 : mt_DW 105 := mt_d105
theorem mt_dw106 : mt_DW 106 := mt_d106
theorem mt_dw107 : mt_DW 107 := mt_d107
theorem mt_dw108 : mt_DW 108 := mt_d108
theorem mt_dw109 : mt_DW 109 := mt_d109
theorem mt_dw110 : mt_DW 110 := mt_d110
theorem mt_dw111 : mt_DW 111 := mt_d111
theorem mt_dw112 : mt_DW 112 := mt_d112
theorem mt_dw113 : mt_DW 113 := mt_d113
theorem mt_dw114 : mt_DW 114 := mt_d114
theorem mt_dw115 : mt_DW 115 := mt_d115
theorem mt_dw116 : mt_DW 116 := mt_d116
theorem mt_dw117 : mt_DW 117 := mt_d117
theorem mt_dw118 : mt_DW 118 := mt_d118
theorem mt_dw119 : mt_DW 119 := mt_d119
theorem mt_dw120 : mt_DW 120 := mt_d120
theorem mt_dw121 : mt_DW 121 := mt_d121
theorem mt_dw122 : mt_DW 122 := mt_d122
theorem mt_dw123 : mt_DW 123 := mt_d123
theorem mt_dw124 : mt_DW 124 := mt_d124
theorem mt_dw125 : mt_DW 125 := mt_d125
theorem mt_dw126 : mt_DW 126 := mt_d126
theorem mt_dw127 : mt_DW 127 := mt_d127
theorem mt_dw128 : mt_DW 128 := mt_d128
theorem mt_dw129 : mt_DW 129 := rfl
theorem mt_dw130 : mt_DW 130 := mt_d130
theorem mt_dw131 : mt_DW 131 := mt_d131
theorem mt_dw132 : mt_DW 132 := mt_d132
theorem mt_dw133 : mt_DW 133 := mt_d133
theorem mt_dw134 : mt_DW 134 := mt_d134
theorem mt_dw135 : mt_DW 135 := mt_d135
theorem mt_dw136 : mt_DW 136 := mt_d136
theorem mt_dw137 : mt_DW 137 := mt_d137
theorem mt_dw138 : mt_DW 138 := mt_d138
theorem mt_dw139 : mt_DW 139 := mt_d139
theorem mt_dw140 : mt_DW 140 := mt_d140
theorem mt_dw141 : mt_DW 141 := mt_d141
theorem mt_dw142 : mt_DW 142 := mt_d142
theorem mt_dw143 : mt_DW 143 := mt_d143
theorem mt_dw144 : mt_DW 144 := mt_d144
theorem mt_dw145 : mt_DW 145 := mt_d145
theorem mt_dw146 : mt_DW 146 := mt_d146
theorem mt_dw147 : mt_DW 147 := mt_d147
theorem mt_dw148 : mt_DW 148 := mt_d148
theorem mt_dw149 : mt_DW 149 := mt_d149
theorem mt_dw150 : mt_DW 150 := mt_d150
theorem mt_dw151 : mt_DW 151 := mt_d151
theorem mt_dw152 : mt_DW 152 := mt_d152
theorem mt_dw153 : mt_DW 153 := mt_d153
theorem mt_dw154 : mt_DW 154 := mt_d154
theorem mt_dw155 : mt_DW 155 := mt_d155
theorem mt_dw156 : mt_DW 156 := mt_d156
theorem mt_dw157 : mt_DW 157 := mt_d157
theorem mt_dw158 : mt_DW 158 := mt_d158
theorem mt_dw159 : mt_DW 159 := mt_d159
theorem mt_dw160 : mt_DW 160 := mt_d160
theorem mt_dw161 : mt_DW 161 := mt_d161
theorem mt_dw162 : mt_DW 162 := mt_d162
theorem mt_dw163 : mt_DW 163 := mt_d163
theorem mt_dw164 : mt_DW 164 := mt_d164
theorem mt_dw165 : mt_DW 165 := mt_d165
theorem mt_dw166 : mt_DW 166 := mt_d166
theorem mt_dw167 : mt_DW 167 := mt_d167
theorem mt_dw168 : mt_DW 168 := mt_d168
theorem mt_dw169 : mt_DW 169 := mt_d169
theorem mt_dw170 : mt_DW 170 := mt_d170
theorem mt_dw171 : mt_DW 171 := mt_d171
theorem mt_dw172 : mt_DW 172 := mt_d172
theorem mt_dw173 : mt_DW 173 := mt_d173
theorem mt_dw174 : mt_DW 174 := mt_d174
theorem mt_dw175 : mt_DW 175 := mt_d175
theorem mt_dw176 : mt_DW 176 := mt_d176
theorem mt_dw177 : mt_DW 177 := mt_d177
theorem mt_dw178 : mt_DW 178 := mt_d178
theorem mt_dw179 : mt_DW 179 := mt_d179
theorem mt_dw180 : mt_DW 180 := mt_d180
theorem mt_dw181 : mt_DW 181 := mt_d181
theorem mt_dw182 : mt_DW 182 := mt_d182
theorem mt_dw183 : mt_DW 183 := mt_d183
theorem mt_dw184 : mt_DW 184 := mt_d184
theorem mt_dw185 : mt_DW 185 := mt_d185
theorem mt_dw186 : mt_DW 186 := mt_d186
theorem mt_dw187 : mt_DW 187 := mt_d187
theorem mt_dw188 : mt_DW 188 := mt_d188
theorem mt_dw189 : mt_DW 189 := mt_d189
theorem mt_dw190 : mt_DW 190 := mt_d190
theorem mt_dw191 : mt_DW 191 := mt_d191
theorem mt_dw192 : mt_DW 192 := mt_d192
theorem mt_dw193 : mt_DW 193 := mt_d193
theorem mt_dw194 : mt_DW 194 := mt_d194
theorem mt_dw195 : mt_DW 195 := mt_d195
theorem mt_dw196 : mt_DW 196 := mt_d196
theorem mt_dw197 : mt_DW 197 := mt_d197
theorem mt_dw198 : mt_DW 198 := mt_d198
theorem mt_dw199 : mt_DW 199 := mt_d199
theorem mt_dwl0 : ∀ y ∈ ([0, 1, 2, 3, 4, 5, 6, 7, 8, 9, 10, 11, 12, 13, 14, 15, 16, 17, 18, 19, 20, 21, 22, 23, 24, 25, 26, 27, 28, 29, 30, 31, 32, 33, 34, 35, 36, 37, 38, 39] : List Nat), mt_DW y := List.forall_mem_cons.mpr ⟨mt_dw0, List.forall_mem_cons.mpr ⟨mt_dw1, List.forall_mem_cons.mpr ⟨mt_dw2, List.forall_mem_cons.mpr ⟨mt_dw3, List.forall_mem_cons.mpr ⟨mt_dw4, List.forall_mem_cons.mpr ⟨mt_dw5, List.forall_mem_cons.mpr ⟨mt_dw6, List.forall_mem_cons.mpr ⟨mt_dw7, List.forall_mem_cons.mpr ⟨mt_dw8, List.forall_mem_cons.mpr ⟨mt_dw9, List.forall_mem_cons.mpr ⟨mt_dw10, List.forall_mem_cons.mpr ⟨mt_dw11, List.forall_mem_cons.mpr ⟨mt_dw12, List.forall_mem_cons.mpr ⟨mt_dw13, List.forall_mem_cons.mpr ⟨mt_dw14, List.forall_mem_cons.mpr ⟨mt_dw15, List.forall_mem_cons.mpr ⟨mt_dw16, List.forall_mem_cons.mpr ⟨mt_dw17, List.forall_mem_cons.mpr ⟨mt_dw18, List.forall_mem_cons.mpr ⟨mt_dw19, List.forall_mem_cons.mpr ⟨mt_dw20, List.forall_mem_cons.mpr ⟨mt_dw21, List.forall_mem_cons.mpr ⟨mt_dw22, List.forall_mem_cons.mpr ⟨mt_dw23, List.forall_mem_cons.mpr ⟨mt_dw24, List.forall_mem_cons.mpr ⟨mt_dw25, List.forall_mem_cons.mpr ⟨mt_dw26, List.forall_mem_cons.mpr ⟨mt_dw27, List.forall_mem_cons.mpr ⟨mt_dw28, List.forall_mem_cons.mpr ⟨mt_dw29, List.forall_mem_cons.mpr ⟨mt_dw30, List.forall_mem_cons.mpr ⟨mt_dw31, List.forall_mem_cons.mpr ⟨mt_dw32, List.forall_mem_cons.mpr ⟨mt_dw33, List.forall_mem_cons.mpr ⟨mt_dw34, List.forall_mem_cons.mpr ⟨mt_dw35, List.forall_mem_cons.mpr ⟨mt_dw36, List.forall_mem_cons.mpr ⟨mt_dw37, List.forall_mem_cons.mpr ⟨mt_dw38, List.forall_mem_cons.mpr ⟨mt_dw39, fun _ h => absurd h List.not_mem_nil⟩⟩⟩⟩⟩⟩⟩⟩⟩⟩⟩⟩⟩⟩⟩⟩⟩⟩⟩⟩⟩⟩⟩⟩⟩⟩⟩⟩⟩⟩⟩⟩⟩⟩⟩⟩⟩⟩⟩⟩
theorem mt_dwl40 : ∀ y ∈ ([40, 41, 42, 43, 44, 45, 46, 47, 48, 49, 50, 51, 52, 53, 54, 55, 56, 57, 58, 59, 60, 61, 62, 63, 64, 65, 66, 67, 68, 69, 70, 71, 72, 73, 74, 75, 76, 77, 78, 79] : List Nat), mt_DW y := List.forall_mem_cons.mpr ⟨mt_dw40, List.forall_mem_cons.mpr ⟨mt_dw41, List.forall_mem_cons.mpr ⟨mt_dw42, List.forall_mem_cons.mpr ⟨mt_dw43, List.forall_mem_cons.mpr ⟨mt_dw44, List.forall_mem_cons.mpr ⟨mt_dw45, List.forall_mem_cons.mpr ⟨mt_dw46, List.forall_mem_cons.mpr ⟨mt_dw47, List.forall_mem_cons.mpr ⟨mt_dw48, List.forall_mem_cons.mpr ⟨mt_dw49, List.forall_mem_cons.mpr ⟨mt_dw50, List.forall_mem_cons.mpr ⟨mt_dw51, List.forall_mem_cons.mpr ⟨mt_dw52, List.forall_mem_cons.mpr ⟨mt_dw53, List.forall_mem_cons.mpr ⟨mt_dw54, List.forall_mem_cons.mpr ⟨mt_dw55, List.forall_mem_cons.mpr ⟨mt_dw56, List.forall_mem_cons.mpr ⟨mt_dw57, List.forall_mem_cons.mpr ⟨mt_dw58, List.forall_mem_cons.mpr ⟨mt_dw59, List.forall_mem_cons.mpr ⟨mt_dw60, List.forall_mem_cons.mpr ⟨mt_dw61, List.forall_mem_cons.mpr ⟨mt_dw62, List.forall_mem_cons.mpr ⟨mt_dw63, List.forall_mem_cons.mpr ⟨mt_dw64, List.forall_mem_cons.mpr ⟨mt_dw65, List.forall_mem_cons.mpr ⟨mt_dw66, List.forall_mem_cons.mpr ⟨mt_dw67, List.forall_mem_cons.mpr ⟨mt_dw68, List.forall_mem_cons.mpr ⟨mt_dw69, List.forall_mem_cons.mpr ⟨mt_dw70, List.forall_mem_cons.mpr ⟨mt_dw71, List.forall_mem_cons.mpr ⟨mt_dw72, List.forall_mem_cons.mpr ⟨mt_dw73, List.forall_mem_cons.mpr ⟨mt_dw74, List.forall_mem_cons.mpr ⟨mt_dw75, List.forall_mem_cons.mpr ⟨mt_dw76, List.forall_mem_cons.mpr ⟨mt_dw77, List.forall_mem_cons.mpr ⟨mt_dw78, List.forall_mem_cons.mpr ⟨mt_dw79, fun _ h => absurd h List.not_mem_nil⟩⟩⟩⟩⟩⟩⟩⟩⟩⟩⟩⟩⟩⟩⟩⟩⟩⟩⟩⟩⟩⟩⟩⟩⟩⟩⟩⟩⟩⟩⟩⟩⟩⟩⟩⟩⟩⟩⟩⟩
theorem mt_dwl80 : ∀ y ∈ ([80, 81, 82, 83, 84, 85, 86, 87, 88, 89, 90, 91, 92, 93, 94, 95, 96, 97, 98, 99, 100, 101, 102, 103, 104, 105, 106, 107, 108, 109, 110, 111, 112, 113, 114, 115, 116, 117, 118, 119] : List Nat), mt_DW y := List.forall_mem_cons.mpr ⟨mt_dw80, List.forall_mem_cons.mpr ⟨mt_dw81, List.forall_mem_cons.mpr ⟨mt_dw82, List.forall_mem_cons.mpr ⟨mt_dw83, List.forall_mem_cons.mpr ⟨mt_dw84, List.forall_mem_cons.mpr ⟨mt_dw85, List.forall_mem_cons.mpr ⟨mt_dw86, List.forall_mem_cons.mpr ⟨mt_dw87, List.forall_mem_cons.mpr ⟨mt_dw88, List.forall_mem_cons.mpr ⟨mt_dw89, List.forall_mem_cons.mpr ⟨mt_dw90, List.forall_mem_cons.mpr ⟨mt_dw91, List.forall_mem_cons.mpr ⟨mt_dw92, List.forall_mem_cons.mpr ⟨mt_dw93, List.forall_mem_cons.mpr ⟨mt_dw94, List.forall_mem_cons.mpr ⟨mt_dw95, List.forall_mem_cons.mpr ⟨mt_dw96, List.forall_mem_cons.mpr ⟨mt_dw97, List.forall_mem_cons.mpr ⟨mt_dw98, List.forall_mem_cons.mpr ⟨mt_dw99, List.forall_mem_cons.mpr ⟨mt_dw100, List.forall_mem_cons.mpr ⟨mt_dw101, List.forall_mem_cons.mpr ⟨mt_dw102, List.forall_mem_cons.mpr ⟨mt_dw103, List.forall_mem_cons.mpr ⟨mt_dw104, List.forall_mem_cons.mpr ⟨mt_dw105, List.forall_mem_cons.mpr ⟨mt_dw106, List.forall_mem_cons.mpr ⟨mt_dw107, List.forall_mem_cons.mpr ⟨mt_dw108, List.forall_mem_cons.mpr ⟨mt_dw109, List.forall_mem_cons.mpr ⟨mt_dw110, List.forall_mem_cons.mpr ⟨mt_dw111, List.forall_mem_cons.mpr ⟨mt_dw112, List.forall_mem_cons.mpr ⟨mt_dw113, List.forall_mem_cons.mpr ⟨mt_dw114, List.forall_mem_cons.mpr ⟨mt_dw115, List.forall_mem_cons.mpr ⟨mt_dw116, List.forall_mem_cons.mpr ⟨mt_dw117, List.forall_mem_cons.mpr ⟨mt_dw118, List.forall_mem_cons.mpr ⟨mt_dw119, fun _ h => absurd h List.not_mem_nil⟩⟩⟩⟩⟩⟩⟩⟩⟩⟩⟩⟩⟩⟩⟩⟩⟩⟩⟩⟩⟩⟩⟩⟩⟩⟩⟩⟩⟩⟩⟩⟩⟩⟩⟩⟩⟩⟩⟩⟩
theorem mt_dwl120 : ∀ y ∈ ([120, 121, 122, 123, 124, 125, 126, 127, 128, 129, 130, 131, 132, 133, 134, 135, 136, 137, 138, 139, 140, 141, 142, 143, 144, 145, 146, 147, 148, 149, 150, 151, 152, 153, 154, 155, 156, 157, 158, 159] : List Nat), mt_DW y := List.forall_mem_cons.mpr ⟨mt_dw120, List.forall_mem_cons.mpr ⟨mt_dw121, List.forall_mem_cons.mpr ⟨mt_dw122, List.forall_mem_cons.mpr ⟨mt_dw123, List.forall_mem_cons.mpr ⟨mt_dw124, List.forall_mem_cons.mpr ⟨mt_dw125, List.forall_mem_cons.mpr ⟨mt_dw126, List.forall_mem_cons.mpr ⟨mt_dw127, List.forall_mem_cons.mpr ⟨mt_dw128, List.forall_mem_cons.mpr ⟨mt_dw129, List.forall_mem_cons.mpr ⟨mt_dw130, List.forall_mem_cons.mpr ⟨mt_dw131, List.forall_mem_cons.mpr ⟨mt_dw132, List.forall_mem_cons.mpr ⟨mt_dw133, List.forall_mem_cons.mpr ⟨mt_dw134, List.forall_mem_cons.mpr ⟨mt_dw135, List.forall_mem_cons.mpr ⟨mt_dw136, List.forall_mem_cons.mpr ⟨mt_dw137, List.forall_mem_cons.mpr ⟨mt_dw138, List.forall_mem_cons.mpr ⟨mt_dw139, List.forall_mem_cons.mpr ⟨mt_dw140, List.forall_mem_cons.mpr ⟨mt_dw141, List.forall_mem_cons.mpr ⟨mt_dw142, List.forall_mem_cons.mpr ⟨mt_dw143, List.forall_mem_cons.mpr ⟨mt_dw144, List.forall_mem_cons.mpr ⟨mt_dw145, List.forall_mem_cons.mpr ⟨mt_dw146, List.forall_mem_cons.mpr ⟨mt_dw147, List.forall_mem_cons.mpr ⟨mt_dw148, List.forall_mem_cons.mpr ⟨mt_dw149, List.forall_mem_cons.mpr ⟨mt_dw150, List.forall_mem_cons.mpr ⟨mt_dw151, List.forall_mem_cons.mpr ⟨mt_dw152, List.forall_mem_cons.mpr ⟨mt_dw153, List.forall_mem_cons.mpr ⟨mt_dw154, List.forall_mem_cons.mpr ⟨mt_dw155, List.forall_mem_cons.mpr ⟨mt_dw156, List.forall_mem_cons.mpr ⟨mt_dw157, List.forall_mem_cons.mpr ⟨mt_dw158, List.forall_mem_cons.mpr ⟨mt_dw159, fun _ h => absurd h List.not_mem_nil⟩⟩⟩⟩⟩⟩⟩⟩⟩⟩⟩⟩⟩⟩⟩⟩⟩⟩⟩⟩⟩⟩⟩⟩⟩⟩⟩⟩⟩⟩⟩⟩⟩⟩⟩⟩⟩⟩⟩⟩
theorem mt_dwl160 : ∀ y ∈ ([160, 161, 162, 163, 164, 165, 166, 167, 168, 169, 170, 171, 172, 173, 174, 175, 176, 177, 178, 179, 180, 181, 182, 183, 184, 185, 186, 187, 188, 189, 190, 191, 192, 193, 194, 195, 196, 197, 198, 199] : List Nat), mt_DW y := List.forall_mem_cons.mpr ⟨mt_dw160, List.forall_mem_cons.mpr ⟨mt_dw161, List.forall_mem_cons.mpr ⟨mt_dw162, List.forall_mem_cons.mpr ⟨mt_dw163, List.forall_mem_cons.mpr ⟨mt_dw164, List.forall_mem_cons.mpr ⟨mt_dw165, List.forall_mem_cons.mpr ⟨mt_dw166, List.forall_mem_cons.mpr ⟨mt_dw167, List.forall_mem_cons.mpr ⟨mt_dw168, List.forall_mem_cons.mpr ⟨mt_dw169, List.forall_mem_cons.mpr ⟨mt_dw170, List.forall_mem_cons.mpr ⟨mt_dw171, List.forall_mem_cons.mpr ⟨mt_dw172, List.forall_mem_cons.mpr ⟨mt_dw173, List.forall_mem_cons.mpr ⟨mt_dw174, List.forall_mem_cons.mpr ⟨mt_dw175, List.forall_mem_cons.mpr ⟨mt_dw176, List.forall_mem_cons.mpr ⟨mt_dw177, List.forall_mem_cons.mpr ⟨mt_dw178, List.forall_mem_cons.mpr ⟨mt_dw179, List.forall_mem_cons.mpr ⟨mt_dw180, List.forall_mem_cons.mpr ⟨mt_dw181, List.forall_mem_cons.mpr ⟨mt_dw182, List.forall_mem_cons.mpr ⟨mt_dw183, List.forall_mem_cons.mpr ⟨mt_dw184, List.forall_mem_cons.mpr ⟨mt_dw185, List.forall_mem_cons.mpr ⟨mt_dw186, List.forall_mem_cons.mpr ⟨mt_dw187, List.forall_mem_cons.mpr ⟨mt_dw188, List.forall_mem_cons.mpr ⟨mt_dw189, List.forall_mem_cons.mpr ⟨mt_dw190, List.forall_mem_cons.mpr ⟨mt_dw191, List.forall_mem_cons.mpr ⟨mt_dw192, List.forall_mem_cons.mpr ⟨mt_dw193, List.forall_mem_cons.mpr ⟨mt_dw194, List.forall_mem_cons.mpr ⟨mt_dw195, List.forall_mem_cons.mpr ⟨mt_dw196, List.forall_mem_cons.mpr ⟨mt_dw197, List.forall_mem_cons.mpr ⟨mt_dw198, List.forall_mem_cons.mpr ⟨mt_dw199, fun _ h => absurd h List.not_mem_nil⟩⟩⟩⟩⟩⟩⟩⟩⟩⟩⟩⟩⟩⟩⟩⟩⟩⟩⟩⟩⟩⟩⟩⟩⟩⟩⟩⟩⟩⟩⟩⟩⟩⟩⟩⟩⟩⟩⟩⟩
theorem mt_colen : mt_co.length = 200 := by decide +kernel
theorem mt_dwall (y : Nat) : mt_DW y := by
  by_cases h0 : y < 40
  · exact mt_dwl0 y (mt_mem_iv (a := 0) (b := 40) (by omega) (by omega) _ rfl)
  by_cases h40 : y < 80
  · exact mt_dwl40 y (mt_mem_iv (a := 40) (b := 80) (by omega) (by omega) _ rfl)
  by_cases h80 : y < 120
  · exact mt_dwl80 y (mt_mem_iv (a := 80) (b := 120) (by omega) (by omega) _ rfl)
  by_cases h120 : y < 160
  · exact mt_dwl120 y (mt_mem_iv (a := 120) (b := 160) (by omega) (by omega) _ rfl)
  by_cases h160 : y < 200
  · exact mt_dwl160 y (mt_mem_iv (a := 160) (b := 200) (by omega) (by omega) _ rfl)
  unfold mt_DW
  rw [List.getD_eq_getElem?_getD, List.getElem?_eq_none (by rw [mt_colen]; omega)]; rfl
theorem mt_dec1 {L : List (Nat × Instr × Nat)} {b : ByteArray} (hd : (L.all fun e => decide (decode b e.1 = .ok e.2)) = true) {pc : Nat} {i : Instr} {len : Nat} (h : mt_find L pc = some (i, len)) : decode b pc = .ok (i, len) := by
  have h1 := List.all_eq_true.mp hd _ (mt_find_mem L h)
  exact of_decide_eq_true h1
theorem mt_Gd (sc : Nat × (Int → Int)) : mm_Gd (mt_P sc) mt_byf := fun y _ _ _ h => mt_dec1 (L := mt_co.getD y []) (b := mt_byf y) (mt_dwall y) h
theorem mt_Tgood : mt_Ts.all goodWord = true := by
  rw [List.all_eq_true]
  intro w hw
  exact (List.mem_filter.mp hw).2
theorem mt_G (sc : Nat × (Int → Int)) : mm_Gall (mt_P sc) mt_nf mt_cl mt_Ts mt_Nw mt_Nc mt_xn mt_cnf mt_nmf mt_byf mt_hhf := ⟨mt_Gc sc, mt_Gf sc, mt_Gk sc, mt_Gn sc, mt_GN, mt_Gm sc, mt_Gl sc, mt_Gb, mt_Gh sc, mt_Gx sc, mt_Gt sc, mt_Gd sc, mt_Tgood⟩
