def am_nst : List Cond := [.methodLinkNest "GridColours" 9 ⟨"GridColours$Tape", "<init>", "()V"⟩ "GridColours", .methodLinkNest "GridColours" 18 ⟨"GridColours$Grid", "<init>", "()V"⟩ "GridColours", .methodLinkNest "GridColours" 28 ⟨"GridColours$Reader", "<init>", "()V"⟩ "GridColours", .methodLinkNest "GridColours$Reader" 11 ⟨"GridColours$Grid", "<init>", "()V"⟩ "GridColours", .methodLinkNest "GridColours" 35 ⟨"GridColours$Seeker", "<init>", "()V"⟩ "GridColours", .methodLinkNest "GridColours$Seeker" 11 ⟨"GridColours$Grid", "<init>", "()V"⟩ "GridColours", .methodLinkNest "GridColours" 42 ⟨"GridColours$History", "<init>", "()V"⟩ "GridColours", .methodLinkNest "GridColours$Shelf" 25 ⟨"GridColours$Grid", "<init>", "()V"⟩ "GridColours", .methodLinkNest "GridColours$Grid" 59 ⟨"GridColours", "pairsOf", "(I)I"⟩ "GridColours"]
/-! THE TABLES OF THE SMALL MACHINE say what the Statement's tables say -/
def am_FT (ci : Nat) : u_T := match ci with
  | 0 => cF_C
  | 1 => cF_G
  | 2 => cF_H
  | 3 => cF_R
  | 4 => cF_S
  | 5 => cF_F
  | 6 => cF_T
  | _ => cF_M
def am_FN (ci : Nat) : Nat := match ci with
  | 0 => 8
  | 1 => 4
  | 2 => 3
  | 3 => 8
  | 4 => 6
  | 5 => 2
  | 6 => 2
  | _ => 34
def am_Fy (ci : Nat) : Nat → FieldType := match ci with
  | 0 => cT_C
  | 1 => cT_G
  | 2 => cT_H
  | 3 => cT_R
  | 4 => cT_S
  | 5 => cT_F
  | 6 => cT_T
  | _ => cT_M
theorem am_by8 {P : Nat → Prop} (h0 : P 0) (h1 : P 1) (h2 : P 2) (h3 : P 3) (h4 : P 4) (h5 : P 5) (h6 : P 6) (h7 : P 7) {i : Nat} (hi : i < 8) : P i := by
  have h : i = 0 ∨ i = 1 ∨ i = 2 ∨ i = 3 ∨ i = 4 ∨ i = 5 ∨ i = 6 ∨ i = 7 := by omega
  rcases h with rfl | rfl | rfl | rfl | rfl | rfl | rfl | rfl <;> assumption
theorem am_ci {ci : Nat} (h : ci < 8) : classes[ci]? = some (am_cn ci, am_FT ci, am_FN ci) := am_by8 (P := fun ci => classes[ci]? = some (am_cn ci, am_FT ci, am_FN ci)) rfl rfl rfl rfl rfl rfl rfl rfl h
theorem am_ci_in {ci : Nat} (h : ci < 8) : ∀ w ∈ u_ws (am_cn ci) (am_FT ci) (am_FN ci), w ∈ am_tbl := am_by8 (P := fun ci => ∀ w ∈ u_ws (am_cn ci) (am_FT ci) (am_FN ci), w ∈ am_tbl) cI_C cI_G cI_H cI_R cI_S cI_F cI_T cI_M h
theorem am_ci_ty {ci : Nat} (h : ci < 8) : ∀ k, k < am_FN ci → parseFieldDescriptor (am_FT ci k).2.2.1 = some (am_Fy ci k) := am_by8 (P := fun ci => ∀ k, k < am_FN ci → parseFieldDescriptor (am_FT ci k).2.2.1 = some (am_Fy ci k)) cT_C_ok cT_G_ok cT_H_ok cT_R_ok cT_S_ok cT_F_ok cT_T_ok cT_M_ok h
theorem am_ci_nm {ci : Nat} (h : ci < 8) : ∀ a, a < am_FN ci → ∀ b, b < am_FN ci → a ≠ b → (am_FT ci a).2.1 ≠ (am_FT ci b).2.1 := am_by8 (P := fun ci => ∀ a, a < am_FN ci → ∀ b, b < am_FN ci → a ≠ b → (am_FT ci a).2.1 ≠ (am_FT ci b).2.1) cN_C cN_G cN_H cN_R cN_S cN_F cN_T cN_M h
theorem am_mem {w : Cond} (h : (decide (w ∈ lw_tbl) && goodWord w) = true) : w ∈ am_tbl := by
  simp only [Bool.and_eq_true, decide_eq_true_eq] at h
  exact List.mem_filter.mpr h
theorem am_lookup {α : Type} {l : List (Nat × α)} {k : Nat} {v : α} (h : l.lookup k = some v) : (k, v) ∈ l := by
  induction l with
  | nil => simp at h
  | cons a l ih =>
    obtain ⟨k', v'⟩ := a
    rw [List.lookup_cons] at h
    by_cases hk : k = k'
    · subst hk
      simp at h
      subst h
      exact List.mem_cons_self
    · rw [show (k == k') = false from beq_eq_false_iff_ne.mpr hk] at h
      exact List.mem_cons_of_mem _ (ih h)
def am_flok (own : Nat) (q : Nat × Nat × Nat × Nat) : Bool := decide (q.2.1 < 8) && decide (q.2.2.1 < am_FN q.2.1) && (decide ((Cond.fieldLink (am_cn own) q.1 (am_FT q.2.1 q.2.2.1).1 (am_FT q.2.1 q.2.2.1).2.1 (am_FT q.2.1 q.2.2.1).2.2.1) ∈ lw_tbl) && goodWord (Cond.fieldLink (am_cn own) q.1 (am_FT q.2.1 q.2.2.1).1 (am_FT q.2.1 q.2.2.1).2.1 (am_FT q.2.1 q.2.2.1).2.2.1)) &&
  (match q.2.2.2 with
    | 0 => decide (am_Fy q.2.1 q.2.2.1 = .int) && !(am_FT q.2.1 q.2.2.1).2.2.2
    | 1 => decide (am_Fy q.2.1 q.2.2.1 = .long) && !(am_FT q.2.1 q.2.2.1).2.2.2
    | 2 => (match am_Fy q.2.1 q.2.2.1 with | .object _ => true | .array _ => true | _ => false) && !(am_FT q.2.1 q.2.2.1).2.2.2
    | 3 => (match am_Fy q.2.1 q.2.2.1 with | .object _ => true | .array _ => true | _ => false) && (am_FT q.2.1 q.2.2.1).2.2.2 && decide ((am_FT q.2.1 q.2.2.1).1 = am_cn own)
    | _ => false)
theorem am_fl0 : (am_fls 0).all (am_flok 0) = true := by decide +kernel
theorem am_fl1 : (am_fls 1).all (am_flok 1) = true := by decide +kernel
theorem am_fl2 : (am_fls 2).all (am_flok 2) = true := by decide +kernel
theorem am_fl3 : (am_fls 3).all (am_flok 3) = true := by decide +kernel
theorem am_fl4 : (am_fls 4).all (am_flok 4) = true := by decide +kernel
theorem am_fl5 : (am_fls 5).all (am_flok 5) = true := by decide +kernel
theorem am_fl6 : (am_fls 6).all (am_flok 6) = true := by decide +kernel
theorem am_fl7 : (am_fls 7).all (am_flok 7) = true := by decide +kernel
theorem am_fl8 (own : Nat) (h : 8 ≤ own) : am_fls own = [] := by
  unfold am_fls
  split <;> first | omega | rfl
theorem am_flx {own idx : Nat} {r : Nat × Nat × Nat} (h : am_fl own idx = some r) : am_flok own (idx, r) = true := by
  have hm : (idx, r) ∈ am_fls own := am_lookup h
  by_cases ho : own < 8
  · exact List.all_eq_true.mp (am_by8 (P := fun own => (am_fls own).all (am_flok own) = true) am_fl0 am_fl1 am_fl2 am_fl3 am_fl4 am_fl5 am_fl6 am_fl7 ho) _ hm
  · rw [am_fl8 own (by omega)] at hm
    cases hm
/-- a class that is made -/
def am_clok (own : Nat) (q : Nat × Nat) : Bool := decide (q.2 < 8) && (decide ((Cond.classLink (am_cn own) q.1 (am_cn q.2)) ∈ lw_tbl) && goodWord (Cond.classLink (am_cn own) q.1 (am_cn q.2))) && (decide ((Cond.instantiable (am_cn q.2) (am_FN q.2)) ∈ lw_tbl) && goodWord (Cond.instantiable (am_cn q.2) (am_FN q.2))) && (decide ((Cond.initialized (am_cn q.2)) ∈ lw_tbl) && goodWord (Cond.initialized (am_cn q.2)))
theorem am_cl_all : ∀ own, own < 12 → (am_cls own).all (am_clok own) = true := by decide +kernel
theorem am_cl12 (own : Nat) (h : 12 ≤ own) : am_cls own = [] := by
  unfold am_cls
  split <;> first | omega | rfl
theorem am_clx {own idx ci : Nat} (h : am_cl own idx = some ci) : am_clok own (idx, ci) = true := by
  have hm : (idx, ci) ∈ am_cls own := am_lookup h
  by_cases ho : own < 12
  · exact List.all_eq_true.mp (am_cl_all own ho) _ hm
  · rw [am_cl12 own (by omega)] at hm
    cases hm
/-- constants -/
def am_ctok (own : Nat) (q : Nat × Value) : Bool := match q.2 with
  | .int x => decide ((Cond.constant (am_cn own) q.1 x) ∈ lw_tbl) && goodWord (Cond.constant (am_cn own) q.1 x)
  | .long x => decide ((Cond.constantLong (am_cn own) q.1 x) ∈ lw_tbl) && goodWord (Cond.constantLong (am_cn own) q.1 x)
  | .ref x => decide ((own = 3 ∧ q.1 = 65 ∧ x = 2) ∨ (own = 3 ∧ q.1 = 74 ∧ x = 3))
  | _ => false
theorem am_ct_all : ∀ own, own < 12 → (am_cts own).all (am_ctok own) = true := by decide +kernel
theorem am_ct12 (own : Nat) (h : 12 ≤ own) : am_cts own = [] := by
  unfold am_cts
  split <;> first | omega | rfl
theorem am_ctx {own idx : Nat} {v : Value} (h : am_ct own idx = some v) : am_ctok own (idx, v) = true := by
  have hm : (idx, v) ∈ am_cts own := am_lookup h
  by_cases ho : own < 12
  · exact List.all_eq_true.mp (am_ct_all own ho) _ hm
  · rw [am_ct12 own (by omega)] at hm
    cases hm
-- methods
/-- where the words stand: the code, the class initialised, the link, instance or static, selects -/
def am_mps (own : Nat) : List (List Nat) := match own with
  | 0 => [[79], [86, 56, 0, 85], [100, 57, 0, 99], [120, 58, 0, 119], [153, 59, 0, 152], [180, 60, 0, 179], [186, 61, 213, 185], [246, 56, 243, 244, 245], [250, 56, 247, 248, 249], [258, 56, 255, 256, 257], [266, 58, 263, 264, 265], [402, 58, 399, 400, 401], [406, 58, 403, 404, 405], [410, 58, 407, 408, 409], [414, 57, 411, 412, 413], [422, 60, 419, 420, 421], [426, 58, 423, 424, 425], [374, 57, 436, 372, 373], [378, 57, 437, 376, 377], [382, 57, 438, 380, 381], [418, 57, 439, 416, 417], [442, 68, 440, 441], [449, 57, 446, 447, 448], [465, 60, 462, 463, 464], [394, 57, 470, 392, 393], [474, 57, 471, 472, 473], [398, 57, 479, 396, 397], [483, 57, 480, 481, 482], [487, 57, 497, 485, 486], [505, 57, 502, 503, 504], [527, 57, 524, 525, 526], [274, 57, 532, 272, 273], [830, 55, 828, 829], [543, 55, 541, 542], [546, 55, 544, 545], [496, 55, 557, 495], [565, 57, 562, 563, 564], [569, 59, 566, 567, 568], [597, 59, 594, 595, 596], [601, 59, 598, 599, 600], [609, 55, 606, 608, 15], [613, 59, 610, 611, 612], [621, 60, 618, 619, 620], [638, 55, 636, 637], [642, 55, 639, 641, 17], [662, 56, 659, 660, 661], [667, 55, 664, 666, 20], [678, 55, 675, 677, 21], [390, 57, 670, 388, 389], [689, 55, 687, 688], [386, 57, 668, 384, 385], [693, 57, 690, 691, 692], [706, 57, 703, 704, 705], [270, 57, 711, 268, 269], [718, 55, 716, 717], [733, 60, 730, 731, 732], [625, 61, 742, 623, 624], [737, 61, 747, 735, 736], [453, 57, 831, 451, 452], [835, 55, 833, 834], [646, 57, 643, 644, 645], [287, 56, 669, 285, 286], [721, 55, 719, 720], [725, 55, 723, 724]]
  | 1 => [[101], [274, 57, 271, 272, 273], [418, 57, 415, 416, 417], [394, 57, 391, 392, 393], [398, 57, 395, 396, 397], [474, 57, 519, 472, 473], [390, 57, 694, 388, 389], [461, 57, 458, 460, 8], [490, 73, 488, 489], [496, 55, 0, 495], [487, 57, 484, 485, 486], [453, 57, 450, 451, 452], [457, 57, 454, 456, 7], [509, 57, 506, 508, 9], [513, 57, 510, 512, 10], [517, 57, 514, 516, 11], [386, 57, 518, 384, 385], [650, 57, 647, 649, 18], [654, 57, 651, 653, 19]]
  | 2 => [[181], [186, 61, 184, 185], [625, 61, 622, 623, 624], [631], [737, 61, 734, 735, 736]]
  | 3 => [[121], [100, 57, 0, 99], [270, 57, 267, 268, 269], [279, 58, 276, 278, 0], [246, 56, 280, 244, 245], [304, 58, 301, 303, 2], [308, 58, 305, 307, 3], [369, 58, 366, 368, 6], [313, 58, 310, 312, 4], [365, 58, 362, 364, 5], [374, 57, 371, 372, 373], [378, 57, 375, 376, 377], [382, 57, 379, 380, 381], [386, 57, 383, 384, 385], [390, 57, 387, 388, 389], [281], [287, 56, 284, 285, 286], [290, 58, 288, 289], [294, 58, 291, 293, 1], [297, 58, 295, 296], [300, 58, 298, 299], [], []]
  | 4 => [[154], [100, 57, 0, 99], [573, 57, 570, 571, 572], [414, 57, 574, 412, 413], [449, 57, 575, 447, 448], [579, 59, 576, 578, 12], [583, 59, 580, 582, 13], [590, 59, 587, 589, 14], [274, 57, 584, 272, 273], [474, 57, 585, 472, 473], [382, 57, 591, 380, 381], [527, 57, 592, 525, 526], [390, 57, 593, 388, 389]]
  | 5 => [[187], [188], [100, 57, 0, 99], [629, 61, 626, 628, 16], [414, 57, 630, 412, 413]]
  | 6 => [[87], [287, 56, 663, 285, 286]]
  | 7 => [[850, 63, 846, 848, 23], [974, 63, 972, 973], [977, 63, 975, 976], [981, 63, 978, 980, 25], [859], [1006, 63, 1003, 1005, 30], [1009, 63, 1007, 1008], [971, 63, 968, 970, 24], [1002, 63, 999, 1001, 29], [990, 63, 988, 989], [994, 63, 991, 993, 27], [998, 63, 995, 997, 28], [1013, 63, 1010, 1012, 31], [987, 63, 984, 986, 26], [1017, 63, 1014, 1016, 32], [1020, 63, 1018, 1019], [1032, 63, 1029, 1031, 33], [1036, 63, 1033, 1035, 34], [1070, 63, 1067, 1069, 40], [1054, 63, 1052, 1053], [1051, 63, 1049, 1050], [1058, 63, 1055, 1057, 38], [1048, 63, 1045, 1047, 37], [1040, 63, 1037, 1039, 35], [1044, 63, 1041, 1043, 36], [1066, 63, 1063, 1065, 39], [1078, 63, 1075, 1077, 41], [1082, 63, 1079, 1081, 42], [1097, 63, 1095, 1096], [1113, 63, 1110, 1112, 43], [1127, 63, 1125, 1126], [1130, 63, 1128, 1129], [1120, 63, 1118, 1119], [1124, 63, 1121, 1123, 44], [1146, 63, 1143, 1145, 45], [1158, 63, 1155, 1157, 46], [1166, 63, 1163, 1165, 47], [1170, 63, 1167, 1169, 48], [1182, 63, 1179, 1181, 49], [1194, 63, 1191, 1193, 50], [1218, 63, 1215, 1217, 52], [1214, 63, 1211, 1213, 51], [1223, 63, 1220, 1222, 53]]
  | 8 => [[755, 55, 752, 753, 754], [827, 55, 824, 825, 826], [78, 55, 76, 77], [858, 63, 856, 857], [242, 55, 239, 240, 241], [845, 63, 842, 843, 844], [254, 55, 251, 252, 253], [854, 63, 851, 852, 853], [262, 55, 259, 260, 261], [967, 63, 964, 965, 966], [431, 55, 428, 429, 430], [1024, 63, 1021, 1022, 1023], [435, 55, 432, 433, 434], [1028, 63, 1025, 1026, 1027], [469, 55, 466, 467, 468], [1062, 63, 1059, 1060, 1061], [], [1074, 63, 1071, 1072, 1073], [841, 63, 838, 839, 840], [478, 55, 475, 476, 477], [1086, 63, 1083, 1084, 1085], [501, 55, 498, 499, 500], [1090, 63, 1087, 1088, 1089], [523, 55, 520, 521, 522], [1094, 63, 1091, 1092, 1093], [531, 55, 528, 529, 530], [1101, 63, 1098, 1099, 1100], [536, 55, 533, 534, 535], [1105, 63, 1102, 1103, 1104], [], [1109, 63, 1106, 1107, 1108], [540, 55, 537, 538, 539], [1117, 63, 1114, 1115, 1116], [552, 55, 549, 550, 551], [1134, 63, 1131, 1132, 1133], [556, 55, 553, 554, 555], [1138, 63, 1135, 1136, 1137], [561, 55, 558, 559, 560], [1142, 63, 1139, 1140, 1141], [605, 55, 602, 603, 604], [1150, 63, 1147, 1148, 1149], [617, 55, 614, 615, 616], [1154, 63, 1151, 1152, 1153], [635, 55, 632, 633, 634], [1162, 63, 1159, 1160, 1161], [658, 55, 655, 656, 657], [1174, 63, 1171, 1172, 1173], [674, 55, 671, 672, 673], [1178, 63, 1175, 1176, 1177], [682, 55, 679, 680, 681], [1186, 63, 1183, 1184, 1185], [686, 55, 683, 684, 685], [1190, 63, 1187, 1188, 1189], [698, 55, 695, 696, 697], [1198, 63, 1195, 1196, 1197], [702, 55, 699, 700, 701], [1202, 63, 1199, 1200, 1201], [710, 55, 707, 708, 709], [1206, 63, 1203, 1204, 1205], [715, 55, 712, 713, 714], [1210, 63, 1207, 1208, 1209], [729, 55, 726, 727, 728], [1227, 63, 1224, 1225, 1226], [741, 55, 738, 739, 740], [1231, 63, 1228, 1229, 1230], [746, 55, 743, 744, 745], [1235, 63, 1232, 1233, 1234]]
  | _ => []
def am_at (ps : List Nat) (j : Nat) (w : Cond) : Bool := match ps[j]? with
  | some i => decide (lw_tbl[i]? = some w) && goodWord w
  | none => false
theorem am_at_mem {ps : List Nat} {j : Nat} {w : Cond} (h : am_at ps j w = true) : w ∈ am_tbl := by
  unfold am_at at h
  split at h
  · next i hi =>
    simp only [Bool.and_eq_true, decide_eq_true_eq] at h
    exact List.mem_filter.mpr ⟨List.mem_of_getElem? h.1, h.2⟩
  · cases h
def am_mok (ps : List Nat) (M : am_M) : Bool := am_at ps 0 (.code M.1 M.2.1 M.2.2.1 M.2.2.2.1) && decide (M.1.cls = am_cn M.2.2.2.2.1) && am_at ps 1 (.initialized M.1.cls) && plainName M.1.cls && decide (M.1.cls ≠ "java/lang/invoke/MethodHandle") && decide (M.1.cls ≠ "java/lang/invoke/VarHandle") && (!M.2.2.2.2.2.2 || decide (M.1.name = "<init>"))
def am_pn (y : MethodName) : Option Nat := (parseMethodDescriptor y.desc).map (fun d => d.parameters.length)
def am_mtok (own : Nat) (x : (Nat × Nat × am_M × Nat) × List Nat) : Bool := match x.1.2.1 with
  | 0 => am_mok x.2 x.1.2.2.1 && decide (am_pn x.1.2.2.1.1 = some x.1.2.2.2) && am_at x.2 2 (.methodLink (am_cn own) x.1.1 x.1.2.2.1.1) && am_at x.2 3 (.instanceMethod x.1.2.2.1.1) && am_at x.2 4 (.selects x.1.2.2.1.1.cls x.1.2.2.1.1 x.1.2.2.1.1) && decide (x.1.2.2.1.2.2.2.2.1 < 8)
  | 1 => am_mok x.2 x.1.2.2.1 && decide (am_pn x.1.2.2.1.1 = some x.1.2.2.2) && am_at x.2 2 (.methodLink (am_cn own) x.1.1 x.1.2.2.1.1) && am_at x.2 3 (.static x.1.2.2.1.1)
  | 2 => am_mok x.2 x.1.2.2.1 && decide (am_pn x.1.2.2.1.1 = some x.1.2.2.2) && am_at x.2 2 (.methodLink (am_cn own) x.1.1 x.1.2.2.1.1) && am_at x.2 3 (.instanceMethod x.1.2.2.1.1) && decide (x.1.2.2.1.1.name = "<init>") && decide (x.1.2.2.1.2.2.2.1 = none)
  | 3 => am_mok x.2 x.1.2.2.1 && decide (am_pn x.1.2.2.1.1 = some x.1.2.2.2) && decide ((Cond.methodLinkNest (am_cn own) x.1.1 x.1.2.2.1.1 "GridColours") ∈ am_nst) && am_at x.2 3 (.instanceMethod x.1.2.2.1.1) && decide (x.1.2.2.1.1.name = "<init>") && decide (x.1.2.2.1.2.2.2.1 = none)
  | 4 => am_mok x.2 x.1.2.2.1 && decide (am_pn x.1.2.2.1.1 = some x.1.2.2.2) && decide ((Cond.methodLinkNest (am_cn own) x.1.1 x.1.2.2.1.1 "GridColours") ∈ am_nst) && am_at x.2 3 (.static x.1.2.2.1.1)
  | 5 => am_at x.2 0 (.methodLink (am_cn own) x.1.1 Lib.objectInit)
  | 6 => decide (own = 3 ∧ x.1.1 = 114)
  | 7 => decide (own = 3 ∧ x.1.1 = 117)
  | 8 => decide (own = 8 ∧ x.1.1 = 51)
  | 9 => decide (own = 8 ∧ x.1.1 = 81)
  | 10 => am_at x.2 0 (.methodLink (am_cn own) x.1.1 Lib.Math.min.name)
  | 11 => am_at x.2 0 (.methodLink (am_cn own) x.1.1 Lib.Math.max.name)
  | _ => false
/-- n of the rows from k on -/
def am_mtz (own k n : Nat) : Bool := ((((am_mts own).zip (am_mps own)).drop k).take n).all (am_mtok own)

theorem am_mt_0_0 : am_mtz 0 0 8 = true := by decide +kernel
theorem am_mt_0_8 : am_mtz 0 8 8 = true := by decide +kernel
theorem am_mt_0_16 : am_mtz 0 16 8 = true := by decide +kernel
theorem am_mt_0_24 : am_mtz 0 24 8 = true := by decide +kernel
theorem am_mt_0_32 : am_mtz 0 32 8 = true := by decide +kernel
theorem am_mt_0_40 : am_mtz 0 40 8 = true := by decide +kernel
theorem am_mt_0_48 : am_mtz 0 48 8 = true := by decide +kernel
theorem am_mt_0_56 : am_mtz 0 56 8 = true := by decide +kernel
theorem am_mt_1_0 : am_mtz 1 0 8 = true := by decide +kernel
theorem am_mt_1_8 : am_mtz 1 8 8 = true := by decide +kernel
theorem am_mt_1_16 : am_mtz 1 16 8 = true := by decide +kernel
theorem am_mt_2_0 : am_mtz 2 0 8 = true := by decide +kernel
theorem am_mt_3_0 : am_mtz 3 0 8 = true := by decide +kernel
theorem am_mt_3_8 : am_mtz 3 8 8 = true := by decide +kernel
theorem am_mt_3_16 : am_mtz 3 16 8 = true := by decide +kernel
theorem am_mt_4_0 : am_mtz 4 0 8 = true := by decide +kernel
theorem am_mt_4_8 : am_mtz 4 8 8 = true := by decide +kernel
theorem am_mt_5_0 : am_mtz 5 0 8 = true := by decide +kernel
theorem am_mt_6_0 : am_mtz 6 0 8 = true := by decide +kernel
theorem am_mt_7_0 : am_mtz 7 0 8 = true := by decide +kernel
theorem am_mt_7_8 : am_mtz 7 8 8 = true := by decide +kernel
theorem am_mt_7_16 : am_mtz 7 16 8 = true := by decide +kernel
theorem am_mt_7_24 : am_mtz 7 24 8 = true := by decide +kernel
theorem am_mt_7_32 : am_mtz 7 32 8 = true := by decide +kernel
theorem am_mt_7_40 : am_mtz 7 40 8 = true := by decide +kernel
theorem am_mt_8_0 : am_mtz 8 0 8 = true := by decide +kernel
theorem am_mt_8_8 : am_mtz 8 8 8 = true := by decide +kernel
theorem am_mt_8_16 : am_mtz 8 16 8 = true := by decide +kernel
theorem am_mt_8_24 : am_mtz 8 24 8 = true := by decide +kernel
theorem am_mt_8_32 : am_mtz 8 32 8 = true := by decide +kernel
theorem am_mt_8_40 : am_mtz 8 40 8 = true := by decide +kernel
theorem am_mt_8_48 : am_mtz 8 48 8 = true := by decide +kernel
theorem am_mt_8_56 : am_mtz 8 56 8 = true := by decide +kernel
theorem am_mt_8_64 : am_mtz 8 64 8 = true := by decide +kernel
theorem am_mt_len : ∀ own, own < 12 → (am_mts own).length = (am_mps own).length := by decide +kernel
theorem am_all_cut {α : Type} {l : List α} {f : α → Bool} (k n : Nat) (h1 : (l.take k).all f = true) (h2 : ((l.drop k).take n).all f = true) : (l.take (k + n)).all f = true := by
  rw [List.take_add, List.all_append, h1, h2]
  rfl
theorem am_mt_0 : ((am_mts 0).zip (am_mps 0)).all (am_mtok 0) = true := by
  have h := (am_all_cut 56 8 (am_all_cut 48 8 (am_all_cut 40 8 (am_all_cut 32 8 (am_all_cut 24 8 (am_all_cut 16 8 (am_all_cut 8 8 (am_all_cut 0 8 (by rfl) am_mt_0_0) am_mt_0_8) am_mt_0_16) am_mt_0_24) am_mt_0_32) am_mt_0_40) am_mt_0_48) am_mt_0_56)
  rw [List.take_of_length_le (by decide +kernel)] at h
  exact h
theorem am_mt_1 : ((am_mts 1).zip (am_mps 1)).all (am_mtok 1) = true := by
  have h := (am_all_cut 16 8 (am_all_cut 8 8 (am_all_cut 0 8 (by rfl) am_mt_1_0) am_mt_1_8) am_mt_1_16)
  rw [List.take_of_length_le (by decide +kernel)] at h
  exact h
theorem am_mt_2 : ((am_mts 2).zip (am_mps 2)).all (am_mtok 2) = true := by
  have h := (am_all_cut 0 8 (by rfl) am_mt_2_0)
  rw [List.take_of_length_le (by decide +kernel)] at h
  exact h
theorem am_mt_3 : ((am_mts 3).zip (am_mps 3)).all (am_mtok 3) = true := by
  have h := (am_all_cut 16 8 (am_all_cut 8 8 (am_all_cut 0 8 (by rfl) am_mt_3_0) am_mt_3_8) am_mt_3_16)
  rw [List.take_of_length_le (by decide +kernel)] at h
  exact h
theorem am_mt_4 : ((am_mts 4).zip (am_mps 4)).all (am_mtok 4) = true := by
  have h := (am_all_cut 8 8 (am_all_cut 0 8 (by rfl) am_mt_4_0) am_mt_4_8)
  rw [List.take_of_length_le (by decide +kernel)] at h
  exact h
theorem am_mt_5 : ((am_mts 5).zip (am_mps 5)).all (am_mtok 5) = true := by
  have h := (am_all_cut 0 8 (by rfl) am_mt_5_0)
  rw [List.take_of_length_le (by decide +kernel)] at h
  exact h
theorem am_mt_6 : ((am_mts 6).zip (am_mps 6)).all (am_mtok 6) = true := by
  have h := (am_all_cut 0 8 (by rfl) am_mt_6_0)
  rw [List.take_of_length_le (by decide +kernel)] at h
  exact h
theorem am_mt_7 : ((am_mts 7).zip (am_mps 7)).all (am_mtok 7) = true := by
  have h := (am_all_cut 40 8 (am_all_cut 32 8 (am_all_cut 24 8 (am_all_cut 16 8 (am_all_cut 8 8 (am_all_cut 0 8 (by rfl) am_mt_7_0) am_mt_7_8) am_mt_7_16) am_mt_7_24) am_mt_7_32) am_mt_7_40)
  rw [List.take_of_length_le (by decide +kernel)] at h
  exact h
theorem am_mt_8 : ((am_mts 8).zip (am_mps 8)).all (am_mtok 8) = true := by
  have h := (am_all_cut 64 8 (am_all_cut 56 8 (am_all_cut 48 8 (am_all_cut 40 8 (am_all_cut 32 8 (am_all_cut 24 8 (am_all_cut 16 8 (am_all_cut 8 8 (am_all_cut 0 8 (by rfl) am_mt_8_0) am_mt_8_8) am_mt_8_16) am_mt_8_24) am_mt_8_32) am_mt_8_40) am_mt_8_48) am_mt_8_56) am_mt_8_64)
  rw [List.take_of_length_le (by decide +kernel)] at h
  exact h
theorem am_mt_9 : ((am_mts 9).zip (am_mps 9)).all (am_mtok 9) = true := by
  rfl
theorem am_mt_10 : ((am_mts 10).zip (am_mps 10)).all (am_mtok 10) = true := by
  rfl
theorem am_mt_11 : ((am_mts 11).zip (am_mps 11)).all (am_mtok 11) = true := by
  rfl
theorem am_mt_all (own : Nat) (h : own < 12) : ((am_mts own).zip (am_mps own)).all (am_mtok own) = true := by
  have h : own = 0 ∨ own = 1 ∨ own = 2 ∨ own = 3 ∨ own = 4 ∨ own = 5 ∨ own = 6 ∨ own = 7 ∨ own = 8 ∨ own = 9 ∨ own = 10 ∨ own = 11 := by omega
  rcases h with rfl | rfl | rfl | rfl | rfl | rfl | rfl | rfl | rfl | rfl | rfl | rfl
  · exact am_mt_0
  · exact am_mt_1
  · exact am_mt_2
  · exact am_mt_3
  · exact am_mt_4
  · exact am_mt_5
  · exact am_mt_6
  · exact am_mt_7
  · exact am_mt_8
  · exact am_mt_9
  · exact am_mt_10
  · exact am_mt_11
theorem am_mt12 (own : Nat) (h : 12 ≤ own) : am_mts own = [] := by
  unfold am_mts
  split <;> first | omega | rfl
theorem am_zip_mem {α β : Type} : ∀ (l : List α) (r : List β), l.length = r.length → ∀ x ∈ l, ∃ y, (x, y) ∈ l.zip r
  | [], _, _, _, h => by cases h
  | a :: l, [], h, _, _ => by simp at h
  | a :: l, b :: r, h, x, hx => by
    rcases List.mem_cons.mp hx with rfl | hx
    · exact ⟨b, List.mem_cons_self⟩
    · obtain ⟨y, hy⟩ := am_zip_mem l r (by simpa using h) x hx
      exact ⟨y, List.mem_cons_of_mem _ hy⟩
theorem am_mtx {own idx : Nat} {r : Nat × am_M × Nat} (h : am_mt own idx = some r) : ∃ ps, am_mtok own ((idx, r), ps) = true := by
  have hm : (idx, r) ∈ am_mts own := am_lookup h
  by_cases ho : own < 12
  · obtain ⟨ps, hps⟩ := am_zip_mem _ _ (am_mt_len own ho) _ hm
    exact ⟨ps, List.all_eq_true.mp (am_mt_all own ho) _ hps⟩
  · rw [am_mt12 own (by omega)] at hm
    cases hm
theorem am_objm : (Cond.instanceMethod Lib.objectInit) ∈ am_tbl := am_at_mem (ps := [80]) (j := 0) (by decide +kernel)
theorem am_objc : (Cond.code Lib.objectInit ⟨#[0xb1]⟩ 1 none) ∈ am_tbl := am_at_mem (ps := [81]) (j := 0) (by decide +kernel)
theorem am_min_s : (Cond.static Lib.Math.min.name) ∈ am_tbl := am_at_mem (ps := [282]) (j := 0) (by decide +kernel)
theorem am_min_c : (Cond.code Lib.Math.min.name Lib.Math.min.code 2 (some .int)) ∈ am_tbl := am_at_mem (ps := [283]) (j := 0) (by decide +kernel)
theorem am_max_s : (Cond.static Lib.Math.max.name) ∈ am_tbl := am_at_mem (ps := [189]) (j := 0) (by decide +kernel)
theorem am_max_c : (Cond.code Lib.Math.max.name Lib.Math.max.code 2 (some .int)) ∈ am_tbl := am_at_mem (ps := [190]) (j := 0) (by decide +kernel)
theorem am_math_i : (Cond.initialized "java/lang/Math") ∈ am_tbl := am_at_mem (ps := [62]) (j := 0) (by decide +kernel)
theorem am_arr_i : (Cond.arrayClass .int) ∈ am_tbl := am_at_mem (ps := [95]) (j := 0) (by decide +kernel)
theorem am_arr_l : (Cond.arrayClass .long) ∈ am_tbl := am_at_mem (ps := [115]) (j := 0) (by decide +kernel)
theorem am_arr_z : (Cond.arrayClass .boolean) ∈ am_tbl := am_at_mem (ps := [201]) (j := 0) (by decide +kernel)
