/-! what the tables say of the links, methods and classes of 02.names: decided once (by program: wip/whole/gen/names.py) -/
def fW (q : Nat × Nat × Nat × Nat) : Cond := match vcl[q.2.2.1]? with
  | some r => .fieldLink (cnm q.1) q.2.1 (r.2.1 q.2.2.2).1 (r.2.1 q.2.2.2).2.1 (r.2.1 q.2.2.2).2.2.1
  | none => .returned
def gw (w : Cond) : Bool := decide (w ∈ lw_tbl) && goodWord w
def gp (i : Nat) (w : Cond) : Bool := decide (lw_tbl[i]? = some w) && goodWord w
theorem FLT_ok : FLT.all (fun q => gw (fW q)) = true := by decide +kernel
def sW (q : Nat × Nat × Nat) : Cond := .fieldLink (cnm q.1) q.2.1 (sts.getD (q.2.2 - 100) ("", "", [])).1 (sts.getD (q.2.2 - 100) ("", "", [])).2.1 "[I"
theorem SLT_ok : SLT.all (fun q => gw (sW q)) = true := by decide +kernel
theorem KLT_ok : KLT.all (fun q => gw (.constant (cnm q.1) q.2.1 (Int32.ofNat q.2.2))) = true := by decide +kernel
def mW (q : Nat × Nat × Nat × Nat) : Cond := .methodLink (cnm q.1) q.2.1 (mY q.2.2.1)
def clOk (c : Nat) : Bool := match vcl[c]? with
  | some r => (u_ws r.1 r.2.1 r.2.2).all gw && decide (∀ k, k < r.2.2 → parseFieldDescriptor (r.2.1 k).2.2.1 = some (vty c k)) && decide (∀ a, a < r.2.2 → ∀ b, b < r.2.2 → a ≠ b → (r.2.1 a).2.1 ≠ (r.2.1 b).2.1) && decide (∀ k, k < r.2.2 → (r.2.1 k).1 = r.1)
  | none => false
theorem clOk_ok : (List.range 7).all clOk = true := by decide +kernel
/-- a method's words by their places in lw_tbl: method, code, initialized -/
def mP (q : Nat × Nat × Nat) : Bool := gp q.2.1 (.code (mY q.1) (mC q.1) (mL q.1) (mR q.1)) && gp q.2.2 (.initialized (mY q.1).cls) && decide ((mY q.1).cls ≠ "java/lang/invoke/MethodHandle" ∧ (mY q.1).cls ≠ "java/lang/invoke/VarHandle") && plainName (mY q.1).cls && decide ((mY q.1).cls = cnm (mN q.1))
def mPl_0 : List (Nat × Nat × Nat) := [(0, 208, 57), (1, 205, 52), (2, 214, 52), (3, 221, 58), (4, 218, 52), (5, 201, 52), (6, 197, 51), (7, 244, 51), (8, 248, 51), (9, 256, 58)]
theorem mPl_0_ok : mPl_0.all mP = true := by decide +kernel
def mPl_1 : List (Nat × Nat × Nat) := [(10, 259, 58), (11, 262, 52), (12, 253, 51), (13, 266, 51), (14, 273, 58), (15, 288, 58), (16, 291, 58), (17, 294, 58), (18, 281, 52), (19, 301, 58)]
theorem mPl_1_ok : mPl_1.all mP = true := by decide +kernel
def mPl_2 : List (Nat × Nat × Nat) := [(20, 306, 52), (21, 277, 52), (22, 270, 51), (23, 314, 52), (24, 310, 51), (25, 534, 54), (26, 524, 54), (27, 539, 54), (28, 519, 54), (29, 555, 58)]
theorem mPl_2_ok : mPl_2.all mP = true := by decide +kernel
def mPl_3 : List (Nat × Nat × Nat) := [(30, 562, 55), (31, 550, 53), (32, 569, 58), (33, 473, 58), (34, 572, 58), (35, 577, 54), (36, 589, 54), (37, 593, 53), (38, 582, 53), (39, 470, 58)]
theorem mPl_3_ok : mPl_3.all mP = true := by decide +kernel
def mPl_4 : List (Nat × Nat × Nat) := [(40, 566, 53), (41, 544, 53), (42, 480, 58), (43, 484, 52), (44, 598, 53), (45, 610, 53), (46, 606, 53), (47, 515, 53), (48, 629, 55), (49, 652, 52)]
theorem mPl_4_ok : mPl_4.all mP = true := by decide +kernel
def mPl_5 : List (Nat × Nat × Nat) := [(50, 662, 55), (51, 665, 55), (52, 669, 58), (53, 672, 55), (54, 659, 52), (55, 676, 52), (56, 648, 56), (57, 680, 56), (58, 644, 56), (59, 640, 51)]
theorem mPl_5_ok : mPl_5.all mP = true := by decide +kernel
def mPl_6 : List (Nat × Nat × Nat) := [(60, 319, 51), (61, 701, 52), (62, 753, 51), (63, 742, 51), (64, 838, 59), (65, 785, 59), (66, 782, 59), (67, 923, 59), (68, 930, 59), (69, 793, 59)]
theorem mPl_6_ok : mPl_6.all mP = true := by decide +kernel
def mPl_7 : List (Nat × Nat × Nat) := [(70, 796, 59), (71, 789, 59), (72, 779, 59), (73, 775, 59), (74, 875, 59), (75, 872, 59), (76, 920, 59), (77, 916, 59), (78, 927, 59), (79, 934, 59)]
theorem mPl_7_ok : mPl_7.all mP = true := by decide +kernel
def mPl_8 : List (Nat × Nat × Nat) := [(80, 912, 59), (81, 942, 59), (82, 938, 59), (83, 908, 59), (84, 904, 59), (85, 950, 59), (86, 961, 59), (87, 958, 59), (88, 767, 59), (89, 771, 59)]
theorem mPl_8_ok : mPl_8.all mP = true := by decide +kernel
def mPl_9 : List (Nat × Nat × Nat) := [(90, 763, 59), (91, 843, 59), (92, 854, 59), (93, 850, 59), (94, 847, 59), (95, 861, 59), (96, 858, 59), (97, 869, 59), (98, 865, 59), (99, 879, 59)]
theorem mPl_9_ok : mPl_9.all mP = true := by decide +kernel
def mPl_10 : List (Nat × Nat × Nat) := [(100, 883, 59), (101, 887, 59), (102, 891, 59), (103, 895, 59), (104, 899, 59), (105, 946, 59), (106, 954, 59), (107, 978, 59), (108, 974, 59), (109, 982, 59)]
theorem mPl_10_ok : mPl_10.all mP = true := by decide +kernel
def mPl_11 : List (Nat × Nat × Nat) := [(110, 986, 59), (111, 970, 59), (112, 966, 59), (113, 990, 59), (114, 994, 59), (115, 998, 59), (116, 1002, 59), (117, 1010, 59), (118, 1006, 59), (119, 1014, 59)]
theorem mPl_11_ok : mPl_11.all mP = true := by decide +kernel
def mPl_12 : List (Nat × Nat × Nat) := [(120, 463, 52), (121, 467, 52), (122, 487, 66), (123, 477, 52), (124, 459, 52), (125, 705, 56), (126, 424, 58), (127, 333, 51), (128, 510, 51), (129, 405, 51)]
theorem mPl_12_ok : mPl_12.all mP = true := by decide +kernel
def mPl_13 : List (Nat × Nat × Nat) := [(130, 329, 51), (131, 447, 51), (132, 455, 51), (133, 499, 51), (134, 506, 51), (135, 617, 51), (136, 625, 51), (137, 636, 51), (138, 687, 51), (139, 695, 51)]
theorem mPl_13_ok : mPl_13.all mP = true := by decide +kernel
def mPl_14 : List (Nat × Nat × Nat) := [(140, 713, 51), (141, 737, 51), (142, 749, 51)]
theorem mPl_14_ok : mPl_14.all mP = true := by decide +kernel
def mPl : List (Nat × Nat × Nat) := mPl_0 ++ mPl_1 ++ mPl_2 ++ mPl_3 ++ mPl_4 ++ mPl_5 ++ mPl_6 ++ mPl_7 ++ mPl_8 ++ mPl_9 ++ mPl_10 ++ mPl_11 ++ mPl_12 ++ mPl_13 ++ mPl_14
theorem mPl_ok : mPl.all mP = true := by
  simp only [mPl, List.all_append, mPl_0_ok, mPl_1_ok, mPl_2_ok, mPl_3_ok, mPl_4_ok, mPl_5_ok, mPl_6_ok, mPl_7_ok, mPl_8_ok, mPl_9_ok, mPl_10_ok, mPl_11_ok, mPl_12_ok, mPl_13_ok, mPl_14_ok, Bool.and_self]
theorem mPl_no : mPl.map (fun q => q.1) = List.range 143 := by decide +kernel
/-- links of calls: class, place, method, parameters; places of methodLink, static or instanceMethod, selects -/
abbrev cL : Type := (Nat × Nat × Nat × Nat) × Nat × Nat × Nat
def sP (q : cL) : Bool := gp q.2.1 (mW q.1) && gp q.2.2.1 (.static (mY q.1.2.2.1)) && decide (q.1.2.2.1 < 143) && decide ((parseMethodDescriptor (mY q.1.2.2.1).desc).map (fun d => d.parameters.length) = some q.1.2.2.2)
def vP (q : cL) : Bool := gp q.2.1 (mW q.1) && gp q.2.2.1 (.instanceMethod (mY q.1.2.2.1)) && gp q.2.2.2 (.selects (mY q.1.2.2.1).cls (mY q.1.2.2.1) (mY q.1.2.2.1)) && decide (q.1.2.2.1 < 143) && decide ((parseMethodDescriptor (mY q.1.2.2.1).desc).map (fun d => d.parameters.length) = some q.1.2.2.2) && decide ((vcl[mN q.1.2.2.1]?).map (fun r => r.1) = some (mY q.1.2.2.1).cls)
def sPl_0 : List cL := [((0, 21, 0, 2), 206, 207, 0), ((0, 61, 3, 1), 219, 220, 0), ((0, 64, 39, 3), 468, 469, 0), ((0, 68, 42, 2), 478, 479, 0), ((0, 75, 122, 1), 485, 486, 0), ((0, 87, 19, 3), 299, 300, 0), ((0, 100, 15, 2), 286, 287, 0), ((0, 103, 16, 2), 289, 290, 0), ((0, 106, 17, 4), 292, 293, 0), ((0, 110, 50, 1), 660, 661, 0), ((0, 115, 51, 1), 663, 664, 0), ((0, 118, 11, 2), 666, 261, 0)]
theorem sPl_0_ok : sPl_0.all sP = true := by decide +kernel
def sPl_1 : List cL := [((0, 121, 52, 1), 667, 668, 0), ((0, 124, 53, 1), 670, 671, 0), ((1, 26, 0, 2), 520, 207, 0), ((1, 41, 19, 3), 535, 300, 0), ((1, 54, 15, 2), 527, 287, 0), ((1, 61, 16, 2), 528, 290, 0), ((1, 64, 3, 1), 529, 220, 0), ((1, 68, 17, 4), 530, 293, 0), ((4, 60, 42, 2), 602, 479, 0), ((4, 68, 16, 2), 545, 290, 0), ((4, 72, 3, 1), 546, 220, 0), ((4, 85, 29, 2), 553, 554, 0)]
theorem sPl_1_ok : sPl_1.all sP = true := by decide +kernel
def sPl_2 : List cL := [((4, 95, 32, 1), 567, 568, 0), ((4, 99, 34, 2), 570, 571, 0), ((4, 118, 39, 3), 594, 469, 0), ((4, 128, 15, 2), 585, 287, 0), ((4, 143, 11, 2), 599, 261, 0), ((4, 146, 14, 1), 600, 272, 0), ((5, 60, 129, 1), 403, 404, 0), ((5, 63, 126, 1), 422, 423, 0), ((5, 80, 9, 1), 254, 255, 0), ((5, 83, 10, 1), 257, 258, 0), ((5, 91, 11, 2), 260, 261, 0), ((5, 100, 14, 1), 271, 272, 0)]
theorem sPl_2_ok : sPl_2.all sP = true := by decide +kernel
def sPl_3 : List cL := [((6, 43, 65, 1), 783, 784, 0), ((6, 51, 70, 2), 794, 795, 0), ((6, 54, 66, 2), 780, 781, 0), ((6, 64, 74, 2), 873, 874, 0), ((6, 68, 67, 2), 921, 922, 0), ((6, 71, 75, 3), 870, 871, 0), ((6, 78, 68, 1), 928, 929, 0), ((6, 112, 86, 1), 959, 960, 0), ((6, 128, 93, 1), 848, 849, 0), ((6, 135, 95, 1), 859, 860, 0), ((7, 9, 33, 2), 471, 472, 0), ((7, 20, 15, 2), 302, 287, 0)]
theorem sPl_3_ok : sPl_3.all sP = true := by decide +kernel
def sPl : List cL := sPl_0 ++ sPl_1 ++ sPl_2 ++ sPl_3
theorem sPl_ok : sPl.all sP = true := by
  simp only [sPl, List.all_append, sPl_0_ok, sPl_1_ok, sPl_2_ok, sPl_3_ok, Bool.and_self]
theorem sPl_no : sPl.map (fun q => q.1) = MLS := by decide +kernel
def vPl_0 : List cL := [((0, 27, 1, 0), 202, 203, 204), ((0, 33, 2, 2), 211, 213, 1), ((0, 37, 4, 0), 215, 217, 2), ((0, 46, 120, 1), 460, 462, 6), ((0, 50, 121, 0), 464, 466, 7), ((0, 54, 123, 1), 474, 476, 8), ((0, 58, 23, 1), 491, 312, 313), ((0, 72, 43, 1), 481, 482, 483), ((0, 80, 21, 2), 315, 275, 276), ((0, 84, 18, 3), 278, 280, 3), ((0, 91, 20, 2), 303, 304, 305), ((1, 32, 26, 2), 521, 523, 10)]
theorem vPl_0_ok : vPl_0.all vP = true := by decide +kernel
def vPl_1 : List cL := [((1, 45, 27, 2), 536, 538, 12), ((1, 72, 25, 4), 531, 533, 11), ((1, 76, 20, 2), 540, 304, 305), ((2, 33, 49, 1), 649, 650, 651), ((2, 37, 54, 3), 656, 657, 658), ((2, 41, 55, 1), 673, 674, 675), ((2, 48, 56, 2), 645, 646, 647), ((2, 52, 57, 1), 677, 679, 22), ((4, 42, 28, 1), 516, 517, 518), ((4, 45, 41, 3), 541, 543, 13), ((4, 49, 44, 1), 595, 597, 18), ((4, 64, 46, 3), 603, 605, 19)]
theorem vPl_1_ok : vPl_1.all vP = true := by decide +kernel
def vPl_2 : List cL := [((4, 75, 31, 3), 547, 549, 14), ((4, 78, 40, 4), 563, 565, 15), ((4, 88, 21, 2), 558, 275, 276), ((4, 91, 30, 3), 559, 560, 561), ((4, 108, 35, 2), 574, 575, 576), ((4, 114, 38, 5), 579, 581, 16), ((4, 131, 36, 1), 586, 587, 588), ((4, 134, 37, 1), 590, 592, 17), ((4, 149, 43, 1), 601, 482, 483), ((4, 152, 45, 5), 607, 609, 20), ((5, 44, 6, 0), 194, 196, 0), ((5, 47, 1, 0), 249, 203, 204)]
theorem vPl_2_ok : vPl_2.all vP = true := by decide +kernel
def vPl_3 : List cL := [((5, 57, 127, 0), 330, 332, 4), ((5, 95, 124, 1), 456, 457, 458), ((5, 103, 21, 2), 274, 275, 276), ((5, 107, 23, 1), 311, 312, 313), ((5, 110, 128, 0), 507, 509, 9), ((5, 113, 47, 2), 512, 513, 514), ((5, 128, 48, 1), 626, 627, 628), ((5, 131, 59, 0), 637, 639, 21), ((5, 135, 56, 2), 688, 646, 647), ((5, 146, 61, 2), 698, 699, 700), ((5, 149, 125, 3), 702, 703, 704), ((5, 164, 54, 3), 730, 657, 658)]
theorem vPl_3_ok : vPl_3.all vP = true := by decide +kernel
def vPl_4 : List cL := [((5, 170, 63, 0), 739, 741, 23), ((5, 173, 62, 1), 750, 752, 24), ((5, 176, 5, 0), 198, 199, 200), ((5, 183, 58, 2), 641, 642, 643), ((6, 47, 69, 2), 790, 792, 30), ((6, 57, 71, 4), 786, 788, 29), ((6, 61, 72, 2), 776, 778, 28), ((6, 75, 76, 2), 917, 919, 37), ((6, 81, 77, 4), 913, 915, 36), ((6, 84, 78, 5), 924, 926, 38), ((6, 88, 73, 1), 772, 774, 27), ((6, 92, 79, 5), 931, 933, 39)]
theorem vPl_4_ok : vPl_4.all vP = true := by decide +kernel
def vPl_5 : List cL := [((6, 95, 80, 5), 909, 911, 35), ((6, 99, 81, 2), 939, 941, 41), ((6, 102, 82, 4), 935, 937, 40), ((6, 105, 83, 5), 905, 907, 34), ((6, 118, 88, 0), 764, 766, 25), ((6, 125, 89, 0), 768, 770, 26), ((6, 131, 92, 3), 851, 853, 31), ((6, 138, 97, 0), 866, 868, 32), ((6, 143, 84, 3), 901, 903, 33), ((6, 147, 85, 1), 947, 949, 42), ((6, 150, 87, 1), 955, 957, 43), ((6, 153, 107, 1), 975, 977, 46)]
theorem vPl_5_ok : vPl_5.all vP = true := by decide +kernel
def vPl_6 : List cL := [((6, 156, 108, 0), 971, 973, 45), ((6, 160, 109, 1), 979, 981, 47), ((6, 163, 110, 2), 983, 985, 48), ((6, 167, 111, 0), 967, 969, 44), ((6, 170, 117, 0), 1007, 1009, 49), ((10, 7, 130, 2), 326, 327, 328), ((10, 19, 131, 3), 444, 445, 446), ((10, 23, 132, 1), 452, 453, 454), ((10, 27, 133, 1), 496, 497, 498), ((10, 31, 134, 0), 503, 504, 505), ((10, 35, 135, 1), 614, 615, 616), ((10, 38, 136, 1), 622, 623, 624)]
theorem vPl_6_ok : vPl_6.all vP = true := by decide +kernel
def vPl_7 : List cL := [((10, 42, 137, 0), 633, 634, 635), ((10, 45, 138, 0), 684, 685, 686), ((10, 48, 139, 1), 692, 693, 694), ((10, 51, 140, 0), 710, 711, 712), ((10, 56, 141, 1), 734, 735, 736), ((10, 59, 142, 0), 746, 747, 748), ((10, 66, 7, 0), 241, 242, 243), ((10, 69, 90, 0), 839, 761, 762), ((10, 70, 8, 0), 245, 246, 247), ((10, 73, 91, 0), 840, 841, 842), ((10, 79, 94, 2), 844, 845, 846), ((10, 80, 64, 0), 835, 836, 837)]
theorem vPl_7_ok : vPl_7.all vP = true := by decide +kernel
def vPl_8 : List cL := [((10, 86, 96, 3), 855, 856, 857), ((10, 90, 98, 1), 862, 863, 864), ((10, 94, 99, 1), 876, 877, 878), ((10, 95, 12, 2), 250, 251, 252), ((10, 98, 100, 2), 880, 881, 882), ((10, 99, 13, 0), 263, 264, 265), ((10, 102, 101, 0), 884, 885, 886), ((10, 103, 22, 2), 267, 268, 269), ((10, 107, 102, 2), 888, 889, 890), ((10, 108, 24, 1), 307, 308, 309), ((10, 111, 103, 1), 892, 893, 894), ((10, 115, 104, 0), 896, 897, 898)]
theorem vPl_8_ok : vPl_8.all vP = true := by decide +kernel
def vPl_9 : List cL := [((10, 118, 105, 1), 943, 944, 945), ((10, 121, 106, 1), 951, 952, 953), ((10, 124, 112, 0), 963, 964, 965), ((10, 127, 113, 0), 987, 988, 989), ((10, 130, 114, 1), 991, 992, 993), ((10, 133, 115, 0), 995, 996, 997), ((10, 134, 60, 0), 316, 317, 318), ((10, 137, 116, 0), 999, 1000, 1001), ((10, 140, 118, 1), 1003, 1004, 1005), ((10, 143, 119, 0), 1011, 1012, 1013)]
theorem vPl_9_ok : vPl_9.all vP = true := by decide +kernel
def vPl : List cL := vPl_0 ++ vPl_1 ++ vPl_2 ++ vPl_3 ++ vPl_4 ++ vPl_5 ++ vPl_6 ++ vPl_7 ++ vPl_8 ++ vPl_9
theorem vPl_ok : vPl.all vP = true := by
  simp only [vPl, List.all_append, vPl_0_ok, vPl_1_ok, vPl_2_ok, vPl_3_ok, vPl_4_ok, vPl_5_ok, vPl_6_ok, vPl_7_ok, vPl_8_ok, vPl_9_ok, Bool.and_self]
theorem vPl_no : vPl.map (fun q => q.1) = MLV := by decide +kernel
