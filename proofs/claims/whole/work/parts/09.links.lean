/-! links: what the numbers in a class's code stand for -/
def mj_on (oc : Nat) : String := [RX0, RX1, RX2, RX3, RX4, RX5, RX6, RX7, RX8, RX9, RX10, RX11, RX12, RJ6, RL].getD oc ""
def mj_atN (i : Nat) (w : Cond) : Bool := decide (lw_tbl[i]? = some w)
theorem mj_atN_mem {i : Nat} {w : Cond} (h : mj_atN i w = true) : w ∈ lw_tbl := List.mem_of_getElem? (of_decide_eq_true h)
def mj_flb (q : Nat × Nat × Nat × Nat × Nat) : Bool := match vwCl[q.2.2.1]? with
  | some r => decide (q.2.2.2.1 < r.2.2) && (decide (q.2.2.1 < 20) && mj_at q.2.2.2.2 (.fieldLink (mj_on q.1) q.2.1 (r.2.1 q.2.2.2.1).1 (r.2.1 q.2.2.2.1).2.1 (r.2.1 q.2.2.2.1).2.2.1))
  | none => false
def mj_mlb (q : Nat × Nat × Nat × Nat × Nat) : Bool := decide (q.2.2.1 < mj_NM) && (match q.2.2.2.1 with
  | 0 => mj_at q.2.2.2.2 (.methodLink (mj_on q.1) q.2.1 (mj_hd q.2.2.1).1)
  | _ => mj_atN q.2.2.2.2 (.methodLinkNest (mj_on q.1) q.2.1 (mj_hd q.2.2.1).1 "StandingLine"))
def mj_slb (q : Nat × Nat × Nat × Nat) : Bool := match q.2.2.1 with
  | 25 => mj_atN q.2.2.2 (.fieldLinkNest (mj_on q.1) q.2.1 "StandingLine" "EAST_BY" "[I" "StandingLine")
  | 26 => mj_atN q.2.2.2 (.fieldLinkNest (mj_on q.1) q.2.1 "StandingLine" "NORTH_BY" "[I" "StandingLine")
  | _ => false
def mj_c1b (q : Nat × Nat × Int × Nat) : Bool := decide (mj_InR q.2.2.1) && mj_at q.2.2.2 (.constant (mj_on q.1) q.2.1 (Int32.ofInt q.2.2.1))
def mj_c2b (q : Nat × Nat × Int × Nat) : Bool := decide (mj_InL q.2.2.1) && mj_at q.2.2.2 (.constantLong (mj_on q.1) q.2.1 (Int64.ofInt q.2.2.1))
def mj_spb (q : Nat × Nat × Nat × Nat) : Bool := match q.2.2.1 with
  | 1000 => mj_at q.2.2.2 (.methodLink (mj_on q.1) q.2.1 arraycopyName)
  | 1001 => mj_at q.2.2.2 (.methodLink (mj_on q.1) q.2.1 Lib.Math.max.name)
  | 1002 => mj_at q.2.2.2 (.methodLink (mj_on q.1) q.2.1 Lib.Math.min.name)
  | 1003 => mj_at q.2.2.2 (.methodLink (mj_on q.1) q.2.1 Lib.Math.abs.name)
  | _ => false
def mj_plb (q : Nat × Nat) : Bool := match vwCl[q.1]? with
  | some r => decide ((r.2.1 q.2).2.2.2 = false) && ((decide ((mj_fi q.1 q.2).1 = 0) && decide (parseFieldDescriptor (r.2.1 q.2).2.2.1 = some .int)) || (decide ((mj_fi q.1 q.2).1 = 1) && decide (parseFieldDescriptor (r.2.1 q.2).2.2.1 = some .boolean)))
  | none => false
def mj_fl : List (Nat × Nat × Nat × Nat × Nat) := [(1, 9, 1, 0, 90), (4, 60, 1, 0, 91), (8, 29, 1, 0, 92), (1, 15, 1, 1, 93), (4, 63, 1, 1, 94), (8, 32, 1, 1, 95), (1, 18, 1, 2, 96), (1, 21, 1, 3, 97), (8, 25, 1, 3, 98), (1, 24, 1, 4, 99), (11, 87, 1, 4, 100), (1, 28, 1, 5, 101), (11, 110, 1, 5, 102), (1, 31, 1, 6, 103), (11, 113, 1, 6, 104), (1, 34, 1, 7, 105), (11, 116, 1, 7, 106), (9, 9, 9, 0, 131), (4, 87, 9, 0, 132), (11, 282, 9, 0, 133), (9, 15, 9, 1, 134), (4, 88, 9, 1, 135), (11, 286, 9, 1, 136), (9, 18, 9, 2, 137), (11, 129, 9, 2, 138), (6, 9, 6, 0, 152), (6, 15, 6, 1, 153), (6, 18, 6, 2, 154), (6, 21, 6, 3, 155), (11, 227, 6, 3, 156), (0, 10, 0, 0, 166), (3, 15, 0, 0, 167), (11, 76, 0, 0, 168), (4, 22, 0, 0, 169), (0, 19, 0, 1, 170), (3, 27, 0, 1, 171), (4, 44, 0, 1, 172), (11, 119, 0, 1, 173), (0, 26, 0, 2, 174), (4, 34, 0, 2, 175), (11, 223, 0, 2, 176), (0, 30, 0, 3, 177), (11, 266, 0, 3, 178), (5, 9, 5, 0, 195), (5, 15, 5, 1, 196), (2, 24, 5, 1, 197), (11, 138, 5, 1, 198), (2, 9, 2, 0, 210), (11, 187, 2, 0, 211), (2, 15, 2, 1, 212), (11, 157, 2, 1, 213), (2, 18, 2, 2, 214), (11, 151, 2, 2, 215), (2, 21, 2, 3, 216), (11, 154, 2, 3, 217), (8, 9, 8, 0, 235), (11, 198, 8, 0, 236), (8, 60, 8, 1, 237), (11, 199, 8, 1, 238), (8, 66, 8, 2, 239), (11, 202, 8, 2, 240), (3, 9, 3, 0, 254), (3, 45, 3, 1, 255), (11, 217, 3, 1, 256), (3, 52, 3, 2, 257), (11, 220, 3, 2, 258), (4, 9, 4, 0, 272), (4, 15, 4, 1, 273), (11, 235, 4, 1, 274), (4, 19, 4, 2, 275), (11, 236, 4, 2, 276), (7, 11, 7, 0, 290), (7, 15, 7, 1, 291), (7, 18, 7, 2, 292), (7, 22, 7, 3, 293), (10, 9, 10, 0, 309), (11, 262, 10, 0, 310), (11, 10, 11, 0, 314), (11, 16, 11, 1, 315), (11, 23, 11, 2, 316), (11, 30, 11, 3, 317), (11, 37, 11, 4, 318), (11, 44, 11, 5, 319), (11, 51, 11, 6, 320), (11, 58, 11, 7, 321), (11, 65, 11, 8, 322), (11, 72, 11, 9, 323), (12, 102, 12, 0, 841), (12, 7, 12, 1, 842), (12, 13, 12, 2, 843), (12, 16, 12, 3, 844), (12, 19, 12, 4, 845), (12, 84, 12, 5, 846), (12, 88, 12, 6, 847), (12, 91, 12, 7, 848), (12, 129, 12, 8, 849), (12, 22, 12, 9, 850), (12, 25, 12, 10, 851), (12, 28, 12, 11, 852), (12, 31, 12, 12, 853), (12, 34, 12, 13, 854), (12, 316, 12, 14, 855), (12, 37, 12, 15, 856), (12, 139, 12, 16, 857), (12, 40, 12, 17, 858), (12, 43, 12, 18, 859), (12, 46, 12, 19, 860), (12, 49, 12, 20, 861), (12, 146, 12, 21, 862), (12, 178, 12, 22, 863), (12, 52, 12, 23, 864), (12, 189, 12, 24, 865), (12, 192, 12, 25, 866), (12, 55, 12, 26, 867), (12, 58, 12, 27, 868), (12, 227, 12, 28, 869), (12, 283, 12, 29, 870), (12, 286, 12, 30, 871), (12, 289, 12, 31, 872), (12, 61, 12, 32, 873), (12, 64, 12, 33, 874), (12, 323, 12, 34, 875), (12, 326, 12, 35, 876), (12, 67, 12, 36, 877), (12, 70, 12, 37, 878), (12, 74, 12, 38, 879), (12, 77, 12, 39, 880), (12, 80, 12, 40, 881), (12, 372, 12, 41, 882), (12, 368, 12, 42, 883)]
set_option maxRecDepth 100000 in
theorem mj_fl_0 : ((mj_fl.drop 0).take 20).all mj_flb = true := by decide +kernel
set_option maxRecDepth 100000 in
theorem mj_fl_1 : ((mj_fl.drop 20).take 20).all mj_flb = true := by decide +kernel
set_option maxRecDepth 100000 in
theorem mj_fl_2 : ((mj_fl.drop 40).take 20).all mj_flb = true := by decide +kernel
set_option maxRecDepth 100000 in
theorem mj_fl_3 : ((mj_fl.drop 60).take 20).all mj_flb = true := by decide +kernel
set_option maxRecDepth 100000 in
theorem mj_fl_4 : ((mj_fl.drop 80).take 20).all mj_flb = true := by decide +kernel
set_option maxRecDepth 100000 in
theorem mj_fl_5 : ((mj_fl.drop 100).take 20).all mj_flb = true := by decide +kernel
set_option maxRecDepth 100000 in
theorem mj_fl_6 : ((mj_fl.drop 120).take 20).all mj_flb = true := by decide +kernel
theorem mj_fl_ok : ∀ q ∈ mj_fl, mj_flb q = true := by
  intro q hq
  obtain ⟨i, hi⟩ := List.mem_iff_getElem?.mp hq
  have hl := (List.getElem?_eq_some_iff.mp hi).1
  have hl : i < 130 := hl
  have key : ∀ (a n : Nat), ((mj_fl.drop a).take n).all mj_flb = true → a ≤ i → i < a + n → mj_flb q = true := fun a n h1 h2 h3 => List.all_eq_true.mp h1 q (List.mem_iff_getElem?.mpr ⟨i - a, by rw [List.getElem?_take, if_pos (by omega), List.getElem?_drop, show a + (i - a) = i by omega]; exact hi⟩)
  rcases Nat.lt_or_ge i 20 with h0 | h0
  · exact key _ _ mj_fl_0 (by omega) (by omega)
  rcases Nat.lt_or_ge i 40 with h20 | h20
  · exact key _ _ mj_fl_1 (by omega) (by omega)
  rcases Nat.lt_or_ge i 60 with h40 | h40
  · exact key _ _ mj_fl_2 (by omega) (by omega)
  rcases Nat.lt_or_ge i 80 with h60 | h60
  · exact key _ _ mj_fl_3 (by omega) (by omega)
  rcases Nat.lt_or_ge i 100 with h80 | h80
  · exact key _ _ mj_fl_4 (by omega) (by omega)
  rcases Nat.lt_or_ge i 120 with h100 | h100
  · exact key _ _ mj_fl_5 (by omega) (by omega)
  rcases Nat.lt_or_ge i 130 with h120 | h120
  · exact key _ _ mj_fl_6 (by omega) (by omega)
  omega
def mj_ml : List (Nat × Nat × Nat × Nat × Nat) := [(14, 13, 72, 0, 345), (11, 79, 104, 0, 349), (11, 83, 105, 0, 352), (11, 91, 3, 0, 355), (1, 43, 2, 0, 359), (11, 94, 8, 0, 363), (11, 98, 9, 0, 367), (1, 47, 11, 0, 371), (14, 18, 73, 0, 375), (11, 102, 10, 0, 379), (14, 23, 74, 0, 383), (11, 106, 6, 0, 387), (14, 28, 75, 0, 391), (11, 123, 68, 0, 395), (11, 132, 199, 0, 399), (14, 33, 76, 0, 405), (11, 137, 67, 0, 409), (14, 37, 77, 0, 413), (11, 141, 48, 0, 417), (14, 41, 78, 0, 421), (14, 46, 79, 0, 425), (11, 144, 50, 0, 429), (5, 19, 51, 0, 433), (5, 23, 52, 0, 436), (5, 31, 104, 1, 439), (5, 27, 53, 0, 440), (14, 50, 80, 0, 443), (11, 148, 102, 0, 447), (11, 183, 1, 0, 451), (11, 292, 33, 0, 458), (2, 29, 35, 0, 462), (2, 37, 49, 0, 466), (2, 41, 13, 0, 470), (2, 46, 36, 0, 474), (2, 61, 3, 0, 477), (2, 65, 10, 0, 478), (2, 50, 37, 0, 479), (2, 69, 12, 0, 482), (1, 51, 104, 1, 486), (2, 54, 53, 0, 487), (2, 57, 38, 0, 488), (2, 73, 14, 0, 492), (1, 61, 105, 1, 500), (1, 65, 8, 0, 501), (2, 77, 17, 0, 502), (1, 73, 16, 0, 506), (2, 33, 34, 0, 510), (14, 54, 81, 0, 513), (11, 160, 2, 0, 517), (11, 163, 7, 0, 518), (14, 58, 82, 0, 522), (11, 167, 23, 0, 526), (1, 91, 18, 0, 530), (1, 94, 24, 0, 534), (1, 76, 19, 0, 538), (1, 79, 20, 0, 542), (1, 98, 26, 0, 546), (14, 62, 83, 0, 549), (11, 170, 21, 0, 553), (11, 173, 27, 0, 557), (1, 102, 28, 0, 561), (1, 105, 29, 0, 565), (1, 108, 30, 0, 569), (1, 111, 31, 0, 573), (1, 114, 32, 0, 577), (1, 118, 200, 0, 581), (14, 66, 84, 0, 584), (11, 176, 106, 0, 588), (11, 179, 69, 0, 591), (9, 28, 67, 0, 595), (9, 32, 23, 0, 596), (14, 70, 85, 0, 597), (14, 74, 86, 0, 601), (11, 190, 64, 0, 605), (8, 15, 2, 0, 609), (8, 21, 65, 0, 610), (8, 35, 24, 0, 614), (8, 39, 18, 0, 615), (8, 43, 25, 0, 616), (8, 52, 8, 0, 622), (8, 56, 11, 0, 623), (8, 63, 107, 1, 624), (11, 194, 63, 0, 627), (14, 78, 87, 0, 631), (11, 205, 22, 0, 635), (1, 82, 21, 0, 639), (11, 208, 15, 0, 641), (1, 69, 14, 0, 645), (11, 211, 16, 0, 646), (14, 82, 88, 0, 647), (14, 86, 89, 0, 651), (11, 214, 39, 0, 655), (3, 21, 5, 0, 659), (3, 31, 69, 0, 663), (3, 37, 40, 0, 664), (3, 55, 1, 0, 667), (3, 59, 10, 0, 668), (3, 41, 41, 0, 669), (3, 49, 42, 0, 673), (14, 90, 90, 0, 677), (11, 230, 55, 0, 681), (14, 94, 91, 0, 685), (14, 98, 92, 0, 689), (11, 232, 43, 0, 693), (4, 28, 1, 0, 697), (4, 38, 56, 0, 698), (6, 31, 23, 0, 702), (4, 48, 45, 0, 703), (4, 84, 67, 0, 707), (4, 89, 23, 0, 708), (4, 52, 3, 0, 709), (4, 56, 44, 0, 710), (4, 72, 105, 1, 715), (4, 76, 8, 0, 716), (4, 80, 11, 0, 717), (14, 102, 93, 0, 718), (11, 239, 47, 0, 722), (4, 96, 46, 0, 726), (11, 243, 46, 0, 733), (14, 106, 94, 0, 734), (11, 246, 103, 0, 738), (14, 110, 95, 0, 745), (11, 252, 58, 0, 750), (7, 25, 59, 0, 754), (7, 28, 57, 0, 758), (7, 38, 60, 0, 762), (7, 42, 61, 0, 766), (7, 52, 105, 1, 772), (11, 255, 62, 0, 773), (7, 56, 23, 0, 777), (14, 115, 96, 0, 778), (11, 258, 70, 0, 782), (10, 16, 13, 0, 787), (10, 21, 71, 0, 788), (10, 25, 14, 0, 792), (10, 29, 17, 0, 793), (14, 119, 97, 0, 794), (11, 263, 0, 0, 798), (0, 34, 1, 0, 802), (0, 38, 66, 0, 803), (0, 41, 54, 0, 808), (14, 123, 98, 0, 813), (14, 127, 99, 0, 817), (11, 270, 5, 0, 821), (11, 273, 4, 0, 822), (11, 276, 100, 0, 826), (11, 279, 101, 0, 830), (11, 289, 107, 0, 834), (14, 17, 116, 0, 973), (12, 105, 112, 0, 977), (12, 96, 108, 0, 981), (12, 109, 111, 0, 984), (12, 113, 113, 0, 988), (12, 117, 115, 0, 992), (14, 22, 118, 0, 996), (12, 121, 117, 0, 1000), (14, 27, 119, 0, 1004), (14, 32, 120, 0, 1010), (12, 132, 109, 0, 1014), (14, 36, 121, 0, 1017), (14, 40, 122, 0, 1021), (14, 45, 123, 0, 1027), (14, 49, 129, 0, 1031), (12, 166, 128, 0, 1035), (12, 156, 126, 0, 1039), (12, 149, 124, 0, 1043), (12, 152, 125, 0, 1048), (12, 159, 127, 0, 1052), (14, 53, 141, 0, 1058), (12, 213, 140, 0, 1062), (12, 203, 137, 0, 1066), (12, 206, 129, 0, 1070), (12, 210, 139, 0, 1071), (12, 195, 133, 0, 1075), (12, 175, 132, 0, 1079), (12, 169, 130, 0, 1083), (12, 172, 131, 0, 1086), (12, 199, 136, 0, 1089), (12, 181, 134, 0, 1093), (12, 185, 135, 0, 1097), (12, 216, 138, 0, 1101), (14, 57, 143, 0, 1105), (12, 221, 142, 0, 1110), (14, 61, 159, 0, 1114), (12, 265, 146, 0, 1118), (12, 230, 114, 0, 1122), (12, 233, 145, 0, 1126), (12, 224, 144, 0, 1130), (12, 262, 152, 0, 1134), (12, 247, 150, 0, 1138), (12, 240, 149, 0, 1142), (12, 244, 148, 0, 1145), (12, 236, 147, 0, 1149), (12, 250, 151, 0, 1152), (14, 65, 160, 0, 1156), (12, 268, 153, 0, 1160), (12, 271, 157, 0, 1164), (12, 256, 156, 0, 1168), (12, 259, 155, 0, 1172), (12, 253, 154, 0, 1176), (14, 69, 161, 0, 1179), (12, 274, 158, 0, 1183), (14, 73, 162, 0, 1187), (14, 77, 165, 0, 1191), (12, 292, 164, 0, 1195), (12, 277, 110, 0, 1199), (12, 280, 163, 0, 1202), (14, 81, 170, 0, 1206), (12, 295, 167, 0, 1210), (12, 298, 169, 0, 1214), (12, 301, 166, 0, 1217), (12, 304, 168, 0, 1221), (14, 85, 171, 0, 1225), (14, 89, 175, 0, 1229), (12, 307, 172, 0, 1233), (12, 310, 173, 0, 1237), (12, 313, 174, 0, 1241), (14, 93, 176, 0, 1245), (14, 97, 177, 0, 1249), (14, 101, 182, 0, 1253), (12, 335, 181, 0, 1257), (12, 329, 179, 0, 1261), (12, 319, 178, 0, 1265), (12, 332, 180, 0, 1269), (14, 105, 184, 0, 1273), (12, 338, 183, 0, 1277), (14, 109, 187, 0, 1281), (12, 344, 186, 0, 1285), (12, 341, 185, 0, 1289), (14, 114, 190, 0, 1293), (12, 351, 189, 0, 1299), (12, 356, 188, 0, 1304), (14, 118, 191, 0, 1307), (14, 122, 195, 0, 1315), (12, 382, 194, 0, 1319), (12, 375, 192, 0, 1323), (12, 378, 193, 0, 1327), (14, 126, 196, 0, 1331), (14, 130, 198, 0, 1335), (12, 391, 197, 0, 1342)]
set_option maxRecDepth 100000 in
theorem mj_ml_0 : ((mj_ml.drop 0).take 20).all mj_mlb = true := by decide +kernel
set_option maxRecDepth 100000 in
theorem mj_ml_1 : ((mj_ml.drop 20).take 20).all mj_mlb = true := by decide +kernel
set_option maxRecDepth 100000 in
theorem mj_ml_2 : ((mj_ml.drop 40).take 20).all mj_mlb = true := by decide +kernel
set_option maxRecDepth 100000 in
theorem mj_ml_3 : ((mj_ml.drop 60).take 20).all mj_mlb = true := by decide +kernel
set_option maxRecDepth 100000 in
theorem mj_ml_4 : ((mj_ml.drop 80).take 20).all mj_mlb = true := by decide +kernel
set_option maxRecDepth 100000 in
theorem mj_ml_5 : ((mj_ml.drop 100).take 20).all mj_mlb = true := by decide +kernel
set_option maxRecDepth 100000 in
theorem mj_ml_6 : ((mj_ml.drop 120).take 20).all mj_mlb = true := by decide +kernel
set_option maxRecDepth 100000 in
theorem mj_ml_7 : ((mj_ml.drop 140).take 20).all mj_mlb = true := by decide +kernel
set_option maxRecDepth 100000 in
theorem mj_ml_8 : ((mj_ml.drop 160).take 20).all mj_mlb = true := by decide +kernel
set_option maxRecDepth 100000 in
theorem mj_ml_9 : ((mj_ml.drop 180).take 20).all mj_mlb = true := by decide +kernel
set_option maxRecDepth 100000 in
theorem mj_ml_10 : ((mj_ml.drop 200).take 20).all mj_mlb = true := by decide +kernel
set_option maxRecDepth 100000 in
theorem mj_ml_11 : ((mj_ml.drop 220).take 20).all mj_mlb = true := by decide +kernel
theorem mj_ml_ok : ∀ q ∈ mj_ml, mj_mlb q = true := by
  intro q hq
  obtain ⟨i, hi⟩ := List.mem_iff_getElem?.mp hq
  have hl := (List.getElem?_eq_some_iff.mp hi).1
  have hl : i < 240 := hl
  have key : ∀ (a n : Nat), ((mj_ml.drop a).take n).all mj_mlb = true → a ≤ i → i < a + n → mj_mlb q = true := fun a n h1 h2 h3 => List.all_eq_true.mp h1 q (List.mem_iff_getElem?.mpr ⟨i - a, by rw [List.getElem?_take, if_pos (by omega), List.getElem?_drop, show a + (i - a) = i by omega]; exact hi⟩)
  rcases Nat.lt_or_ge i 20 with h0 | h0
  · exact key _ _ mj_ml_0 (by omega) (by omega)
  rcases Nat.lt_or_ge i 40 with h20 | h20
  · exact key _ _ mj_ml_1 (by omega) (by omega)
  rcases Nat.lt_or_ge i 60 with h40 | h40
  · exact key _ _ mj_ml_2 (by omega) (by omega)
  rcases Nat.lt_or_ge i 80 with h60 | h60
  · exact key _ _ mj_ml_3 (by omega) (by omega)
  rcases Nat.lt_or_ge i 100 with h80 | h80
  · exact key _ _ mj_ml_4 (by omega) (by omega)
  rcases Nat.lt_or_ge i 120 with h100 | h100
  · exact key _ _ mj_ml_5 (by omega) (by omega)
  rcases Nat.lt_or_ge i 140 with h120 | h120
  · exact key _ _ mj_ml_6 (by omega) (by omega)
  rcases Nat.lt_or_ge i 160 with h140 | h140
  · exact key _ _ mj_ml_7 (by omega) (by omega)
  rcases Nat.lt_or_ge i 180 with h160 | h160
  · exact key _ _ mj_ml_8 (by omega) (by omega)
  rcases Nat.lt_or_ge i 200 with h180 | h180
  · exact key _ _ mj_ml_9 (by omega) (by omega)
  rcases Nat.lt_or_ge i 220 with h200 | h200
  · exact key _ _ mj_ml_10 (by omega) (by omega)
  rcases Nat.lt_or_ge i 240 with h220 | h220
  · exact key _ _ mj_ml_11 (by omega) (by omega)
  omega
def mj_sl : List (Nat × Nat × Nat × Nat) := [(1, 55, 25, 496), (1, 58, 26, 498), (7, 46, 25, 770), (7, 49, 26, 771)]
set_option maxRecDepth 100000 in
theorem mj_sl_0 : ((mj_sl.drop 0).take 20).all mj_slb = true := by decide +kernel
theorem mj_sl_ok : ∀ q ∈ mj_sl, mj_slb q = true := by
  intro q hq
  obtain ⟨i, hi⟩ := List.mem_iff_getElem?.mp hq
  have hl := (List.getElem?_eq_some_iff.mp hi).1
  have hl : i < 4 := hl
  have key : ∀ (a n : Nat), ((mj_sl.drop a).take n).all mj_slb = true → a ≤ i → i < a + n → mj_slb q = true := fun a n h1 h2 h3 => List.all_eq_true.mp h1 q (List.mem_iff_getElem?.mpr ⟨i - a, by rw [List.getElem?_take, if_pos (by omega), List.getElem?_drop, show a + (i - a) = i by omega]; exact hi⟩)
  rcases Nat.lt_or_ge i 4 with h0 | h0
  · exact key _ _ mj_sl_0 (by omega) (by omega)
  omega
def mj_c1l : List (Nat × Nat × Int × Nat) := [(13, 265, 1431655765, 402), (13, 266, 858993459, 403), (13, 267, 252645135, 404), (10, 15, 65537, 786)]
set_option maxRecDepth 100000 in
theorem mj_c1l_0 : ((mj_c1l.drop 0).take 20).all mj_c1b = true := by decide +kernel
theorem mj_c1l_ok : ∀ q ∈ mj_c1l, mj_c1b q = true := by
  intro q hq
  obtain ⟨i, hi⟩ := List.mem_iff_getElem?.mp hq
  have hl := (List.getElem?_eq_some_iff.mp hi).1
  have hl : i < 4 := hl
  have key : ∀ (a n : Nat), ((mj_c1l.drop a).take n).all mj_c1b = true → a ≤ i → i < a + n → mj_c1b q = true := fun a n h1 h2 h3 => List.all_eq_true.mp h1 q (List.mem_iff_getElem?.mpr ⟨i - a, by rw [List.getElem?_take, if_pos (by omega), List.getElem?_drop, show a + (i - a) = i by omega]; exact hi⟩)
  rcases Nat.lt_or_ge i 4 with h0 | h0
  · exact key _ _ mj_c1l_0 (by omega) (by omega)
  omega
def mj_c2l : List (Nat × Nat × Int × Nat) := [(11, 250, (-1000000000000000002), 749), (12, 100, 7, 980), (12, 94, 40, 987), (12, 125, 2, 1008), (12, 127, 99, 1009), (12, 135, 33, 1025), (12, 137, 126, 1026), (12, 142, 65, 1046), (12, 144, 72, 1047), (12, 162, 49, 1056), (12, 164, 57, 1057), (12, 219, 3, 1109), (12, 347, 6, 1297), (12, 349, (-1000000000000000002), 1298), (12, 354, 4, 1303), (12, 360, 9999, 1311), (12, 362, 75, 1312), (12, 364, 74, 1313), (12, 366, 65537, 1314), (12, 385, 100, 1339), (12, 387, 107, 1340), (12, 389, 20, 1341), (12, 394, 10, 1346), (12, 396, 17, 1347)]
set_option maxRecDepth 100000 in
theorem mj_c2l_0 : ((mj_c2l.drop 0).take 20).all mj_c2b = true := by decide +kernel
set_option maxRecDepth 100000 in
theorem mj_c2l_1 : ((mj_c2l.drop 20).take 20).all mj_c2b = true := by decide +kernel
theorem mj_c2l_ok : ∀ q ∈ mj_c2l, mj_c2b q = true := by
  intro q hq
  obtain ⟨i, hi⟩ := List.mem_iff_getElem?.mp hq
  have hl := (List.getElem?_eq_some_iff.mp hi).1
  have hl : i < 24 := hl
  have key : ∀ (a n : Nat), ((mj_c2l.drop a).take n).all mj_c2b = true → a ≤ i → i < a + n → mj_c2b q = true := fun a n h1 h2 h3 => List.all_eq_true.mp h1 q (List.mem_iff_getElem?.mpr ⟨i - a, by rw [List.getElem?_take, if_pos (by omega), List.getElem?_drop, show a + (i - a) = i by omega]; exact hi⟩)
  rcases Nat.lt_or_ge i 20 with h0 | h0
  · exact key _ _ mj_c2l_0 (by omega) (by omega)
  rcases Nat.lt_or_ge i 24 with h20 | h20
  · exact key _ _ mj_c2l_1 (by omega) (by omega)
  omega
def mj_spl : List (Nat × Nat × Nat × Nat) := [(1, 37, 1000, 455), (8, 47, 1003, 619), (1, 86, 1003, 640), (4, 66, 1003, 714), (4, 93, 1001, 730), (11, 295, 1001, 741), (11, 300, 1002, 742), (7, 32, 1000, 761), (9, 22, 1000, 807), (6, 25, 1000, 812)]
set_option maxRecDepth 100000 in
theorem mj_spl_0 : ((mj_spl.drop 0).take 20).all mj_spb = true := by decide +kernel
theorem mj_spl_ok : ∀ q ∈ mj_spl, mj_spb q = true := by
  intro q hq
  obtain ⟨i, hi⟩ := List.mem_iff_getElem?.mp hq
  have hl := (List.getElem?_eq_some_iff.mp hi).1
  have hl : i < 10 := hl
  have key : ∀ (a n : Nat), ((mj_spl.drop a).take n).all mj_spb = true → a ≤ i → i < a + n → mj_spb q = true := fun a n h1 h2 h3 => List.all_eq_true.mp h1 q (List.mem_iff_getElem?.mpr ⟨i - a, by rw [List.getElem?_take, if_pos (by omega), List.getElem?_drop, show a + (i - a) = i by omega]; exact hi⟩)
  rcases Nat.lt_or_ge i 10 with h0 | h0
  · exact key _ _ mj_spl_0 (by omega) (by omega)
  omega
def mj_pl : List (Nat × Nat) := [(0, 3), (1, 4), (1, 5), (1, 6), (1, 7), (2, 0), (2, 1), (2, 2), (2, 3), (3, 1), (3, 2), (4, 1), (4, 2), (5, 1), (6, 3), (7, 2), (7, 3), (8, 0), (8, 1), (8, 2), (9, 2), (10, 0), (12, 0), (12, 5), (12, 6), (12, 7), (12, 8), (12, 14), (12, 16), (12, 21), (12, 22), (12, 24), (12, 25), (12, 28), (12, 29), (12, 30), (12, 31), (12, 34), (12, 35), (12, 41), (12, 42)]
set_option maxRecDepth 100000 in
theorem mj_pl_0 : ((mj_pl.drop 0).take 60).all mj_plb = true := by decide +kernel
theorem mj_pl_ok : ∀ q ∈ mj_pl, mj_plb q = true := by
  intro q hq
  obtain ⟨i, hi⟩ := List.mem_iff_getElem?.mp hq
  have hl := (List.getElem?_eq_some_iff.mp hi).1
  have hl : i < 41 := hl
  have key : ∀ (a n : Nat), ((mj_pl.drop a).take n).all mj_plb = true → a ≤ i → i < a + n → mj_plb q = true := fun a n h1 h2 h3 => List.all_eq_true.mp h1 q (List.mem_iff_getElem?.mpr ⟨i - a, by rw [List.getElem?_take, if_pos (by omega), List.getElem?_drop, show a + (i - a) = i by omega]; exact hi⟩)
  rcases Nat.lt_or_ge i 41 with h0 | h0
  · exact key _ _ mj_pl_0 (by omega) (by omega)
  omega
set_option maxRecDepth 100000 in
theorem mj_spw : (Cond.native arraycopyName ∈ lw_tbl ∧ goodWord (Cond.native arraycopyName) = true) ∧ (Cond.static arraycopyName ∈ lw_tbl ∧ goodWord (Cond.static arraycopyName) = true) ∧ (Cond.initialized "java/lang/System" ∈ lw_tbl ∧ goodWord (Cond.initialized "java/lang/System") = true) ∧ (Cond.initialized "java/lang/Math" ∈ lw_tbl ∧ goodWord (Cond.initialized "java/lang/Math") = true) := by decide +kernel
set_option maxRecDepth 100000 in
theorem mj_spm : (Cond.static Lib.Math.max.name ∈ lw_tbl ∧ goodWord (Cond.static Lib.Math.max.name) = true) ∧ (Cond.code Lib.Math.max.name Lib.Math.max.code 2 (some .int) ∈ lw_tbl ∧ goodWord (Cond.code Lib.Math.max.name Lib.Math.max.code 2 (some .int)) = true) := by decide +kernel
set_option maxRecDepth 100000 in
theorem mj_spn : (Cond.static Lib.Math.min.name ∈ lw_tbl ∧ goodWord (Cond.static Lib.Math.min.name) = true) ∧ (Cond.code Lib.Math.min.name Lib.Math.min.code 2 (some .int) ∈ lw_tbl ∧ goodWord (Cond.code Lib.Math.min.name Lib.Math.min.code 2 (some .int)) = true) := by decide +kernel
set_option maxRecDepth 100000 in
theorem mj_spa : (Cond.static Lib.Math.abs.name ∈ lw_tbl ∧ goodWord (Cond.static Lib.Math.abs.name) = true) ∧ (Cond.code Lib.Math.abs.name Lib.Math.abs.code 1 (some .int) ∈ lw_tbl ∧ goodWord (Cond.code Lib.Math.abs.name Lib.Math.abs.code 1 (some .int)) = true) := by decide +kernel
