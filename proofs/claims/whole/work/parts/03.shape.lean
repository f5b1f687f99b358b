theorem tk_all5 {α : Type} (l : List α) (f : α → Bool) (h0 : ((l.drop 0).take 10).all f = true) (h1 : ((l.drop 10).take 10).all f = true) (h2 : ((l.drop 20).take 10).all f = true) (h3 : ((l.drop 30).take 10).all f = true) (h4 : ((l.drop 40).take 10).all f = true) (hn : l.length ≤ 50) : l.all f = true := by
  have e : l = (l.drop 0).take 10 ++ ((l.drop 10).take 10 ++ ((l.drop 20).take 10 ++ ((l.drop 30).take 10 ++ (l.drop 40).take 10))) := by
    apply List.ext_getElem?
    intro i
    simp only [List.getElem?_append, List.getElem?_take, List.getElem?_drop, List.length_take, List.length_drop]
    grind
  rw [e]
  simp only [List.all_append, h0, h1, h2, h3, h4, Bool.and_self]
theorem tk_inp {L ws : List Cond} (ps : List Nat) (h : ws.map some = ps.map (fun i => L[i]?)) : ∀ w ∈ ws, w ∈ L := by
  intro w hw
  have h1 : some w ∈ ps.map (fun i => L[i]?) := by rw [← h]; exact List.mem_map.mpr ⟨w, hw, rfl⟩
  obtain ⟨i, -, hi⟩ := List.mem_map.mp h1
  exact List.mem_of_getElem? hi
def tkShT : List (Nat × Nat) := [(10, 0), (2, 0), (2, 0), (8, 0), (8, 0), (0, 0), (6, 0), (5, 0), (4, 0), (9, 0), (7, 0), (1, 0), (8, 0), (11, 0), (64, 40), (64, 14), (64, 46), (64, 48), (64, 12), (66, 59), (67, 8), (64, 40), (64, 40), (64, 8), (3, 0), (64, 300), (3, 0), (64, 300), (3, 0), (64, 300), (3, 0), (64, 300), (3, 0), (64, 300), (3, 0), (64, 300), (3, 0), (64, 300), (3, 0), (64, 300), (3, 0), (64, 300), (67, 8), (64, 40), (64, 40), (64, 8), (3, 0), (64, 300), (3, 0), (64, 300), (3, 0), (64, 300), (3, 0), (64, 300), (3, 0), (64, 300), (3, 0), (64, 300), (3, 0), (64, 300), (3, 0), (64, 300), (3, 0), (64, 300), (64, 40), (64, 40), (64, 40), (64, 12), (64, 12), (64, 12), (64, 12), (64, 12), (64, 12), (64, 12), (64, 4096), (64, 4096), (64, 12), (64, 12), (64, 12), (64, 12), (64, 12), (64, 574), (64, 574), (66, 4018), (64, 574), (64, 574), (64, 3245), (64, 8), (64, 8), (64, 8), (65, 8), (64, 8), (64, 40), (64, 40), (64, 2), (64, 18), (64, 18), (64, 18), (65, 18), (64, 18), (64, 5400), (64, 40), (64, 48), (64, 12), (64, 12), (64, 16), (64, 12), (64, 12), (64, 12), (64, 12), (64, 12), (64, 12), (64, 12), (64, 12), (64, 12), (64, 4096), (64, 12), (64, 12), (64, 12), (64, 1000), (64, 1000), (64, 61), (64, 137760), (65, 137760), (65, 137760), (64, 137760), (64, 137760), (64, 50)]
def tkSh (k : Nat) : Nat × Nat := tkShT.getD k (99, 0)
def tkRfT : List (List Nat) := [
  [1, 2, 3, 4, 5, 6, 7, 8, 9, 10],
  [0, 0, 0, 24, 20, 0, 0, 0, 0, 21, 22, 23],
  [0, 0, 0, 46, 42, 0, 0, 0, 0, 43, 44, 45],
  [14],
  [15],
  [17, 18],
  [64, 65, 66, 67],
  [68, 69, 70, 71, 72, 73],
  [74, 75, 76, 77],
  [78, 79, 80],
  [12, 0, 11, 81, 82, 83, 84, 85],
  [86, 19],
  [16],
  [0, 87, 88, 89, 90, 91, 0, 0, 0, 0, 92, 93, 94, 95, 96, 97, 98, 99, 100, 0, 101, 0, 102, 103, 104, 0, 105, 0, 0, 0, 0, 106, 107, 108, 109, 0, 0, 110, 111, 112, 113, 114, 115, 116, 117, 118, 0, 119, 120, 121, 122, 123, 124, 125, 126, 0, 0, 127],
  [],
  [],
  [],
  [],
  [],
  [],
  [26, 28, 30, 32, 34, 36, 38, 40],
  [],
  [],
  [],
  [0, 0, 0, 0, 0, 0, 0, 0, 0, 25],
  [],
  [0, 0, 0, 0, 0, 0, 0, 0, 0, 27],
  [],
  [0, 0, 0, 0, 0, 0, 0, 0, 0, 29],
  [],
  [0, 0, 0, 0, 0, 0, 0, 0, 0, 31],
  [],
  [0, 0, 0, 0, 0, 0, 0, 0, 0, 33],
  [],
  [0, 0, 0, 0, 0, 0, 0, 0, 0, 35],
  [],
  [0, 0, 0, 0, 0, 0, 0, 0, 0, 37],
  [],
  [0, 0, 0, 0, 0, 0, 0, 0, 0, 39],
  [],
  [0, 0, 0, 0, 0, 0, 0, 0, 0, 41],
  [],
  [48, 50, 52, 54, 56, 58, 60, 62],
  [],
  [],
  [],
  [0, 0, 0, 0, 0, 0, 0, 0, 0, 47],
  [],
  [0, 0, 0, 0, 0, 0, 0, 0, 0, 49],
  [],
  [0, 0, 0, 0, 0, 0, 0, 0, 0, 51],
  [],
  [0, 0, 0, 0, 0, 0, 0, 0, 0, 53],
  [],
  [0, 0, 0, 0, 0, 0, 0, 0, 0, 55],
  [],
  [0, 0, 0, 0, 0, 0, 0, 0, 0, 57],
  [],
  [0, 0, 0, 0, 0, 0, 0, 0, 0, 59],
  [],
  [0, 0, 0, 0, 0, 0, 0, 0, 0, 61],
  [],
  [0, 0, 0, 0, 0, 0, 0, 0, 0, 63],
  [],
  [],
  [],
  [],
  [],
  [],
  [],
  [],
  [],
  [],
  [],
  [],
  [],
  [],
  [],
  [],
  [],
  [],
  [],
  [],
  [],
  [],
  [],
  [],
  [],
  [],
  [],
  [],
  [],
  [],
  [],
  [],
  [],
  [],
  [],
  [],
  [],
  [],
  [],
  [],
  [],
  [],
  [],
  [],
  [],
  [],
  [],
  [],
  [],
  [],
  [],
  [],
  [],
  [],
  [],
  [],
  [],
  [],
  [],
  [],
  [],
  [],
  [],
  [],
  []]
def tkRf (a j : Nat) : Nat := (tkRfT.getD a []).getD j 0
def tkFkT : List (List Nat) := [[2, 2, 0], [2, 2, 0, 0], [0, 0, 0, 2, 2, 0, 0, 0, 0, 2, 2, 2], [0, 0, 0, 1, 0, 0, 0, 1, 0, 2, 0], [2, 2, 2, 2, 0, 0, 0, 0, 0, 0], [2, 2, 2, 2, 2, 2, 0, 0], [2, 2, 2, 2, 0, 0, 0, 0], [2, 0, 2, 2, 2, 2, 2, 2, 0, 0, 0], [2, 0, 0], [2, 2, 2], [2, 2, 2, 2, 2, 2, 2, 2, 2, 2, 1], [0, 2, 2, 2, 2, 2, 0, 0, 0, 0, 2, 2, 2, 2, 2, 2, 2, 2, 2, 0, 2, 0, 2, 2, 2, 1, 2, 0, 0, 0, 0, 2, 2, 2, 2, 0, 0, 2, 2, 2, 2, 2, 2, 2, 2, 2, 0, 2, 2, 2, 2, 2, 2, 2, 2, 0, 0, 2, 0, 1, 0]]
def tkFk (c : Nat) : List Nat := tkFkT.getD c []
def tkCn (c : Nat) : String := match c with
  | 0 => RX0
  | 1 => RX1
  | 2 => RX2
  | 3 => RX3
  | 4 => RX4
  | 5 => RX5
  | 6 => RX6
  | 7 => RX7
  | 8 => RX8
  | 9 => RX9
  | 10 => RX10
  | 11 => RX11
  | 12 => "TickerHouseLaw"
  | 13 => "java/lang/Math"
  | 14 => "java/util/Arrays"
  | _ => "java/lang/Integer"
/-- own, pool index, field, place of its word -/
def tkFl : List (Nat × Nat × Nat × Nat) := [(3, 19, 192, 119), (2, 49, 192, 120), (3, 23, 193, 121), (2, 52, 193, 122), (3, 26, 194, 123), (2, 55, 194, 124), (3, 9, 195, 125), (10, 97, 195, 126), (2, 76, 195, 127), (3, 29, 196, 128), (2, 112, 196, 129), (3, 32, 197, 130), (2, 103, 197, 131), (3, 35, 198, 132), (2, 121, 198, 133), (3, 38, 199, 134), (2, 96, 199, 135), (3, 41, 200, 136), (2, 84, 200, 137), (3, 15, 201, 138), (3, 44, 202, 139), (10, 167, 202, 140), (2, 142, 202, 141), (2, 9, 128, 167), (10, 102, 128, 168), (2, 15, 129, 169), (10, 105, 129, 170), (2, 18, 130, 171), (10, 108, 130, 172), (2, 24, 131, 173), (10, 160, 131, 174), (2, 28, 132, 175), (10, 93, 132, 176), (2, 42, 133, 177), (10, 81, 133, 178), (10, 124, 134, 179), (2, 87, 134, 180), (10, 112, 135, 181), (2, 65, 135, 182), (2, 62, 136, 183), (2, 32, 137, 184), (2, 36, 138, 185), (2, 39, 139, 186), (8, 15, 512, 221), (8, 21, 513, 222), (6, 52, 513, 223), (7, 69, 513, 224), (2, 127, 513, 225), (10, 179, 513, 226), (7, 54, 514, 227), (8, 29, 514, 228), (0, 9, 0, 245), (0, 15, 1, 246), (6, 24, 1, 247), (10, 203, 1, 248), (1, 23, 2, 249), (0, 24, 2, 250), (7, 57, 2, 251), (10, 198, 2, 252), (6, 9, 384, 266), (10, 229, 384, 267), (6, 15, 385, 268), (10, 232, 385, 269), (6, 18, 386, 270), (10, 235, 386, 271), (6, 21, 387, 272), (10, 238, 387, 273), (6, 35, 388, 274), (10, 222, 388, 275), (6, 42, 389, 276), (10, 223, 389, 277), (6, 45, 390, 278), (10, 226, 390, 279), (6, 39, 391, 280), (5, 9, 320, 304), (9, 31, 320, 305), (4, 82, 320, 306), (10, 290, 320, 307), (5, 15, 321, 308), (4, 90, 321, 309), (5, 18, 322, 310), (9, 43, 322, 311), (5, 21, 323, 312), (9, 46, 323, 313), (5, 24, 324, 314), (5, 27, 325, 315), (5, 30, 326, 316), (9, 25, 326, 317), (4, 39, 326, 318), (10, 247, 326, 319), (4, 31, 327, 320), (5, 34, 327, 321), (4, 9, 256, 345), (4, 15, 257, 346), (4, 18, 258, 347), (4, 21, 259, 348), (10, 273, 259, 349), (4, 63, 260, 350), (10, 264, 260, 351), (4, 73, 261, 352), (10, 267, 261, 353), (4, 100, 262, 354), (10, 270, 262, 355), (4, 24, 263, 356), (4, 28, 264, 357), (4, 36, 265, 358), (9, 9, 576, 386), (9, 15, 577, 387), (10, 287, 577, 388), (9, 18, 578, 389), (1, 11, 64, 411), (1, 15, 65, 412), (1, 19, 66, 413), (1, 34, 67, 414), (7, 16, 448, 425), (10, 306, 448, 426), (7, 20, 449, 427), (10, 303, 449, 428), (7, 27, 450, 429), (7, 31, 451, 430), (7, 35, 452, 431), (7, 38, 453, 432), (7, 42, 454, 433), (7, 45, 455, 434), (7, 70, 456, 435), (7, 48, 457, 436), (7, 51, 458, 437), (10, 12, 640, 461), (10, 16, 641, 462), (10, 24, 642, 463), (10, 28, 643, 464), (10, 34, 644, 465), (10, 41, 645, 466), (10, 48, 646, 467), (10, 55, 647, 468), (10, 62, 648, 469), (10, 69, 649, 470), (10, 73, 650, 471), (11, 153, 704, 1151), (11, 7, 705, 1152), (11, 13, 706, 1153), (11, 16, 707, 1154), (11, 19, 708, 1155), (11, 23, 709, 1156), (11, 26, 710, 1157), (11, 30, 711, 1158), (11, 33, 712, 1159), (11, 168, 713, 1160), (11, 36, 714, 1161), (11, 39, 715, 1162), (11, 42, 716, 1163), (11, 45, 717, 1164), (11, 48, 718, 1165), (11, 51, 719, 1166), (11, 54, 720, 1167), (11, 57, 721, 1168), (11, 60, 722, 1169), (11, 227, 723, 1170), (11, 63, 724, 1171), (11, 236, 725, 1172), (11, 66, 726, 1173), (11, 69, 727, 1174), (11, 72, 728, 1175), (11, 239, 729, 1176), (11, 75, 730, 1177), (11, 245, 731, 1178), (11, 273, 732, 1179), (11, 276, 733, 1180), (11, 292, 734, 1181), (11, 78, 735, 1182), (11, 81, 736, 1183), (11, 84, 737, 1184), (11, 87, 738, 1185), (11, 266, 739, 1186), (11, 301, 740, 1187), (11, 90, 741, 1188), (11, 93, 742, 1189), (11, 96, 743, 1190), (11, 99, 744, 1191), (11, 102, 745, 1192), (11, 105, 746, 1193), (11, 108, 747, 1194), (11, 111, 748, 1195), (11, 114, 749, 1196), (11, 324, 750, 1197), (11, 117, 751, 1198), (11, 120, 752, 1199), (11, 123, 753, 1200), (11, 127, 754, 1201), (11, 130, 755, 1202), (11, 133, 756, 1203), (11, 136, 757, 1204), (11, 139, 758, 1205), (11, 340, 759, 1206), (11, 362, 760, 1207), (11, 142, 761, 1208), (11, 356, 762, 1209), (11, 230, 763, 1210), (11, 347, 764, 1211)]
def tkLc : List (Nat × Nat × Int × Nat) := [(10, 111, 100000, 522), (10, 123, -100000, 539), (10, 127, 100001, 544), (10, 325, 79999, 737), (4, 56, 1000000, 885), (15, 265, 1431655765, 899), (15, 266, 858993459, 900), (15, 267, 252645135, 901), (11, 126, 137760, 1150), (11, 175, -100000, 1373), (11, 190, 100001, 1379)]
def tkLl : List (Nat × Nat × Nat × Nat) := [(10, 311, 263, 1120), (10, 313, 31, 1121), (3, 66, 31, 1127), (8, 43, 31, 1133), (0, 50, 31, 1138), (5, 37, 31, 1143), (11, 145, 1000, 1340), (11, 151, 20, 1344), (11, 160, 2000, 1357), (11, 162, 200, 1358), (11, 164, 50, 1359), (11, 166, 100000, 1364), (11, 188, 2, 1378), (11, 200, 54, 1399), (11, 219, 6, 1434), (11, 234, 26, 1479), (11, 254, 79999, 1500), (11, 256, 999, 1501), (11, 269, 27, 1538), (11, 271, 36, 1539), (11, 288, 37, 1540), (11, 290, 43, 1541), (11, 319, 3000, 1593), (11, 377, 7, 1673), (11, 381, 263, 1678), (11, 379, 31, 1679)]
/-- own, pool index, method (999: System.arraycopy), by nest or not, place of its word -/
def tkMl : List (Nat × Nat × Nat × Nat × Nat) := [(8, 9, 231, 0, 218), (0, 18, 235, 0, 242), (12, 13, 95, 0, 495), (10, 77, 133, 0, 499), (10, 85, 20, 0, 502), (12, 18, 96, 0, 506), (10, 89, 17, 0, 510), (12, 23, 97, 0, 514), (12, 27, 98, 0, 518), (10, 115, 21, 0, 523), (2, 58, 22, 0, 527), (12, 32, 99, 0, 531), (10, 119, 23, 0, 535), (12, 37, 100, 0, 540), (10, 128, 24, 0, 545), (2, 68, 25, 0, 549), (2, 90, 235, 0, 553), (2, 72, 37, 0, 554), (3, 47, 144, 1, 558), (3, 51, 38, 0, 561), (3, 55, 39, 0, 565), (2, 80, 23, 0, 569), (12, 41, 101, 0, 570), (10, 132, 33, 0, 574), (2, 149, 35, 0, 578), (10, 136, 26, 0, 582), (2, 99, 142, 1, 586), (2, 106, 24, 0, 589), (2, 109, 143, 1, 590), (10, 345, 142, 0, 593), (2, 115, 230, 0, 594), (2, 124, 232, 0, 597), (12, 45, 102, 0, 600), (10, 139, 27, 0, 604), (10, 142, 29, 0, 608), (12, 50, 103, 0, 612), (10, 146, 18, 0, 616), (2, 45, 17, 0, 620), (10, 149, 19, 0, 621), (10, 153, 42, 0, 625), (12, 54, 104, 0, 629), (10, 157, 40, 0, 633), (12, 58, 105, 0, 637), (10, 164, 41, 0, 641), (3, 58, 232, 0, 645), (3, 63, 231, 0, 646), (12, 62, 106, 0, 647), (10, 170, 31, 0, 651), (12, 66, 107, 0, 655), (10, 173, 81, 0, 659), (10, 176, 82, 0, 663), (8, 25, 81, 0, 667), (12, 70, 108, 0, 668), (12, 74, 109, 0, 672), (10, 180, 84, 0, 676), (12, 78, 110, 0, 680), (10, 183, 85, 0, 684), (12, 82, 111, 0, 688), (10, 186, 28, 0, 692), (2, 130, 85, 0, 696), (2, 133, 26, 0, 697), (2, 136, 27, 0, 698), (12, 86, 112, 0, 699), (10, 190, 135, 0, 703), (10, 326, 139, 0, 706), (10, 194, 3, 0, 709), (10, 199, 2, 0, 713), (12, 91, 113, 0, 717), (12, 96, 114, 0, 721), (10, 202, 0, 0, 725), (12, 100, 115, 0, 729), (10, 207, 134, 0, 733), (10, 210, 6, 0, 738), (0, 28, 0, 0, 742), (10, 214, 136, 0, 743), (10, 329, 5, 0, 747), (0, 42, 1, 0, 751), (0, 46, 82, 0, 755), (10, 333, 83, 0, 756), (8, 32, 82, 0, 760), (10, 336, 137, 0, 761), (12, 104, 116, 0, 764), (10, 218, 56, 0, 768), (6, 29, 999, 0, 772), (6, 48, 57, 0, 775), (6, 59, 85, 0, 779), (6, 55, 58, 0, 780), (6, 62, 59, 0, 784), (6, 85, 139, 1, 788), (6, 78, 62, 0, 789), (6, 92, 63, 0, 793), (6, 88, 4, 0, 797), (0, 32, 85, 0, 801), (0, 38, 3, 0, 802), (6, 66, 60, 0, 803), (6, 96, 86, 0, 807), (8, 36, 85, 0, 811), (8, 40, 140, 1, 812), (6, 99, 87, 0, 815), (6, 70, 141, 1, 819), (6, 74, 61, 0, 822), (6, 81, 64, 0, 826), (12, 108, 117, 0, 830), (12, 112, 118, 0, 834), (10, 241, 999, 0, 838), (12, 116, 119, 0, 839), (10, 248, 34, 0, 843), (2, 159, 36, 0, 847), (2, 162, 28, 0, 851), (10, 252, 52, 0, 852), (12, 121, 120, 0, 856), (10, 256, 53, 0, 860), (12, 125, 121, 0, 864), (10, 257, 54, 0, 868), (12, 129, 122, 0, 872), (10, 260, 44, 0, 876), (4, 42, 54, 0, 880), (4, 45, 45, 0, 881), (4, 57, 236, 0, 886), (14, 13, 233, 0, 889), (4, 66, 46, 0, 892), (4, 76, 229, 0, 896), (4, 70, 47, 0, 902), (4, 85, 231, 0, 906), (4, 49, 48, 0, 907), (4, 93, 49, 0, 911), (4, 97, 232, 0, 915), (4, 53, 50, 0, 916), (4, 103, 51, 0, 920), (12, 133, 123, 0, 924), (12, 137, 124, 0, 928), (10, 276, 89, 0, 932), (9, 21, 90, 0, 936), (9, 34, 231, 0, 940), (9, 40, 54, 0, 941), (10, 280, 92, 0, 942), (10, 284, 91, 0, 946), (12, 141, 125, 0, 950), (10, 293, 93, 0, 954), (10, 297, 94, 0, 958), (12, 145, 126, 0, 962), (10, 300, 65, 0, 966), (7, 62, 8, 0, 970), (1, 28, 235, 0, 974), (1, 37, 9, 0, 975), (1, 51, 1, 0, 979), (1, 55, 14, 0, 980), (1, 62, 133, 1, 984), (1, 58, 12, 0, 985), (1, 41, 10, 0, 989), (1, 44, 11, 0, 993), (1, 47, 13, 0, 997), (7, 66, 84, 0, 1001), (7, 73, 66, 0, 1002), (7, 87, 85, 0, 1006), (7, 91, 142, 1, 1007), (7, 94, 143, 1, 1008), (7, 97, 67, 0, 1009), (7, 100, 144, 1, 1012), (7, 77, 68, 0, 1013), (7, 104, 234, 0, 1017), (7, 110, 69, 0, 1020), (7, 118, 15, 0, 1024), (7, 114, 70, 0, 1028), (7, 122, 16, 0, 1032), (7, 80, 71, 0, 1036), (7, 126, 72, 0, 1040), (7, 84, 73, 0, 1044), (7, 130, 235, 0, 1048), (7, 133, 74, 0, 1049), (7, 153, 75, 0, 1053), (7, 136, 76, 0, 1057), (7, 140, 77, 0, 1061), (7, 143, 14, 0, 1065), (7, 157, 78, 0, 1066), (7, 161, 79, 0, 1070), (7, 146, 80, 0, 1074), (7, 164, 231, 0, 1078), (7, 169, 999, 0, 1079), (7, 150, 82, 0, 1080), (12, 149, 127, 0, 1081), (12, 153, 128, 0, 1085), (12, 157, 129, 0, 1089), (10, 308, 138, 0, 1093), (10, 339, 32, 0, 1097), (2, 145, 33, 0, 1101), (2, 153, 999, 0, 1102), (10, 342, 30, 0, 1103), (2, 139, 41, 0, 1107), (12, 161, 130, 0, 1108), (12, 165, 131, 0, 1112), (12, 169, 132, 0, 1116), (10, 315, 131, 0, 1122), (10, 318, 43, 0, 1123), (3, 68, 42, 0, 1128), (10, 322, 88, 0, 1129), (10, 323, 7, 0, 1134), (10, 324, 55, 0, 1139), (12, 17, 149, 0, 1336), (11, 147, 145, 0, 1341), (12, 22, 151, 0, 1345), (11, 156, 150, 0, 1349), (12, 26, 152, 0, 1353), (12, 31, 153, 0, 1360), (12, 36, 155, 0, 1365), (11, 171, 154, 0, 1369), (12, 40, 160, 0, 1374), (11, 191, 158, 0, 1380), (11, 180, 156, 0, 1384), (11, 184, 157, 0, 1388), (11, 176, 148, 0, 1392), (12, 44, 164, 0, 1395), (11, 202, 159, 0, 1400), (11, 205, 161, 0, 1404), (11, 194, 147, 0, 1408), (11, 197, 146, 0, 1411), (11, 208, 163, 0, 1414), (12, 49, 165, 0, 1418), (11, 212, 162, 0, 1422), (12, 53, 168, 0, 1426), (11, 216, 166, 0, 1430), (11, 221, 167, 0, 1435), (12, 57, 169, 0, 1439), (12, 61, 171, 0, 1443), (11, 224, 170, 0, 1447), (12, 65, 172, 0, 1451), (12, 69, 173, 0, 1455), (12, 73, 174, 0, 1459), (12, 77, 175, 0, 1463), (12, 81, 176, 0, 1467), (12, 85, 177, 0, 1471), (12, 90, 178, 0, 1475), (12, 95, 179, 0, 1480), (12, 99, 181, 0, 1484), (11, 242, 180, 0, 1488), (12, 103, 186, 0, 1492), (11, 258, 185, 0, 1496), (11, 262, 184, 0, 1502), (11, 248, 182, 0, 1506), (11, 251, 183, 0, 1510), (12, 107, 192, 0, 1514), (11, 298, 191, 0, 1518), (11, 295, 190, 0, 1522), (11, 279, 188, 0, 1526), (11, 282, 189, 0, 1530), (11, 285, 187, 0, 1534), (12, 111, 193, 0, 1542), (12, 115, 194, 0, 1546), (12, 120, 195, 0, 1550), (12, 124, 196, 0, 1554), (12, 128, 198, 0, 1558), (11, 304, 197, 0, 1562), (12, 132, 203, 0, 1566), (11, 316, 202, 0, 1570), (11, 310, 199, 0, 1574), (11, 307, 200, 0, 1578), (11, 313, 201, 0, 1582), (12, 136, 204, 0, 1585), (12, 140, 206, 0, 1589), (11, 321, 205, 0, 1594), (12, 144, 207, 0, 1598), (12, 148, 219, 0, 1602), (11, 371, 215, 0, 1606), (11, 343, 216, 0, 1610), (11, 350, 210, 0, 1614), (11, 327, 208, 0, 1618), (11, 330, 209, 0, 1622), (11, 353, 213, 0, 1626), (11, 333, 212, 0, 1630), (11, 337, 211, 0, 1634), (11, 359, 214, 0, 1637), (11, 365, 217, 0, 1641), (11, 368, 218, 0, 1645), (12, 152, 220, 0, 1649), (12, 156, 221, 0, 1653), (12, 160, 223, 0, 1657), (11, 374, 222, 0, 1661), (12, 164, 224, 0, 1665), (12, 168, 225, 0, 1669), (12, 173, 228, 0, 1674), (11, 383, 225, 0, 1680), (11, 386, 226, 0, 1681), (11, 390, 227, 0, 1685)]
/-- a method: name, bytes, locals, return, own, static, arguments (with this); places of its words -/
abbrev tkMd : Type := (MethodName × Nat × Option FieldType) × (Nat × Bool × Nat) × (Nat × Nat × Nat × Nat)
def tkMt_0 : List tkMd := [
  ((⟨"TickerHouse$Firms", "has", "(I)Z"⟩, 2, some FieldType.boolean), (0, false, 2), (728, 88, 726, 727)), -- 0 X0_has
  ((⟨"TickerHouse$Firms", "letter", "(II)I"⟩, 3, some FieldType.int), (0, false, 3), (754, 88, 752, 753)), -- 1 X0_letter
  ((⟨"TickerHouse$Firms", "found", "(IIII)I"⟩, 6, some FieldType.int), (0, false, 5), (716, 88, 714, 715)), -- 2 X0_found
  ((⟨"TickerHouse$Firms", "numberOf", "(IIII)I"⟩, 7, some FieldType.int), (0, false, 5), (712, 88, 710, 711)), -- 3 X0_numberOf
  ((⟨"TickerHouse$Firms", "spelled", "(LTickerHouse$Row;II)I"⟩, 5, some FieldType.int), (0, false, 4), (800, 88, 798, 799)), -- 4 X0_spelled
  ((⟨"TickerHouse$Firms", "putCode", "(ILTickerHouse$Row;)V"⟩, 4, none), (0, false, 3), (750, 88, 748, 749)), -- 5 X0_putCode
  ((⟨"TickerHouse$Firms", "lastHasHundredsOf", "(II)Z"⟩, 3, some FieldType.boolean), (0, false, 3), (741, 88, 739, 740)), -- 6 X0_lastHasHundredsOf
  ((⟨"TickerHouse$Firms", "mixInto", "(J)J"⟩, 7, some FieldType.long), (0, false, 2), (1137, 88, 1135, 1136)), -- 7 X0_mixInto
  ((⟨"TickerHouse$Grammar", "learn", "(LTickerHouse$Firms;)V"⟩, 3, none), (1, false, 2), (973, 95, 971, 972)), -- 8 X1_learn
  ((⟨"TickerHouse$Grammar", "learnCode", "(LTickerHouse$Firms;I)V"⟩, 6, none), (1, false, 3), (978, 95, 977, 22)), -- 9 X1_learnCode
  ((⟨"TickerHouse$Grammar", "learnPrices", "()V"⟩, 2, none), (1, false, 1), (992, 95, 991, 24)), -- 10 X1_learnPrices
  ((⟨"TickerHouse$Grammar", "learnShares", "()V"⟩, 2, none), (1, false, 1), (996, 95, 995, 25)), -- 11 X1_learnShares
  ((⟨"TickerHouse$Grammar", "allow", "(IIII)V"⟩, 6, none), (1, false, 5), (988, 95, 987, 23)), -- 12 X1_allow
  ((⟨"TickerHouse$Grammar", "setBehind", "(I)J"⟩, 6, some FieldType.long), (1, false, 2), (1000, 95, 999, 26)), -- 13 X1_setBehind
  ((⟨"TickerHouse$Grammar", "after", "(II)I"⟩, 3, some FieldType.int), (1, false, 3), (983, 95, 981, 982)), -- 14 X1_after
  ((⟨"TickerHouse$Grammar", "ahead", "(IJ)J"⟩, 8, some FieldType.long), (1, false, 3), (1027, 95, 1025, 1026)), -- 15 X1_ahead
  ((⟨"TickerHouse$Grammar", "aheadByAny", "(J)J"⟩, 6, some FieldType.long), (1, false, 2), (1035, 95, 1033, 1034)), -- 16 X1_aheadByAny
  ((⟨"TickerHouse$Line", "has", "(I)Z"⟩, 2, some FieldType.boolean), (2, false, 2), (513, 84, 511, 512)), -- 17 X2_has
  ((⟨"TickerHouse$Line", "hasOrSender", "(I)Z"⟩, 2, some FieldType.boolean), (2, false, 2), (619, 84, 617, 618)), -- 18 X2_hasOrSender
  ((⟨"TickerHouse$Line", "machineOrSender", "(I)LTickerHouse$Machine;"⟩, 2, some (FieldType.object "TickerHouse$Machine")), (2, false, 2), (624, 84, 622, 623)), -- 19 X2_machineOrSender
  ((⟨"TickerHouse$Line", "join", "(III)I"⟩, 5, some FieldType.int), (2, false, 4), (505, 84, 503, 504)), -- 20 X2_join
  ((⟨"TickerHouse$Line", "tellSlip", "(II)I"⟩, 3, some FieldType.int), (2, false, 3), (526, 84, 524, 525)), -- 21 X2_tellSlip
  ((⟨"TickerHouse$Line", "holdsSlip", "(II)Z"⟩, 4, some FieldType.boolean), (2, false, 3), (530, 84, 529, 0)), -- 22 X2_holdsSlip
  ((⟨"TickerHouse$Line", "strengthOver", "(LTickerHouse$Machine;)I"⟩, 2, some FieldType.int), (2, false, 2), (538, 84, 536, 537)), -- 23 X2_strengthOver
  ((⟨"TickerHouse$Line", "give", "(II)V"⟩, 6, none), (2, false, 3), (548, 84, 546, 547)), -- 24 X2_give
  ((⟨"TickerHouse$Line", "countLost", "(I)V"⟩, 3, none), (2, false, 2), (552, 84, 551, 1)), -- 25 X2_countLost
  ((⟨"TickerHouse$Line", "carry", "(I)V"⟩, 4, none), (2, false, 2), (585, 84, 583, 584)), -- 26 X2_carry
  ((⟨"TickerHouse$Line", "bringTogether", "()V"⟩, 1, none), (2, false, 1), (607, 84, 605, 606)), -- 27 X2_bringTogether
  ((⟨"TickerHouse$Line", "carryRow", "(LTickerHouse$Row;I)V"⟩, 4, none), (2, false, 3), (695, 84, 693, 694)), -- 28 X2_carryRow
  ((⟨"TickerHouse$Line", "howManyStandAsSender", "()I"⟩, 4, some FieldType.int), (2, false, 1), (611, 84, 609, 610)), -- 29 X2_howManyStandAsSender
  ((⟨"TickerHouse$Line", "wrongOnLiving", "()I"⟩, 3, some FieldType.int), (2, false, 1), (1106, 84, 1104, 1105)), -- 30 X2_wrongOnLiving
  ((⟨"TickerHouse$Line", "tearAll", "()V"⟩, 2, none), (2, false, 1), (654, 84, 652, 653)), -- 31 X2_tearAll
  ((⟨"TickerHouse$Line", "standAs", "(LTickerHouse$Line;)V"⟩, 3, none), (2, false, 2), (1100, 84, 1098, 1099)), -- 32 X2_standAs
  ((⟨"TickerHouse$Line", "standAsSenderOf", "(LTickerHouse$Line;)V"⟩, 2, none), (2, false, 2), (577, 84, 575, 576)), -- 33 X2_standAsSenderOf
  ((⟨"TickerHouse$Line", "pulsesFromRestTo", "(LTickerHouse$Row;)I"⟩, 2, some FieldType.int), (2, false, 2), (846, 84, 844, 845)), -- 34 X2_pulsesFromRestTo
  ((⟨"TickerHouse$Machine", "standAs", "(LTickerHouse$Machine;)V"⟩, 2, none), (3, false, 2), (581, 85, 579, 580)), -- 35 X3_standAs
  ((⟨"TickerHouse$Machine", "rest", "()V"⟩, 1, none), (3, false, 1), (850, 85, 848, 849)), -- 36 X3_rest
  ((⟨"TickerHouse$Machine", "receive", "(II)V"⟩, 3, none), (3, false, 3), (557, 85, 555, 556)), -- 37 X3_receive
  ((⟨"TickerHouse$Machine", "keepOnRibbon", "(I)V"⟩, 2, none), (3, false, 2), (564, 85, 563, 2)), -- 38 X3_keepOnRibbon
  ((⟨"TickerHouse$Machine", "advance", "(I)V"⟩, 2, none), (3, false, 2), (568, 85, 567, 3)), -- 39 X3_advance
  ((⟨"TickerHouse$Machine", "printedAt", "(I)I"⟩, 2, some FieldType.int), (3, false, 2), (636, 85, 634, 635)), -- 40 X3_printedAt
  ((⟨"TickerHouse$Machine", "wrongAgainst", "(LTickerHouse$Machine;)I"⟩, 5, some FieldType.int), (3, false, 2), (644, 85, 642, 643)), -- 41 X3_wrongAgainst
  ((⟨"TickerHouse$Machine", "tell", "(I)I"⟩, 2, some FieldType.int), (3, false, 2), (628, 85, 626, 627)), -- 42 X3_tell
  ((⟨"TickerHouse$Machine", "mixInto", "(J)J"⟩, 6, some FieldType.long), (3, false, 2), (1126, 85, 1124, 1125)), -- 43 X3_mixInto
  ((⟨"TickerHouse$Plan", "make", "(LTickerHouse$Queue;II)V"⟩, 5, none), (4, false, 4), (879, 92, 877, 878)), -- 44 X4_make
  ((⟨"TickerHouse$Plan", "findBest", "(LTickerHouse$Queue;I)V"⟩, 5, none), (4, false, 3), (884, 92, 883, 14)), -- 45 X4_findBest
  ((⟨"TickerHouse$Plan", "isBetter", "(I)Z"⟩, 3, some FieldType.boolean), (4, false, 2), (895, 92, 894, 15)), -- 46 X4_isBetter
  ((⟨"TickerHouse$Plan", "extend", "(LTickerHouse$Queue;I)V"⟩, 6, none), (4, false, 3), (905, 92, 904, 16)), -- 47 X4_extend
  ((⟨"TickerHouse$Plan", "findLatest", "(LTickerHouse$Queue;)V"⟩, 3, none), (4, false, 2), (910, 92, 909, 17)), -- 48 X4_findLatest
  ((⟨"TickerHouse$Plan", "latestStart", "(LTickerHouse$Queue;I)I"⟩, 7, some FieldType.int), (4, false, 3), (914, 92, 913, 18))] -- 49 X4_latestStart
def tkMt_1 : List tkMd := [
  ((⟨"TickerHouse$Plan", "findOrder", "(LTickerHouse$Queue;I)V"⟩, 7, none), (4, false, 3), (919, 92, 918, 19)), -- 50 X4_findOrder
  ((⟨"TickerHouse$Plan", "firstThatFits", "(LTickerHouse$Queue;II)I"⟩, 7, some FieldType.int), (4, false, 4), (923, 92, 922, 20)), -- 51 X4_firstThatFits
  ((⟨"TickerHouse$Queue", "append", "(IIIIII)I"⟩, 7, some FieldType.int), (5, false, 7), (855, 91, 853, 854)), -- 52 X5_append
  ((⟨"TickerHouse$Queue", "makeEmpty", "()V"⟩, 1, none), (5, false, 1), (863, 91, 861, 862)), -- 53 X5_makeEmpty
  ((⟨"TickerHouse$Queue", "duration", "(II)I"⟩, 4, some FieldType.int), (5, false, 3), (871, 91, 869, 870)), -- 54 X5_duration
  ((⟨"TickerHouse$Queue", "mixInto", "(J)J"⟩, 6, some FieldType.long), (5, false, 2), (1142, 91, 1140, 1141)), -- 55 X5_mixInto
  ((⟨"TickerHouse$Reading", "readRow", "(LTickerHouse$Row;LTickerHouse$Firms;)V"⟩, 4, none), (6, false, 3), (771, 90, 769, 770)), -- 56 X6_readRow
  ((⟨"TickerHouse$Reading", "passBlanks", "(LTickerHouse$Row;)V"⟩, 2, none), (6, false, 2), (778, 90, 777, 6)), -- 57 X6_passBlanks
  ((⟨"TickerHouse$Reading", "readQuote", "(LTickerHouse$Row;LTickerHouse$Firms;)Z"⟩, 7, some FieldType.boolean), (6, false, 3), (783, 90, 782, 7)), -- 58 X6_readQuote
  ((⟨"TickerHouse$Reading", "readCode", "(LTickerHouse$Row;LTickerHouse$Firms;)I"⟩, 5, some FieldType.int), (6, false, 3), (787, 90, 786, 8)), -- 59 X6_readCode
  ((⟨"TickerHouse$Reading", "readDollars", "(LTickerHouse$Row;I)I"⟩, 6, some FieldType.int), (6, false, 3), (806, 90, 805, 11)), -- 60 X6_readDollars
  ((⟨"TickerHouse$Reading", "readShares", "(LTickerHouse$Row;)I"⟩, 4, some FieldType.int), (6, false, 2), (825, 90, 824, 12)), -- 61 X6_readShares
  ((⟨"TickerHouse$Reading", "faultHere", "(LTickerHouse$Row;)I"⟩, 2, some FieldType.int), (6, false, 2), (792, 90, 791, 9)), -- 62 X6_faultHere
  ((⟨"TickerHouse$Reading", "fault", "(II)I"⟩, 3, some FieldType.int), (6, false, 3), (796, 90, 795, 10)), -- 63 X6_fault
  ((⟨"TickerHouse$Reading", "keep", "(III)V"⟩, 4, none), (6, false, 4), (829, 90, 828, 13)), -- 64 X6_keep
  ((⟨"TickerHouse$Repair", "seek", "(LTickerHouse$Row;LTickerHouse$Firms;)V"⟩, 3, none), (7, false, 3), (969, 94, 967, 968)), -- 65 X7_seek
  ((⟨"TickerHouse$Repair", "findMeant", "(LTickerHouse$Row;)V"⟩, 6, none), (7, false, 2), (1005, 94, 1004, 27)), -- 66 X7_findMeant
  ((⟨"TickerHouse$Repair", "lostSteps", "(I)I"⟩, 1, some FieldType.int), (7, true, 1), (1011, 94, 1010, 0)), -- 67 X7_lostSteps
  ((⟨"TickerHouse$Repair", "findEndable", "()V"⟩, 6, none), (7, false, 1), (1016, 94, 1015, 28)), -- 68 X7_findEndable
  ((⟨"TickerHouse$Repair", "printedHere", "(II)J"⟩, 7, some FieldType.long), (7, false, 3), (1023, 94, 1022, 29)), -- 69 X7_printedHere
  ((⟨"TickerHouse$Repair", "lostHere", "(I)J"⟩, 2, some FieldType.long), (7, false, 2), (1031, 94, 1030, 30)), -- 70 X7_lostHere
  ((⟨"TickerHouse$Repair", "fewestSlips", "()I"⟩, 2, some FieldType.int), (7, false, 1), (1039, 94, 1038, 31)), -- 71 X7_fewestSlips
  ((⟨"TickerHouse$Repair", "canEnd", "(III)Z"⟩, 4, some FieldType.boolean), (7, false, 4), (1043, 94, 1042, 32)), -- 72 X7_canEnd
  ((⟨"TickerHouse$Repair", "spell", "()V"⟩, 4, none), (7, false, 1), (1047, 94, 1046, 33)), -- 73 X7_spell
  ((⟨"TickerHouse$Repair", "loseStepsAndShifts", "(I)V"⟩, 4, none), (7, false, 2), (1052, 94, 1051, 34)), -- 74 X7_loseStepsAndShifts
  ((⟨"TickerHouse$Repair", "reach", "(III)V"⟩, 4, none), (7, false, 4), (1056, 94, 1055, 35)), -- 75 X7_reach
  ((⟨"TickerHouse$Repair", "isEnded", "()Z"⟩, 2, some FieldType.boolean), (7, false, 1), (1060, 94, 1059, 36)), -- 76 X7_isEnded
  ((⟨"TickerHouse$Repair", "leastSign", "(I)I"⟩, 4, some FieldType.int), (7, false, 2), (1064, 94, 1063, 37)), -- 77 X7_leastSign
  ((⟨"TickerHouse$Repair", "isNext", "(II)Z"⟩, 4, some FieldType.boolean), (7, false, 3), (1069, 94, 1068, 38)), -- 78 X7_isNext
  ((⟨"TickerHouse$Repair", "canPrint", "(III)Z"⟩, 4, some FieldType.boolean), (7, false, 4), (1073, 94, 1072, 39)), -- 79 X7_canPrint
  ((⟨"TickerHouse$Repair", "moveOn", "(II)V"⟩, 5, none), (7, false, 3), (1077, 94, 1076, 40)), -- 80 X7_moveOn
  ((⟨"TickerHouse$Row", "hasRoomFor", "(I)Z"⟩, 2, some FieldType.boolean), (8, false, 2), (662, 86, 660, 661)), -- 81 X8_hasRoomFor
  ((⟨"TickerHouse$Row", "put", "(I)V"⟩, 2, none), (8, false, 2), (666, 86, 664, 665)), -- 82 X8_put
  ((⟨"TickerHouse$Row", "putNumber", "(II)V"⟩, 5, none), (8, false, 3), (759, 86, 757, 758)), -- 83 X8_putNumber
  ((⟨"TickerHouse$Row", "makeEmpty", "()V"⟩, 1, none), (8, false, 1), (679, 86, 677, 678)), -- 84 X8_makeEmpty
  ((⟨"TickerHouse$Row", "at", "(I)I"⟩, 2, some FieldType.int), (8, false, 2), (687, 86, 685, 686)), -- 85 X8_at
  ((⟨"TickerHouse$Row", "digitsFrom", "(II)I"⟩, 4, some FieldType.int), (8, false, 3), (810, 86, 808, 809)), -- 86 X8_digitsFrom
  ((⟨"TickerHouse$Row", "numberAt", "(II)I"⟩, 5, some FieldType.int), (8, false, 3), (818, 86, 816, 817)), -- 87 X8_numberAt
  ((⟨"TickerHouse$Row", "mixInto", "(J)J"⟩, 6, some FieldType.long), (8, false, 2), (1132, 86, 1130, 1131)), -- 88 X8_mixInto
  ((⟨"TickerHouse$Tape", "run", "(LTickerHouse$Queue;I)V"⟩, 6, none), (9, false, 3), (935, 93, 933, 934)), -- 89 X9_run
  ((⟨"TickerHouse$Tape", "sortByComing", "(LTickerHouse$Queue;)V"⟩, 4, none), (9, false, 2), (939, 93, 938, 21)), -- 90 X9_sortByComing
  ((⟨"TickerHouse$Tape", "beingToldAt", "(LTickerHouse$Queue;I)I"⟩, 4, some FieldType.int), (9, false, 3), (949, 93, 947, 948)), -- 91 X9_beingToldAt
  ((⟨"TickerHouse$Tape", "waitingAt", "(LTickerHouse$Queue;I)I"⟩, 5, some FieldType.int), (9, false, 3), (945, 93, 943, 944)), -- 92 X9_waitingAt
  ((⟨"TickerHouse$Tape", "priceTold", "(LTickerHouse$Queue;II)I"⟩, 7, some FieldType.int), (9, false, 4), (957, 93, 955, 956)), -- 93 X9_priceTold
  ((⟨"TickerHouse$Tape", "priceTrue", "(LTickerHouse$Queue;II)I"⟩, 7, some FieldType.int), (9, false, 4), (961, 93, 959, 960)), -- 94 X9_priceTrue
  ((⟨"TickerHouse", "machine", "(III)I"⟩, 4, some FieldType.int), (10, false, 4), (498, 83, 496, 497)), -- 95 X10_machine
  ((⟨"TickerHouse", "alive", "(IZ)I"⟩, 4, some FieldType.int), (10, false, 3), (509, 83, 507, 508)), -- 96 X10_alive
  ((⟨"TickerHouse", "line", "(III)I"⟩, 4, some FieldType.int), (10, false, 4), (517, 83, 515, 516)), -- 97 X10_line
  ((⟨"TickerHouse", "slip", "(II)I"⟩, 3, some FieldType.int), (10, false, 3), (521, 83, 519, 520)), -- 98 X10_slip
  ((⟨"TickerHouse", "over", "(I)I"⟩, 2, some FieldType.int), (10, false, 2), (534, 83, 532, 533))] -- 99 X10_over
def tkMt_2 : List tkMd := [
  ((⟨"TickerHouse", "pulse", "(I)I"⟩, 2, some FieldType.int), (10, false, 2), (543, 83, 541, 542)), -- 100 X10_pulse
  ((⟨"TickerHouse", "bring", "(I)I"⟩, 3, some FieldType.int), (10, false, 2), (573, 83, 571, 572)), -- 101 X10_bring
  ((⟨"TickerHouse", "unison", "()I"⟩, 1, some FieldType.int), (10, false, 1), (603, 83, 601, 602)), -- 102 X10_unison
  ((⟨"TickerHouse", "about", "(II)I"⟩, 3, some FieldType.int), (10, false, 3), (615, 83, 613, 614)), -- 103 X10_about
  ((⟨"TickerHouse", "ribbon", "(II)I"⟩, 3, some FieldType.int), (10, false, 3), (632, 83, 630, 631)), -- 104 X10_ribbon
  ((⟨"TickerHouse", "wrong", "(I)I"⟩, 2, some FieldType.int), (10, false, 2), (640, 83, 638, 639)), -- 105 X10_wrong
  ((⟨"TickerHouse", "tear", "()I"⟩, 2, some FieldType.int), (10, false, 1), (650, 83, 648, 649)), -- 106 X10_tear
  ((⟨"TickerHouse", "sign", "(I)I"⟩, 2, some FieldType.int), (10, false, 2), (658, 83, 656, 657)), -- 107 X10_sign
  ((⟨"TickerHouse", "cut", "(III)I"⟩, 6, some FieldType.int), (10, false, 4), (671, 83, 669, 670)), -- 108 X10_cut
  ((⟨"TickerHouse", "clear", "()I"⟩, 2, some FieldType.int), (10, false, 1), (675, 83, 673, 674)), -- 109 X10_clear
  ((⟨"TickerHouse", "rowAt", "(I)I"⟩, 2, some FieldType.int), (10, false, 2), (683, 83, 681, 682)), -- 110 X10_rowAt
  ((⟨"TickerHouse", "send", "()I"⟩, 2, some FieldType.int), (10, false, 1), (691, 83, 689, 690)), -- 111 X10_send
  ((⟨"TickerHouse", "firm", "(IIII)I"⟩, 5, some FieldType.int), (10, false, 5), (702, 83, 700, 701)), -- 112 X10_firm
  ((⟨"TickerHouse", "shorts", "(Z)I"⟩, 2, some FieldType.int), (10, false, 2), (720, 83, 718, 719)), -- 113 X10_shorts
  ((⟨"TickerHouse", "last", "(I)I"⟩, 2, some FieldType.int), (10, false, 2), (724, 83, 722, 723)), -- 114 X10_last
  ((⟨"TickerHouse", "write", "(III)I"⟩, 6, some FieldType.int), (10, false, 4), (732, 83, 730, 731)), -- 115 X10_write
  ((⟨"TickerHouse", "read", "(I)I"⟩, 2, some FieldType.int), (10, false, 2), (767, 83, 765, 766)), -- 116 X10_read
  ((⟨"TickerHouse", "readAt", "(II)I"⟩, 3, some FieldType.int), (10, false, 3), (833, 83, 831, 832)), -- 117 X10_readAt
  ((⟨"TickerHouse", "take", "()I"⟩, 1, some FieldType.int), (10, false, 1), (837, 83, 835, 836)), -- 118 X10_take
  ((⟨"TickerHouse", "add", "(IIIII)I"⟩, 6, some FieldType.int), (10, false, 6), (842, 83, 840, 841)), -- 119 X10_add
  ((⟨"TickerHouse", "drop", "()I"⟩, 2, some FieldType.int), (10, false, 1), (859, 83, 857, 858)), -- 120 X10_drop
  ((⟨"TickerHouse", "minutes", "(I)I"⟩, 2, some FieldType.int), (10, false, 2), (867, 83, 865, 866)), -- 121 X10_minutes
  ((⟨"TickerHouse", "most", "(II)I"⟩, 3, some FieldType.int), (10, false, 3), (875, 83, 873, 874)), -- 122 X10_most
  ((⟨"TickerHouse", "orderAt", "(II)I"⟩, 3, some FieldType.int), (10, false, 3), (927, 83, 925, 926)), -- 123 X10_orderAt
  ((⟨"TickerHouse", "tape", "(II)I"⟩, 4, some FieldType.int), (10, false, 3), (931, 83, 929, 930)), -- 124 X10_tape
  ((⟨"TickerHouse", "price", "(III)I"⟩, 4, some FieldType.int), (10, false, 4), (953, 83, 951, 952)), -- 125 X10_price
  ((⟨"TickerHouse", "repair", "()I"⟩, 1, some FieldType.int), (10, false, 1), (965, 83, 963, 964)), -- 126 X10_repair
  ((⟨"TickerHouse", "repairAt", "(I)I"⟩, 2, some FieldType.int), (10, false, 2), (1084, 83, 1082, 1083)), -- 127 X10_repairAt
  ((⟨"TickerHouse", "mend", "()I"⟩, 2, some FieldType.int), (10, false, 1), (1088, 83, 1086, 1087)), -- 128 X10_mend
  ((⟨"TickerHouse", "cost", "(II)I"⟩, 3, some FieldType.int), (10, false, 3), (1092, 83, 1090, 1091)), -- 129 X10_cost
  ((⟨"TickerHouse", "often", "(I)I"⟩, 6, some FieldType.int), (10, false, 2), (1111, 83, 1109, 1110)), -- 130 X10_often
  ((⟨"TickerHouse", "count", "(I)I"⟩, 2, some FieldType.int), (10, false, 2), (1115, 83, 1113, 1114)), -- 131 X10_count
  ((⟨"TickerHouse", "digest", "()J"⟩, 4, some FieldType.long), (10, false, 1), (1119, 83, 1117, 1118)), -- 132 X10_digest
  ((⟨"TickerHouse", "outside", "(III)Z"⟩, 3, some FieldType.boolean), (10, true, 3), (501, 83, 500, 0)), -- 133 X10_outside
  ((⟨"TickerHouse", "isQuote", "(III)Z"⟩, 4, some FieldType.boolean), (10, false, 4), (736, 83, 735, 4)), -- 134 X10_isQuote
  ((⟨"TickerHouse", "isCode", "(IIII)Z"⟩, 4, some FieldType.boolean), (10, true, 4), (705, 83, 704, 0)), -- 135 X10_isCode
  ((⟨"TickerHouse", "writeText", "(IIIZ)V"⟩, 6, none), (10, false, 5), (746, 83, 745, 5)), -- 136 X10_writeText
  ((⟨"TickerHouse", "digitsOf", "(I)I"⟩, 1, some FieldType.int), (10, true, 1), (763, 83, 762, 0)), -- 137 X10_digitsOf
  ((⟨"TickerHouse", "costOf", "(II)I"⟩, 3, some FieldType.int), (10, false, 3), (1096, 83, 1095, 41)), -- 138 X10_costOf
  ((⟨"TickerHouse", "isLetter", "(I)Z"⟩, 1, some FieldType.boolean), (10, true, 1), (708, 83, 707, 0)), -- 139 X10_isLetter
  ((⟨"TickerHouse", "isDigit", "(I)Z"⟩, 1, some FieldType.boolean), (10, true, 1), (814, 83, 813, 0)), -- 140 X10_isDigit
  ((⟨"TickerHouse", "isEighth", "(I)Z"⟩, 1, some FieldType.boolean), (10, true, 1), (821, 83, 820, 0)), -- 141 X10_isEighth
  ((⟨"TickerHouse", "wheelOf", "(I)I"⟩, 1, some FieldType.int), (10, true, 1), (588, 83, 587, 0)), -- 142 X10_wheelOf
  ((⟨"TickerHouse", "placeOf", "(I)I"⟩, 1, some FieldType.int), (10, true, 1), (592, 83, 591, 0)), -- 143 X10_placeOf
  ((⟨"TickerHouse", "signAt", "(II)I"⟩, 2, some FieldType.int), (10, true, 2), (560, 83, 559, 0)), -- 144 X10_signAt
  ((⟨"TickerHouseModel", "in", "(JJJ)Z"⟩, 6, some FieldType.boolean), (11, true, 3), (1343, 96, 1342, 0)), -- 145 X11_in
  ((⟨"TickerHouseModel", "placeOf", "(I)I"⟩, 1, some FieldType.int), (11, true, 1), (1413, 96, 1412, 0)), -- 146 X11_placeOf
  ((⟨"TickerHouseModel", "wheelOf", "(I)I"⟩, 1, some FieldType.int), (11, true, 1), (1410, 96, 1409, 0)), -- 147 X11_wheelOf
  ((⟨"TickerHouseModel", "signAt", "(II)I"⟩, 2, some FieldType.int), (11, true, 2), (1394, 96, 1393, 0)), -- 148 X11_signAt
  ((⟨"TickerHouseModel", "machine", "(III)I"⟩, 4, some FieldType.int), (11, false, 4), (1339, 96, 1337, 1338))] -- 149 X11_machine
def tkMt_3 : List tkMd := [
  ((⟨"TickerHouseModel", "isMachine", "(I)Z"⟩, 2, some FieldType.boolean), (11, false, 2), (1352, 96, 1351, 42)), -- 150 X11_isMachine
  ((⟨"TickerHouseModel", "alive", "(IZ)I"⟩, 3, some FieldType.int), (11, false, 3), (1348, 96, 1346, 1347)), -- 151 X11_alive
  ((⟨"TickerHouseModel", "line", "(III)I"⟩, 4, some FieldType.int), (11, false, 4), (1356, 96, 1354, 1355)), -- 152 X11_line
  ((⟨"TickerHouseModel", "slip", "(II)I"⟩, 3, some FieldType.int), (11, false, 3), (1363, 96, 1361, 1362)), -- 153 X11_slip
  ((⟨"TickerHouseModel", "overOf", "(I)I"⟩, 2, some FieldType.int), (11, false, 2), (1372, 96, 1371, 43)), -- 154 X11_overOf
  ((⟨"TickerHouseModel", "over", "(I)I"⟩, 2, some FieldType.int), (11, false, 2), (1368, 96, 1366, 1367)), -- 155 X11_over
  ((⟨"TickerHouseModel", "gets", "(II)Z"⟩, 4, some FieldType.boolean), (11, false, 3), (1387, 96, 1386, 45)), -- 156 X11_gets
  ((⟨"TickerHouseModel", "apply", "(II)V"⟩, 3, none), (11, false, 3), (1391, 96, 1390, 46)), -- 157 X11_apply
  ((⟨"TickerHouseModel", "send1", "(II)V"⟩, 5, none), (11, false, 3), (1383, 96, 1382, 44)), -- 158 X11_send1
  ((⟨"TickerHouseModel", "asIs", "()V"⟩, 2, none), (11, false, 1), (1403, 96, 1402, 47)), -- 159 X11_asIs
  ((⟨"TickerHouseModel", "pulse", "(I)I"⟩, 2, some FieldType.int), (11, false, 2), (1377, 96, 1375, 1376)), -- 160 X11_pulse
  ((⟨"TickerHouseModel", "bring1", "(II)V"⟩, 5, none), (11, false, 3), (1407, 96, 1406, 48)), -- 161 X11_bring1
  ((⟨"TickerHouseModel", "unison1", "(I)V"⟩, 3, none), (11, false, 2), (1425, 96, 1424, 50)), -- 162 X11_unison1
  ((⟨"TickerHouseModel", "isTooMany", "()Z"⟩, 1, some FieldType.boolean), (11, false, 1), (1417, 96, 1416, 49)), -- 163 X11_isTooMany
  ((⟨"TickerHouseModel", "bring", "(I)I"⟩, 3, some FieldType.int), (11, false, 2), (1398, 96, 1396, 1397)), -- 164 X11_bring
  ((⟨"TickerHouseModel", "unison", "()I"⟩, 3, some FieldType.int), (11, false, 1), (1421, 96, 1419, 1420)), -- 165 X11_unison
  ((⟨"TickerHouseModel", "who", "(I)I"⟩, 2, some FieldType.int), (11, false, 2), (1433, 96, 1432, 51)), -- 166 X11_who
  ((⟨"TickerHouseModel", "aboutOf", "(II)I"⟩, 3, some FieldType.int), (11, false, 3), (1438, 96, 1437, 52)), -- 167 X11_aboutOf
  ((⟨"TickerHouseModel", "about", "(II)I"⟩, 3, some FieldType.int), (11, false, 3), (1429, 96, 1427, 1428)), -- 168 X11_about
  ((⟨"TickerHouseModel", "ribbon", "(II)I"⟩, 4, some FieldType.int), (11, false, 3), (1442, 96, 1440, 1441)), -- 169 X11_ribbon
  ((⟨"TickerHouseModel", "wrongOf", "(II)I"⟩, 6, some FieldType.int), (11, false, 3), (1450, 96, 1449, 53)), -- 170 X11_wrongOf
  ((⟨"TickerHouseModel", "wrong", "(I)I"⟩, 2, some FieldType.int), (11, false, 2), (1446, 96, 1444, 1445)), -- 171 X11_wrong
  ((⟨"TickerHouseModel", "tear", "()I"⟩, 3, some FieldType.int), (11, false, 1), (1454, 96, 1452, 1453)), -- 172 X11_tear
  ((⟨"TickerHouseModel", "sign", "(I)I"⟩, 2, some FieldType.int), (11, false, 2), (1458, 96, 1456, 1457)), -- 173 X11_sign
  ((⟨"TickerHouseModel", "cut", "(III)I"⟩, 6, some FieldType.int), (11, false, 4), (1462, 96, 1460, 1461)), -- 174 X11_cut
  ((⟨"TickerHouseModel", "clear", "()I"⟩, 2, some FieldType.int), (11, false, 1), (1466, 96, 1464, 1465)), -- 175 X11_clear
  ((⟨"TickerHouseModel", "rowAt", "(I)I"⟩, 2, some FieldType.int), (11, false, 2), (1470, 96, 1468, 1469)), -- 176 X11_rowAt
  ((⟨"TickerHouseModel", "send", "()I"⟩, 3, some FieldType.int), (11, false, 1), (1474, 96, 1472, 1473)), -- 177 X11_send
  ((⟨"TickerHouseModel", "firm", "(IIII)I"⟩, 6, some FieldType.int), (11, false, 5), (1478, 96, 1476, 1477)), -- 178 X11_firm
  ((⟨"TickerHouseModel", "shorts", "(Z)I"⟩, 2, some FieldType.int), (11, false, 2), (1483, 96, 1481, 1482)), -- 179 X11_shorts
  ((⟨"TickerHouseModel", "isFirm", "(I)Z"⟩, 2, some FieldType.boolean), (11, false, 2), (1491, 96, 1490, 54)), -- 180 X11_isFirm
  ((⟨"TickerHouseModel", "last", "(I)I"⟩, 2, some FieldType.int), (11, false, 2), (1487, 96, 1485, 1486)), -- 181 X11_last
  ((⟨"TickerHouseModel", "put", "(I)V"⟩, 2, none), (11, false, 2), (1509, 96, 1508, 57)), -- 182 X11_put
  ((⟨"TickerHouseModel", "figures", "(II)V"⟩, 5, none), (11, false, 3), (1513, 96, 1512, 58)), -- 183 X11_figures
  ((⟨"TickerHouseModel", "tell", "(IIIZ)V"⟩, 6, none), (11, false, 5), (1505, 96, 1504, 56)), -- 184 X11_tell
  ((⟨"TickerHouseModel", "isQuote", "(III)Z"⟩, 4, some FieldType.boolean), (11, false, 4), (1499, 96, 1498, 55)), -- 185 X11_isQuote
  ((⟨"TickerHouseModel", "write", "(III)I"⟩, 5, some FieldType.int), (11, false, 4), (1495, 96, 1493, 1494)), -- 186 X11_write
  ((⟨"TickerHouseModel", "isDigit", "()Z"⟩, 1, some FieldType.boolean), (11, false, 1), (1537, 96, 1536, 63)), -- 187 X11_isDigit
  ((⟨"TickerHouseModel", "cant", "()V"⟩, 1, none), (11, false, 1), (1529, 96, 1528, 61)), -- 188 X11_cant
  ((⟨"TickerHouseModel", "firmOf", "(II)I"⟩, 6, some FieldType.int), (11, false, 3), (1533, 96, 1532, 62)), -- 189 X11_firmOf
  ((⟨"TickerHouseModel", "quote", "()V"⟩, 7, none), (11, false, 1), (1525, 96, 1524, 60)), -- 190 X11_quote
  ((⟨"TickerHouseModel", "parse", "()V"⟩, 2, none), (11, false, 1), (1521, 96, 1520, 59)), -- 191 X11_parse
  ((⟨"TickerHouseModel", "read", "(I)I"⟩, 2, some FieldType.int), (11, false, 2), (1517, 96, 1515, 1516)), -- 192 X11_read
  ((⟨"TickerHouseModel", "readAt", "(II)I"⟩, 3, some FieldType.int), (11, false, 3), (1545, 96, 1543, 1544)), -- 193 X11_readAt
  ((⟨"TickerHouseModel", "take", "()I"⟩, 2, some FieldType.int), (11, false, 1), (1549, 96, 1547, 1548)), -- 194 X11_take
  ((⟨"TickerHouseModel", "add", "(IIIII)I"⟩, 6, some FieldType.int), (11, false, 6), (1553, 96, 1551, 1552)), -- 195 X11_add
  ((⟨"TickerHouseModel", "drop", "()I"⟩, 2, some FieldType.int), (11, false, 1), (1557, 96, 1555, 1556)), -- 196 X11_drop
  ((⟨"TickerHouseModel", "minutesOf", "(I)I"⟩, 6, some FieldType.int), (11, false, 2), (1565, 96, 1564, 64)), -- 197 X11_minutesOf
  ((⟨"TickerHouseModel", "minutes", "(I)I"⟩, 2, some FieldType.int), (11, false, 2), (1561, 96, 1559, 1560)), -- 198 X11_minutes
  ((⟨"TickerHouseModel", "earliest", "(I)V"⟩, 5, none), (11, false, 2), (1577, 96, 1576, 66))] -- 199 X11_earliest
def tkMt_4 : List tkMd := [
  ((⟨"TickerHouseModel", "told", "(II)I"⟩, 4, some FieldType.int), (11, false, 3), (1581, 96, 1580, 67)), -- 200 X11_told
  ((⟨"TickerHouseModel", "ones", "(I)I"⟩, 3, some FieldType.int), (11, true, 1), (1584, 96, 1583, 0)), -- 201 X11_ones
  ((⟨"TickerHouseModel", "best", "(I)I"⟩, 4, some FieldType.int), (11, false, 2), (1573, 96, 1572, 65)), -- 202 X11_best
  ((⟨"TickerHouseModel", "most", "(II)I"⟩, 4, some FieldType.int), (11, false, 3), (1569, 96, 1567, 1568)), -- 203 X11_most
  ((⟨"TickerHouseModel", "orderAt", "(II)I"⟩, 10, some FieldType.int), (11, false, 3), (1588, 96, 1586, 1587)), -- 204 X11_orderAt
  ((⟨"TickerHouseModel", "roll", "()V"⟩, 7, none), (11, false, 1), (1597, 96, 1596, 68)), -- 205 X11_roll
  ((⟨"TickerHouseModel", "tape", "(II)I"⟩, 6, some FieldType.int), (11, false, 3), (1592, 96, 1590, 1591)), -- 206 X11_tape
  ((⟨"TickerHouseModel", "price", "(III)I"⟩, 7, some FieldType.int), (11, false, 4), (1601, 96, 1599, 1600)), -- 207 X11_price
  ((⟨"TickerHouseModel", "edge", "(II)V"⟩, 3, none), (11, false, 3), (1621, 96, 1620, 72)), -- 208 X11_edge
  ((⟨"TickerHouseModel", "digits", "(II)V"⟩, 4, none), (11, false, 3), (1625, 96, 1624, 73)), -- 209 X11_digits
  ((⟨"TickerHouseModel", "build", "()V"⟩, 4, none), (11, false, 1), (1617, 96, 1616, 71)), -- 210 X11_build
  ((⟨"TickerHouseModel", "number", "(IIII)I"⟩, 4, some FieldType.int), (11, true, 4), (1636, 96, 1635, 0)), -- 211 X11_number
  ((⟨"TickerHouseModel", "should", "(IIII)I"⟩, 7, some FieldType.int), (11, false, 5), (1633, 96, 1632, 75)), -- 212 X11_should
  ((⟨"TickerHouseModel", "slipsFrom", "(I)V"⟩, 11, none), (11, false, 2), (1629, 96, 1628, 74)), -- 213 X11_slipsFrom
  ((⟨"TickerHouseModel", "stand", "(I)V"⟩, 2, none), (11, false, 2), (1640, 96, 1639, 76)), -- 214 X11_stand
  ((⟨"TickerHouseModel", "mended", "()I"⟩, 1, some FieldType.int), (11, false, 1), (1609, 96, 1608, 69)), -- 215 X11_mended
  ((⟨"TickerHouseModel", "mendAnew", "()I"⟩, 10, some FieldType.int), (11, false, 1), (1613, 96, 1612, 70)), -- 216 X11_mendAnew
  ((⟨"TickerHouseModel", "print", "(II)V"⟩, 11, none), (11, false, 3), (1644, 96, 1643, 77)), -- 217 X11_print
  ((⟨"TickerHouseModel", "comes1", "(I)V"⟩, 2, none), (11, false, 2), (1648, 96, 1647, 78)), -- 218 X11_comes1
  ((⟨"TickerHouseModel", "repair", "()I"⟩, 1, some FieldType.int), (11, false, 1), (1605, 96, 1603, 1604)), -- 219 X11_repair
  ((⟨"TickerHouseModel", "repairAt", "(I)I"⟩, 2, some FieldType.int), (11, false, 2), (1652, 96, 1650, 1651)), -- 220 X11_repairAt
  ((⟨"TickerHouseModel", "mend", "()I"⟩, 2, some FieldType.int), (11, false, 1), (1656, 96, 1654, 1655)), -- 221 X11_mend
  ((⟨"TickerHouseModel", "costOf", "(II)I"⟩, 5, some FieldType.int), (11, false, 3), (1664, 96, 1663, 79)), -- 222 X11_costOf
  ((⟨"TickerHouseModel", "cost", "(II)I"⟩, 3, some FieldType.int), (11, false, 3), (1660, 96, 1658, 1659)), -- 223 X11_cost
  ((⟨"TickerHouseModel", "often", "(I)I"⟩, 6, some FieldType.int), (11, false, 2), (1668, 96, 1666, 1667)), -- 224 X11_often
  ((⟨"TickerHouseModel", "count", "(I)I"⟩, 2, some FieldType.int), (11, false, 2), (1672, 96, 1670, 1671)), -- 225 X11_count
  ((⟨"TickerHouseModel", "told1", "(JI)J"⟩, 7, some FieldType.long), (11, false, 3), (1684, 96, 1683, 80)), -- 226 X11_told1
  ((⟨"TickerHouseModel", "printed1", "(JI)J"⟩, 7, some FieldType.long), (11, false, 3), (1688, 96, 1687, 81)), -- 227 X11_printed1
  ((⟨"TickerHouseModel", "digest", "()J"⟩, 5, some FieldType.long), (11, false, 1), (1677, 96, 1675, 1676)), -- 228 X11_digest
  ((⟨"java/lang/Integer", "bitCount", "(I)I"⟩, 1, some FieldType.int), (15, true, 1), (898, 98, 897, 0)), -- 229 J6_bitCount_0f7a4
  ((⟨"java/lang/Math", "floorMod", "(II)I"⟩, 3, some FieldType.int), (13, true, 2), (596, 87, 595, 0)), -- 230 J9_floorMod_7cf53
  ((⟨"java/lang/Math", "max", "(II)I"⟩, 2, some FieldType.int), (13, true, 2), (220, 87, 219, 0)), -- 231 J9_max_7cf53
  ((⟨"java/lang/Math", "min", "(II)I"⟩, 2, some FieldType.int), (13, true, 2), (599, 87, 598, 0)), -- 232 J9_min_7cf53
  ((⟨"java/util/Arrays", "rangeCheck", "(III)V"⟩, 3, none), (14, true, 3), (891, 89, 890, 0)), -- 233 J7_rangeCheck_23922
  ((⟨"java/util/Arrays", "fill", "([JIIJ)V"⟩, 6, none), (14, true, 4), (1019, 89, 1018, 0)), -- 234 J7_fill_bad5a
  ((⟨"java/util/Arrays", "fill", "([II)V"⟩, 4, none), (14, true, 2), (244, 89, 243, 0)), -- 235 J7_fill_53178
  ((⟨"java/util/Arrays", "fill", "([IIII)V"⟩, 5, none), (14, true, 4), (888, 89, 887, 0))] -- 236 J7_fill_fda19
def tkMt : List tkMd := tkMt_0 ++ (tkMt_1 ++ (tkMt_2 ++ (tkMt_3 ++ (tkMt_4))))
theorem tkFl_ok : tkFl.all (fun q => match vwCl[q.2.2.1 / 64]? with
  | some (C, T, N) => decide (q.2.2.1 % 64 < N) && decide (lw_tbl[q.2.2.2]? = some (.fieldLink (tkCn q.1) q.2.1 C (T (q.2.2.1 % 64)).2.1 (T (q.2.2.1 % 64)).2.2.1)) && decide ((T (q.2.2.1 % 64)).1 = C)
  | none => false) = true := by decide +kernel
theorem tkLc_ok : tkLc.all (fun q => decide (lw_tbl[q.2.2.2]? = some (.constant (tkCn q.1) q.2.1 (Int32.ofInt q.2.2.1)))) = true := by decide +kernel
theorem tkLl_ok : tkLl.all (fun q => decide (lw_tbl[q.2.2.2]? = some (.constantLong (tkCn q.1) q.2.1 (Int64.ofNat q.2.2.1)))) = true := by decide +kernel
def tkYof (mi : Nat) : MethodName := match tkMt[mi]? with
  | some md => md.1.1
  | none => arraycopyName
theorem tkMl_ok : tkMl.all (fun q => decide (lw_tbl[q.2.2.2.2]? = some (if q.2.2.2.1 = 0 then .methodLink (tkCn q.1) q.2.1 (tkYof q.2.2.1) else .methodLinkNest (tkCn q.1) q.2.1 (tkYof q.2.2.1) "TickerHouse"))) = true := by decide +kernel
def tkCodeAt (i : Nat) : ByteArray := match lw_tbl[i]? with
  | some (.code _ cc _ _) => cc
  | _ => ⟨#[]⟩
def tkMdOk (md : tkMd) : Bool := (match lw_tbl[md.2.2.1]? with
  | some (.code y _ n r) => decide (y = md.1.1) && decide (n = md.1.2.1) && decide (r = md.1.2.2)
  | _ => false) && decide (lw_tbl[md.2.2.2.1]? = some (.initialized md.1.1.cls)) && decide (lw_tbl[md.2.2.2.2.1]? = some (if md.2.1.2.1 = true then .static md.1.1 else .instanceMethod md.1.1)) && (md.2.1.2.1 || decide (lw_tbl[md.2.2.2.2.2]? = some (.selects md.1.1.cls md.1.1 md.1.1)))
  && decide (md.1.1.cls = tkCn md.2.1.1) && decide (md.1.1.cls ≠ "java/lang/invoke/MethodHandle") && decide (md.1.1.cls ≠ "java/lang/invoke/VarHandle") && decide ((parseMethodDescriptor md.1.1.desc).map (fun d => d.parameters.length) = some (if md.2.1.2.1 = true then md.2.1.2.2 else md.2.1.2.2 - 1)) && decide (1 ≤ md.2.1.2.2 ∨ md.2.1.2.1 = true) && plainFor md.1.1 && decide (md.1.2.1 ≤ 11) && (md.2.1.2.1 || decide (md.2.1.1 < 12))
theorem tkMt_ok_0_0 : ((tkMt_0.drop 0).take 10).all tkMdOk = true := by decide +kernel
theorem tkMt_ok_0_1 : ((tkMt_0.drop 10).take 10).all tkMdOk = true := by decide +kernel
theorem tkMt_ok_0_2 : ((tkMt_0.drop 20).take 10).all tkMdOk = true := by decide +kernel
theorem tkMt_ok_0_3 : ((tkMt_0.drop 30).take 10).all tkMdOk = true := by decide +kernel
theorem tkMt_ok_0_4 : ((tkMt_0.drop 40).take 10).all tkMdOk = true := by decide +kernel
theorem tkMt_ok_0 : tkMt_0.all tkMdOk = true := tk_all5 tkMt_0 tkMdOk tkMt_ok_0_0 tkMt_ok_0_1 tkMt_ok_0_2 tkMt_ok_0_3 tkMt_ok_0_4 (by decide)
theorem tkMt_ok_1_0 : ((tkMt_1.drop 0).take 10).all tkMdOk = true := by decide +kernel
theorem tkMt_ok_1_1 : ((tkMt_1.drop 10).take 10).all tkMdOk = true := by decide +kernel
theorem tkMt_ok_1_2 : ((tkMt_1.drop 20).take 10).all tkMdOk = true := by decide +kernel
theorem tkMt_ok_1_3 : ((tkMt_1.drop 30).take 10).all tkMdOk = true := by decide +kernel
theorem tkMt_ok_1_4 : ((tkMt_1.drop 40).take 10).all tkMdOk = true := by decide +kernel
theorem tkMt_ok_1 : tkMt_1.all tkMdOk = true := tk_all5 tkMt_1 tkMdOk tkMt_ok_1_0 tkMt_ok_1_1 tkMt_ok_1_2 tkMt_ok_1_3 tkMt_ok_1_4 (by decide)
theorem tkMt_ok_2_0 : ((tkMt_2.drop 0).take 10).all tkMdOk = true := by decide +kernel
theorem tkMt_ok_2_1 : ((tkMt_2.drop 10).take 10).all tkMdOk = true := by decide +kernel
theorem tkMt_ok_2_2 : ((tkMt_2.drop 20).take 10).all tkMdOk = true := by decide +kernel
theorem tkMt_ok_2_3 : ((tkMt_2.drop 30).take 10).all tkMdOk = true := by decide +kernel
theorem tkMt_ok_2_4 : ((tkMt_2.drop 40).take 10).all tkMdOk = true := by decide +kernel
theorem tkMt_ok_2 : tkMt_2.all tkMdOk = true := tk_all5 tkMt_2 tkMdOk tkMt_ok_2_0 tkMt_ok_2_1 tkMt_ok_2_2 tkMt_ok_2_3 tkMt_ok_2_4 (by decide)
theorem tkMt_ok_3_0 : ((tkMt_3.drop 0).take 10).all tkMdOk = true := by decide +kernel
theorem tkMt_ok_3_1 : ((tkMt_3.drop 10).take 10).all tkMdOk = true := by decide +kernel
theorem tkMt_ok_3_2 : ((tkMt_3.drop 20).take 10).all tkMdOk = true := by decide +kernel
theorem tkMt_ok_3_3 : ((tkMt_3.drop 30).take 10).all tkMdOk = true := by decide +kernel
theorem tkMt_ok_3_4 : ((tkMt_3.drop 40).take 10).all tkMdOk = true := by decide +kernel
theorem tkMt_ok_3 : tkMt_3.all tkMdOk = true := tk_all5 tkMt_3 tkMdOk tkMt_ok_3_0 tkMt_ok_3_1 tkMt_ok_3_2 tkMt_ok_3_3 tkMt_ok_3_4 (by decide)
theorem tkMt_ok_4_0 : ((tkMt_4.drop 0).take 10).all tkMdOk = true := by decide +kernel
theorem tkMt_ok_4_1 : ((tkMt_4.drop 10).take 10).all tkMdOk = true := by decide +kernel
theorem tkMt_ok_4_2 : ((tkMt_4.drop 20).take 10).all tkMdOk = true := by decide +kernel
theorem tkMt_ok_4_3 : ((tkMt_4.drop 30).take 10).all tkMdOk = true := by decide +kernel
theorem tkMt_ok_4_4 : ((tkMt_4.drop 40).take 10).all tkMdOk = true := by decide +kernel
theorem tkMt_ok_4 : tkMt_4.all tkMdOk = true := tk_all5 tkMt_4 tkMdOk tkMt_ok_4_0 tkMt_ok_4_1 tkMt_ok_4_2 tkMt_ok_4_3 tkMt_ok_4_4 (by decide)
theorem tkMt_ok : tkMt.all tkMdOk = true := by
  unfold tkMt; simp only [List.all_append, tkMt_ok_0, tkMt_ok_1, tkMt_ok_2, tkMt_ok_3, tkMt_ok_4, Bool.and_self]
theorem tkIn0 : ∀ w ∈ u_ws RX0 TX0 3, w ∈ lw_tbl := tk_inp [253, 255, 257] (by decide +kernel)
theorem tkIn1 : ∀ w ∈ u_ws RX1 TX1 4, w ∈ lw_tbl := tk_inp [415, 417, 419, 421] (by decide +kernel)
theorem tkIn2 : ∀ w ∈ u_ws RX2 TX2 12, w ∈ lw_tbl := tk_inp [187, 189, 191, 193, 195, 197, 199, 201, 203, 205, 207, 209] (by decide +kernel)
theorem tkIn3 : ∀ w ∈ u_ws RX3 TX3 11, w ∈ lw_tbl := tk_inp [142, 144, 146, 148, 150, 152, 154, 156, 158, 160, 162] (by decide +kernel)
theorem tkIn4 : ∀ w ∈ u_ws RX4 TX4 10, w ∈ lw_tbl := tk_inp [359, 361, 363, 365, 367, 369, 371, 373, 375, 377] (by decide +kernel)
theorem tkIn5 : ∀ w ∈ u_ws RX5 TX5 8, w ∈ lw_tbl := tk_inp [322, 324, 326, 328, 330, 332, 334, 336] (by decide +kernel)
theorem tkIn6 : ∀ w ∈ u_ws RX6 TX6 8, w ∈ lw_tbl := tk_inp [281, 283, 285, 287, 289, 291, 293, 295] (by decide +kernel)
theorem tkIn7 : ∀ w ∈ u_ws RX7 TX7 11, w ∈ lw_tbl := tk_inp [438, 440, 442, 444, 446, 448, 450, 452, 454, 456, 458] (by decide +kernel)
theorem tkIn8 : ∀ w ∈ u_ws RX8 TX8 3, w ∈ lw_tbl := tk_inp [229, 231, 233] (by decide +kernel)
theorem tkIn9 : ∀ w ∈ u_ws RX9 TX9 3, w ∈ lw_tbl := tk_inp [390, 392, 394] (by decide +kernel)
theorem tkIn10 : ∀ w ∈ u_ws RX10 TX10 11, w ∈ lw_tbl := tk_inp [472, 474, 476, 478, 480, 482, 484, 486, 488, 490, 492] (by decide +kernel)
theorem tkIn11 : ∀ w ∈ u_ws RX11 TX11 61, w ∈ lw_tbl := tk_inp [1212, 1214, 1216, 1218, 1220, 1222, 1224, 1226, 1228, 1230, 1232, 1234, 1236, 1238, 1240, 1242, 1244, 1246, 1248, 1250, 1252, 1254, 1256, 1258, 1260, 1262, 1264, 1266, 1268, 1270, 1272, 1274, 1276, 1278, 1280, 1282, 1284, 1286, 1288, 1290, 1292, 1294, 1296, 1298, 1300, 1302, 1304, 1306, 1308, 1310, 1312, 1314, 1316, 1318, 1320, 1322, 1324, 1326, 1328, 1330, 1332] (by decide +kernel)
theorem tkVw {ci N : Nat} {C : String} {T : u_T} (h : vwCl[ci]? = some (C, T, N)) : (∀ w ∈ u_ws C T N, w ∈ lw_tbl) ∧ (∃ ty0 : Nat → FieldType, ∀ k, k < N → parseFieldDescriptor (T k).2.2.1 = some (ty0 k)) ∧ (∀ a, a < N → ∀ b, b < N → a ≠ b → (T a).2.1 ≠ (T b).2.1) ∧ N = (tkFk ci).length := by
  match ci, h with
  | 0, h => cases h; exact ⟨tkIn0, ⟨tyX0, tyX0_ok⟩, nmX0, rfl⟩
  | 1, h => cases h; exact ⟨tkIn1, ⟨tyX1, tyX1_ok⟩, nmX1, rfl⟩
  | 2, h => cases h; exact ⟨tkIn2, ⟨tyX2, tyX2_ok⟩, nmX2, rfl⟩
  | 3, h => cases h; exact ⟨tkIn3, ⟨tyX3, tyX3_ok⟩, nmX3, rfl⟩
  | 4, h => cases h; exact ⟨tkIn4, ⟨tyX4, tyX4_ok⟩, nmX4, rfl⟩
  | 5, h => cases h; exact ⟨tkIn5, ⟨tyX5, tyX5_ok⟩, nmX5, rfl⟩
  | 6, h => cases h; exact ⟨tkIn6, ⟨tyX6, tyX6_ok⟩, nmX6, rfl⟩
  | 7, h => cases h; exact ⟨tkIn7, ⟨tyX7, tyX7_ok⟩, nmX7, rfl⟩
  | 8, h => cases h; exact ⟨tkIn8, ⟨tyX8, tyX8_ok⟩, nmX8, rfl⟩
  | 9, h => cases h; exact ⟨tkIn9, ⟨tyX9, tyX9_ok⟩, nmX9, rfl⟩
  | 10, h => cases h; exact ⟨tkIn10, ⟨tyX10, tyX10_ok⟩, nmX10, rfl⟩
  | 11, h => cases h; exact ⟨tkIn11, ⟨tyX11, tyX11_ok⟩, nmX11, rfl⟩
  | k + 12, h => simp [vwCl] at h
theorem tk_native : Cond.native arraycopyName ∈ lw_tbl ∧ Cond.static arraycopyName ∈ lw_tbl ∧ Cond.initialized "java/lang/System" ∈ lw_tbl := by decide +kernel
