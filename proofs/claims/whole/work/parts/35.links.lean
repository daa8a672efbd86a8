/-! links of the constant pools, keyed by numbers, by program -/
def cn_N : List String := ["HotHand$Asked", "HotHand$Court", "HotHand$Game", "HotHand$Leaning", "HotHand$Measure", "HotHand$Reader", "HotHand$Rules", "HotHand$Shuffles", "HotHand$Trial", "HotHand", "HotHandModel", "java/lang/Integer", "java/lang/Math", "java/lang/String", "java/lang/StringLatin1", "java/util/Arrays", "jdk/internal/util/Preconditions", "HotHandLaw"]
def cn_n (k : Nat) : String := cn_N.getD k ""
def pg_CN : List Nat := [99, 99, 0, 0, 0, 0, 0, 0, 1, 1, 1, 1, 1, 1, 1, 1, 1, 1, 1, 1, 1, 1, 1, 1, 2, 2, 2, 2, 2, 3, 3, 4, 4, 4, 4, 4, 5, 5, 5, 5, 5, 5, 5, 5, 5, 5, 5, 5, 5, 5, 5, 5, 5, 5, 5, 5, 5, 5, 5, 6, 6, 6, 6, 6, 6, 6, 6, 6, 6, 7, 7, 7, 7, 7, 8, 8, 8, 8, 8, 9, 9, 9, 9, 9, 9, 9, 9, 9, 9, 9, 9, 9, 9, 9, 9, 9, 9, 9, 9, 9, 9, 9, 9, 9, 9, 9, 9, 9, 9, 9, 9, 9, 9, 9, 9, 9, 9, 9, 9, 9, 9, 9, 9, 9, 9, 9, 9, 9, 9, 9, 9, 9, 9, 9, 9, 9, 9, 9, 9, 9, 9, 9, 9, 9, 9, 9, 9, 9, 9, 9, 10, 10, 10, 10, 10, 10, 10, 10, 10, 10, 10, 10, 10, 10, 10, 10, 10, 10, 10, 10, 10, 10, 10, 10, 10, 10, 10, 10, 10, 10, 10, 10, 10, 10, 10, 10, 10, 10, 10, 10, 10, 10, 10, 10, 10, 10, 10, 10, 10, 10, 10, 10, 10, 10, 10, 10, 10, 10, 10, 10, 10, 10, 10, 10, 10, 10, 10, 10, 10, 10, 10, 10, 10, 10, 10, 10, 10, 10, 10, 10, 10, 10, 10, 10, 10, 10, 10, 10, 10, 10, 10, 10, 10, 10, 10, 10, 10, 10, 10, 10, 10, 10, 10, 10, 10, 10, 10, 10, 10, 10, 10, 10, 10, 10, 10, 10, 10, 10, 10, 10, 10, 11, 12, 12, 12, 12, 13, 13, 13, 13, 13, 14, 15, 16, 17]
def pg_cn (m : Nat) : Nat := pg_CN.getD m 99
set_option maxRecDepth 100000 in
theorem pg_cn_ok : ∀ m : Nat, 2 ≤ m → m < 285 → (pg_y m).1.cls = cn_n (pg_cn m)
  | 0, h, _ => absurd h (by decide)
  | 1, h, _ => absurd h (by decide)
  | 2, _, _ => rfl
  | 3, _, _ => rfl
  | 4, _, _ => rfl
  | 5, _, _ => rfl
  | 6, _, _ => rfl
  | 7, _, _ => rfl
  | 8, _, _ => rfl
  | 9, _, _ => rfl
  | 10, _, _ => rfl
  | 11, _, _ => rfl
  | 12, _, _ => rfl
  | 13, _, _ => rfl
  | 14, _, _ => rfl
  | 15, _, _ => rfl
  | 16, _, _ => rfl
  | 17, _, _ => rfl
  | 18, _, _ => rfl
  | 19, _, _ => rfl
  | 20, _, _ => rfl
  | 21, _, _ => rfl
  | 22, _, _ => rfl
  | 23, _, _ => rfl
  | 24, _, _ => rfl
  | 25, _, _ => rfl
  | 26, _, _ => rfl
  | 27, _, _ => rfl
  | 28, _, _ => rfl
  | 29, _, _ => rfl
  | 30, _, _ => rfl
  | 31, _, _ => rfl
  | 32, _, _ => rfl
  | 33, _, _ => rfl
  | 34, _, _ => rfl
  | 35, _, _ => rfl
  | 36, _, _ => rfl
  | 37, _, _ => rfl
  | 38, _, _ => rfl
  | 39, _, _ => rfl
  | 40, _, _ => rfl
  | 41, _, _ => rfl
  | 42, _, _ => rfl
  | 43, _, _ => rfl
  | 44, _, _ => rfl
  | 45, _, _ => rfl
  | 46, _, _ => rfl
  | 47, _, _ => rfl
  | 48, _, _ => rfl
  | 49, _, _ => rfl
  | 50, _, _ => rfl
  | 51, _, _ => rfl
  | 52, _, _ => rfl
  | 53, _, _ => rfl
  | 54, _, _ => rfl
  | 55, _, _ => rfl
  | 56, _, _ => rfl
  | 57, _, _ => rfl
  | 58, _, _ => rfl
  | 59, _, _ => rfl
  | 60, _, _ => rfl
  | 61, _, _ => rfl
  | 62, _, _ => rfl
  | 63, _, _ => rfl
  | 64, _, _ => rfl
  | 65, _, _ => rfl
  | 66, _, _ => rfl
  | 67, _, _ => rfl
  | 68, _, _ => rfl
  | 69, _, _ => rfl
  | 70, _, _ => rfl
  | 71, _, _ => rfl
  | 72, _, _ => rfl
  | 73, _, _ => rfl
  | 74, _, _ => rfl
  | 75, _, _ => rfl
  | 76, _, _ => rfl
  | 77, _, _ => rfl
  | 78, _, _ => rfl
  | 79, _, _ => rfl
  | 80, _, _ => rfl
  | 81, _, _ => rfl
  | 82, _, _ => rfl
  | 83, _, _ => rfl
  | 84, _, _ => rfl
  | 85, _, _ => rfl
  | 86, _, _ => rfl
  | 87, _, _ => rfl
  | 88, _, _ => rfl
  | 89, _, _ => rfl
  | 90, _, _ => rfl
  | 91, _, _ => rfl
  | 92, _, _ => rfl
  | 93, _, _ => rfl
  | 94, _, _ => rfl
  | 95, _, _ => rfl
  | 96, _, _ => rfl
  | 97, _, _ => rfl
  | 98, _, _ => rfl
  | 99, _, _ => rfl
  | 100, _, _ => rfl
  | 101, _, _ => rfl
  | 102, _, _ => rfl
  | 103, _, _ => rfl
  | 104, _, _ => rfl
  | 105, _, _ => rfl
  | 106, _, _ => rfl
  | 107, _, _ => rfl
  | 108, _, _ => rfl
  | 109, _, _ => rfl
  | 110, _, _ => rfl
  | 111, _, _ => rfl
  | 112, _, _ => rfl
  | 113, _, _ => rfl
  | 114, _, _ => rfl
  | 115, _, _ => rfl
  | 116, _, _ => rfl
  | 117, _, _ => rfl
  | 118, _, _ => rfl
  | 119, _, _ => rfl
  | 120, _, _ => rfl
  | 121, _, _ => rfl
  | 122, _, _ => rfl
  | 123, _, _ => rfl
  | 124, _, _ => rfl
  | 125, _, _ => rfl
  | 126, _, _ => rfl
  | 127, _, _ => rfl
  | 128, _, _ => rfl
  | 129, _, _ => rfl
  | 130, _, _ => rfl
  | 131, _, _ => rfl
  | 132, _, _ => rfl
  | 133, _, _ => rfl
  | 134, _, _ => rfl
  | 135, _, _ => rfl
  | 136, _, _ => rfl
  | 137, _, _ => rfl
  | 138, _, _ => rfl
  | 139, _, _ => rfl
  | 140, _, _ => rfl
  | 141, _, _ => rfl
  | 142, _, _ => rfl
  | 143, _, _ => rfl
  | 144, _, _ => rfl
  | 145, _, _ => rfl
  | 146, _, _ => rfl
  | 147, _, _ => rfl
  | 148, _, _ => rfl
  | 149, _, _ => rfl
  | 150, _, _ => rfl
  | 151, _, _ => rfl
  | 152, _, _ => rfl
  | 153, _, _ => rfl
  | 154, _, _ => rfl
  | 155, _, _ => rfl
  | 156, _, _ => rfl
  | 157, _, _ => rfl
  | 158, _, _ => rfl
  | 159, _, _ => rfl
  | 160, _, _ => rfl
  | 161, _, _ => rfl
  | 162, _, _ => rfl
  | 163, _, _ => rfl
  | 164, _, _ => rfl
  | 165, _, _ => rfl
  | 166, _, _ => rfl
  | 167, _, _ => rfl
  | 168, _, _ => rfl
  | 169, _, _ => rfl
  | 170, _, _ => rfl
  | 171, _, _ => rfl
  | 172, _, _ => rfl
  | 173, _, _ => rfl
  | 174, _, _ => rfl
  | 175, _, _ => rfl
  | 176, _, _ => rfl
  | 177, _, _ => rfl
  | 178, _, _ => rfl
  | 179, _, _ => rfl
  | 180, _, _ => rfl
  | 181, _, _ => rfl
  | 182, _, _ => rfl
  | 183, _, _ => rfl
  | 184, _, _ => rfl
  | 185, _, _ => rfl
  | 186, _, _ => rfl
  | 187, _, _ => rfl
  | 188, _, _ => rfl
  | 189, _, _ => rfl
  | 190, _, _ => rfl
  | 191, _, _ => rfl
  | 192, _, _ => rfl
  | 193, _, _ => rfl
  | 194, _, _ => rfl
  | 195, _, _ => rfl
  | 196, _, _ => rfl
  | 197, _, _ => rfl
  | 198, _, _ => rfl
  | 199, _, _ => rfl
  | 200, _, _ => rfl
  | 201, _, _ => rfl
  | 202, _, _ => rfl
  | 203, _, _ => rfl
  | 204, _, _ => rfl
  | 205, _, _ => rfl
  | 206, _, _ => rfl
  | 207, _, _ => rfl
  | 208, _, _ => rfl
  | 209, _, _ => rfl
  | 210, _, _ => rfl
  | 211, _, _ => rfl
  | 212, _, _ => rfl
  | 213, _, _ => rfl
  | 214, _, _ => rfl
  | 215, _, _ => rfl
  | 216, _, _ => rfl
  | 217, _, _ => rfl
  | 218, _, _ => rfl
  | 219, _, _ => rfl
  | 220, _, _ => rfl
  | 221, _, _ => rfl
  | 222, _, _ => rfl
  | 223, _, _ => rfl
  | 224, _, _ => rfl
  | 225, _, _ => rfl
  | 226, _, _ => rfl
  | 227, _, _ => rfl
  | 228, _, _ => rfl
  | 229, _, _ => rfl
  | 230, _, _ => rfl
  | 231, _, _ => rfl
  | 232, _, _ => rfl
  | 233, _, _ => rfl
  | 234, _, _ => rfl
  | 235, _, _ => rfl
  | 236, _, _ => rfl
  | 237, _, _ => rfl
  | 238, _, _ => rfl
  | 239, _, _ => rfl
  | 240, _, _ => rfl
  | 241, _, _ => rfl
  | 242, _, _ => rfl
  | 243, _, _ => rfl
  | 244, _, _ => rfl
  | 245, _, _ => rfl
  | 246, _, _ => rfl
  | 247, _, _ => rfl
  | 248, _, _ => rfl
  | 249, _, _ => rfl
  | 250, _, _ => rfl
  | 251, _, _ => rfl
  | 252, _, _ => rfl
  | 253, _, _ => rfl
  | 254, _, _ => rfl
  | 255, _, _ => rfl
  | 256, _, _ => rfl
  | 257, _, _ => rfl
  | 258, _, _ => rfl
  | 259, _, _ => rfl
  | 260, _, _ => rfl
  | 261, _, _ => rfl
  | 262, _, _ => rfl
  | 263, _, _ => rfl
  | 264, _, _ => rfl
  | 265, _, _ => rfl
  | 266, _, _ => rfl
  | 267, _, _ => rfl
  | 268, _, _ => rfl
  | 269, _, _ => rfl
  | 270, _, _ => rfl
  | 271, _, _ => rfl
  | 272, _, _ => rfl
  | 273, _, _ => rfl
  | 274, _, _ => rfl
  | 275, _, _ => rfl
  | 276, _, _ => rfl
  | 277, _, _ => rfl
  | 278, _, _ => rfl
  | 279, _, _ => rfl
  | 280, _, _ => rfl
  | 281, _, _ => rfl
  | 282, _, _ => rfl
  | 283, _, _ => rfl
  | 284, _, _ => rfl
  | n + 285, _, h => absurd h (by omega)
def kc_P (f : Nat × Nat × Int) : Prop := Cond.constant (cn_n f.1) f.2.1 (Int32.ofInt f.2.2) ∈ lw_g
set_option maxRecDepth 100000 in
theorem kc_0 : kc_P (9, 140, 999999999) := lw_at (i := 650) rfl
set_option maxRecDepth 100000 in
theorem kc_1 : kc_P (10, 184, 999999999) := lw_at (i := 1362) rfl
set_option maxRecDepth 100000 in
theorem kc_2 : kc_P (11, 265, 1431655765) := lw_at (i := 755) rfl
set_option maxRecDepth 100000 in
theorem kc_3 : kc_P (11, 266, 858993459) := lw_at (i := 756) rfl
set_option maxRecDepth 100000 in
theorem kc_4 : kc_P (11, 267, 252645135) := lw_at (i := 757) rfl
def pg_kc : List (Nat × Nat × Int) := [(9, 140, 999999999), (10, 184, 999999999), (11, 265, 1431655765), (11, 266, 858993459), (11, 267, 252645135)]
set_option maxRecDepth 100000 in
theorem kc_at : ∀ (n : Nat) (f : Nat × Nat × Int), pg_kc[n]? = some f → kc_P f
  | 0, _, h => (Option.some.inj h) ▸ kc_0
  | 1, _, h => (Option.some.inj h) ▸ kc_1
  | 2, _, h => (Option.some.inj h) ▸ kc_2
  | 3, _, h => (Option.some.inj h) ▸ kc_3
  | 4, _, h => (Option.some.inj h) ▸ kc_4
  | n + 5, f, h => absurd (h.symm.trans (List.getElem?_eq_none (Nat.le_add_left 5 n))) (fun z => by cases z)
theorem kc_ok {f : Nat × Nat × Int} (h : f ∈ pg_kc) : kc_P f := by
  obtain ⟨n, hn⟩ := List.getElem?_of_mem h
  exact kc_at n f hn
def kl_P (f : Nat × Nat × Int) : Prop := Cond.constantLong (cn_n f.1) f.2.1 (Int64.ofInt f.2.2) ∈ lw_g
set_option maxRecDepth 100000 in
theorem kl_0 : kl_P (1, 45, 3) := lw_at (i := 691) rfl
set_option maxRecDepth 100000 in
theorem kl_1 : kl_P (3, 28, 27720) := lw_at (i := 831) rfl
set_option maxRecDepth 100000 in
theorem kl_2 : kl_P (3, 36, (-9000000000000000000)) := lw_at (i := 833) rfl
set_option maxRecDepth 100000 in
theorem kl_3 : kl_P (4, 32, (-9000000000000000000)) := lw_at (i := 776) rfl
set_option maxRecDepth 100000 in
theorem kl_4 : kl_P (6, 71, (-2)) := lw_at (i := 712) rfl
set_option maxRecDepth 100000 in
theorem kl_5 : kl_P (7, 55, 4000000000000000000) := lw_at (i := 866) rfl
set_option maxRecDepth 100000 in
theorem kl_6 : kl_P (8, 22, 100) := lw_at (i := 904) rfl
set_option maxRecDepth 100000 in
theorem kl_7 : kl_P (9, 237, 6364136223846793005) := lw_at (i := 728) rfl
set_option maxRecDepth 100000 in
theorem kl_8 : kl_P (9, 239, 1442695040888963407) := lw_at (i := 729) rfl
set_option maxRecDepth 100000 in
theorem kl_9 : kl_P (9, 241, 100) := lw_at (i := 743) rfl
set_option maxRecDepth 100000 in
theorem kl_10 : kl_P (9, 246, (-1000000000000)) := lw_at (i := 770) rfl
set_option maxRecDepth 100000 in
theorem kl_11 : kl_P (9, 248, 5354228880) := lw_at (i := 771) rfl
set_option maxRecDepth 100000 in
theorem kl_12 : kl_P (9, 254, (-9000000000000000000)) := lw_at (i := 792) rfl
set_option maxRecDepth 100000 in
theorem kl_13 : kl_P (9, 273, 27720) := lw_at (i := 835) rfl
set_option maxRecDepth 100000 in
theorem kl_14 : kl_P (9, 278, (-1)) := lw_at (i := 844) rfl
set_option maxRecDepth 100000 in
theorem kl_15 : kl_P (9, 280, (-8999999999999999999)) := lw_at (i := 845) rfl
set_option maxRecDepth 100000 in
theorem kl_16 : kl_P (10, 211, 7501166) := lw_at (i := 1437) rfl
set_option maxRecDepth 100000 in
theorem kl_17 : kl_P (10, 213, 1835627379) := lw_at (i := 1438) rfl
set_option maxRecDepth 100000 in
theorem kl_18 : kl_P (10, 215, 495873782885) := lw_at (i := 1439) rfl
set_option maxRecDepth 100000 in
theorem kl_19 : kl_P (10, 217, 482854658917) := lw_at (i := 1440) rfl
set_option maxRecDepth 100000 in
theorem kl_20 : kl_P (10, 219, 1751216740) := lw_at (i := 1441) rfl
set_option maxRecDepth 100000 in
theorem kl_21 : kl_P (10, 221, 444350952036) := lw_at (i := 1442) rfl
set_option maxRecDepth 100000 in
theorem kl_22 : kl_P (10, 223, 1751741555) := lw_at (i := 1443) rfl
set_option maxRecDepth 100000 in
theorem kl_23 : kl_P (10, 235, 28530) := lw_at (i := 1445) rfl
set_option maxRecDepth 100000 in
theorem kl_24 : kl_P (10, 248, 6385252) := lw_at (i := 1444) rfl
set_option maxRecDepth 100000 in
theorem kl_25 : kl_P (10, 250, 7237492) := lw_at (i := 1421) rfl
set_option maxRecDepth 100000 in
theorem kl_26 : kl_P (10, 269, 26982) := lw_at (i := 1408) rfl
set_option maxRecDepth 100000 in
theorem kl_27 : kl_P (10, 271, 6842740) := lw_at (i := 1391) rfl
set_option maxRecDepth 100000 in
theorem kl_28 : kl_P (10, 276, 114767740298610) := lw_at (i := 1446) rfl
set_option maxRecDepth 100000 in
theorem kl_29 : kl_P (10, 278, 29120983992657252) := lw_at (i := 1447) rfl
set_option maxRecDepth 100000 in
theorem kl_30 : kl_P (10, 280, 1885434739) := lw_at (i := 1452) rfl
set_option maxRecDepth 100000 in
theorem kl_31 : kl_P (10, 344, 6364136223846793005) := lw_at (i := 1526) rfl
set_option maxRecDepth 100000 in
theorem kl_32 : kl_P (10, 346, 1442695040888963407) := lw_at (i := 1527) rfl
set_option maxRecDepth 100000 in
theorem kl_33 : kl_P (10, 348, 100) := lw_at (i := 1528) rfl
set_option maxRecDepth 100000 in
theorem kl_34 : kl_P (10, 370, 495672455781) := lw_at (i := 1558) rfl
set_option maxRecDepth 100000 in
theorem kl_35 : kl_P (10, 372, 418330731890) := lw_at (i := 1559) rfl
set_option maxRecDepth 100000 in
theorem kl_36 : kl_P (10, 374, 1920298611) := lw_at (i := 1560) rfl
set_option maxRecDepth 100000 in
theorem kl_37 : kl_P (10, 376, 30521817456538484) := lw_at (i := 1561) rfl
set_option maxRecDepth 100000 in
theorem kl_38 : kl_P (10, 378, 482670637683) := lw_at (i := 1562) rfl
set_option maxRecDepth 100000 in
theorem kl_39 : kl_P (10, 380, 439855772532) := lw_at (i := 1563) rfl
set_option maxRecDepth 100000 in
theorem kl_40 : kl_P (10, 403, 5354228880) := lw_at (i := 1585) rfl
set_option maxRecDepth 100000 in
theorem kl_41 : kl_P (10, 433, (-1000000000000)) := lw_at (i := 1576) rfl
set_option maxRecDepth 100000 in
theorem kl_42 : kl_P (10, 466, 193154) := lw_at (i := 1652) rfl
set_option maxRecDepth 100000 in
theorem kl_43 : kl_P (10, 474, 27720) := lw_at (i := 1653) rfl
set_option maxRecDepth 100000 in
theorem kl_44 : kl_P (10, 476, (-1)) := lw_at (i := 1662) rfl
set_option maxRecDepth 100000 in
theorem kl_45 : kl_P (10, 492, 4000000000000000000) := lw_at (i := 1675) rfl
set_option maxRecDepth 100000 in
theorem kl_46 : kl_P (10, 503, 2) := lw_at (i := 1688) rfl
def pg_kl : List (Nat × Nat × Int) := [(1, 45, 3), (3, 28, 27720), (3, 36, (-9000000000000000000)), (4, 32, (-9000000000000000000)), (6, 71, (-2)), (7, 55, 4000000000000000000), (8, 22, 100), (9, 237, 6364136223846793005), (9, 239, 1442695040888963407), (9, 241, 100), (9, 246, (-1000000000000)), (9, 248, 5354228880), (9, 254, (-9000000000000000000)), (9, 273, 27720), (9, 278, (-1)), (9, 280, (-8999999999999999999)), (10, 211, 7501166), (10, 213, 1835627379), (10, 215, 495873782885), (10, 217, 482854658917), (10, 219, 1751216740), (10, 221, 444350952036), (10, 223, 1751741555), (10, 235, 28530), (10, 248, 6385252), (10, 250, 7237492), (10, 269, 26982), (10, 271, 6842740), (10, 276, 114767740298610), (10, 278, 29120983992657252), (10, 280, 1885434739), (10, 344, 6364136223846793005), (10, 346, 1442695040888963407), (10, 348, 100), (10, 370, 495672455781), (10, 372, 418330731890), (10, 374, 1920298611), (10, 376, 30521817456538484), (10, 378, 482670637683), (10, 380, 439855772532), (10, 403, 5354228880), (10, 433, (-1000000000000)), (10, 466, 193154), (10, 474, 27720), (10, 476, (-1)), (10, 492, 4000000000000000000), (10, 503, 2)]
set_option maxRecDepth 100000 in
theorem kl_at : ∀ (n : Nat) (f : Nat × Nat × Int), pg_kl[n]? = some f → kl_P f
  | 0, _, h => (Option.some.inj h) ▸ kl_0
  | 1, _, h => (Option.some.inj h) ▸ kl_1
  | 2, _, h => (Option.some.inj h) ▸ kl_2
  | 3, _, h => (Option.some.inj h) ▸ kl_3
  | 4, _, h => (Option.some.inj h) ▸ kl_4
  | 5, _, h => (Option.some.inj h) ▸ kl_5
  | 6, _, h => (Option.some.inj h) ▸ kl_6
  | 7, _, h => (Option.some.inj h) ▸ kl_7
  | 8, _, h => (Option.some.inj h) ▸ kl_8
  | 9, _, h => (Option.some.inj h) ▸ kl_9
  | 10, _, h => (Option.some.inj h) ▸ kl_10
  | 11, _, h => (Option.some.inj h) ▸ kl_11
  | 12, _, h => (Option.some.inj h) ▸ kl_12
  | 13, _, h => (Option.some.inj h) ▸ kl_13
  | 14, _, h => (Option.some.inj h) ▸ kl_14
  | 15, _, h => (Option.some.inj h) ▸ kl_15
  | 16, _, h => (Option.some.inj h) ▸ kl_16
  | 17, _, h => (Option.some.inj h) ▸ kl_17
  | 18, _, h => (Option.some.inj h) ▸ kl_18
  | 19, _, h => (Option.some.inj h) ▸ kl_19
  | 20, _, h => (Option.some.inj h) ▸ kl_20
  | 21, _, h => (Option.some.inj h) ▸ kl_21
  | 22, _, h => (Option.some.inj h) ▸ kl_22
  | 23, _, h => (Option.some.inj h) ▸ kl_23
  | 24, _, h => (Option.some.inj h) ▸ kl_24
  | 25, _, h => (Option.some.inj h) ▸ kl_25
  | 26, _, h => (Option.some.inj h) ▸ kl_26
  | 27, _, h => (Option.some.inj h) ▸ kl_27
  | 28, _, h => (Option.some.inj h) ▸ kl_28
  | 29, _, h => (Option.some.inj h) ▸ kl_29
  | 30, _, h => (Option.some.inj h) ▸ kl_30
  | 31, _, h => (Option.some.inj h) ▸ kl_31
  | 32, _, h => (Option.some.inj h) ▸ kl_32
  | 33, _, h => (Option.some.inj h) ▸ kl_33
  | 34, _, h => (Option.some.inj h) ▸ kl_34
  | 35, _, h => (Option.some.inj h) ▸ kl_35
  | 36, _, h => (Option.some.inj h) ▸ kl_36
  | 37, _, h => (Option.some.inj h) ▸ kl_37
  | 38, _, h => (Option.some.inj h) ▸ kl_38
  | 39, _, h => (Option.some.inj h) ▸ kl_39
  | 40, _, h => (Option.some.inj h) ▸ kl_40
  | 41, _, h => (Option.some.inj h) ▸ kl_41
  | 42, _, h => (Option.some.inj h) ▸ kl_42
  | 43, _, h => (Option.some.inj h) ▸ kl_43
  | 44, _, h => (Option.some.inj h) ▸ kl_44
  | 45, _, h => (Option.some.inj h) ▸ kl_45
  | 46, _, h => (Option.some.inj h) ▸ kl_46
  | n + 47, f, h => absurd (h.symm.trans (List.getElem?_eq_none (Nat.le_add_left 47 n))) (fun z => by cases z)
theorem kl_ok {f : Nat × Nat × Int} (h : f ∈ pg_kl) : kl_P f := by
  obtain ⟨n, hn⟩ := List.getElem?_of_mem h
  exact kl_at n f hn
def nl_P (f : Nat × Nat × Nat) : Prop := ∃ q, vwCl[f.2.2]? = some q ∧ Cond.classLink (cn_n f.1) f.2.1 q.1 ∈ lw_g
set_option maxRecDepth 100000 in
theorem nl_0 : nl_P (2, 15, 6) := ⟨_, rfl, lw_at (i := 341) rfl⟩
set_option maxRecDepth 100000 in
theorem nl_1 : nl_P (2, 31, 0) := ⟨_, rfl, lw_at (i := 343) rfl⟩
set_option maxRecDepth 100000 in
theorem nl_2 : nl_P (9, 7, 1) := ⟨_, rfl, lw_at (i := 134) rfl⟩
set_option maxRecDepth 100000 in
theorem nl_3 : nl_P (9, 24, 6) := ⟨_, rfl, lw_at (i := 177) rfl⟩
set_option maxRecDepth 100000 in
theorem nl_4 : nl_P (9, 38, 4) := ⟨_, rfl, lw_at (i := 210) rfl⟩
set_option maxRecDepth 100000 in
theorem nl_5 : nl_P (9, 47, 5) := ⟨_, rfl, lw_at (i := 212) rfl⟩
set_option maxRecDepth 100000 in
theorem nl_6 : nl_P (9, 57, 0) := ⟨_, rfl, lw_at (i := 239) rfl⟩
set_option maxRecDepth 100000 in
theorem nl_7 : nl_P (9, 64, 3) := ⟨_, rfl, lw_at (i := 280) rfl⟩
set_option maxRecDepth 100000 in
theorem nl_8 : nl_P (9, 71, 7) := ⟨_, rfl, lw_at (i := 298) rfl⟩
set_option maxRecDepth 100000 in
theorem nl_9 : nl_P (9, 78, 8) := ⟨_, rfl, lw_at (i := 322) rfl⟩
set_option maxRecDepth 100000 in
theorem nl_10 : nl_P (9, 85, 2) := ⟨_, rfl, lw_at (i := 335) rfl⟩
set_option maxRecDepth 100000 in
theorem nl_11 : nl_P (17, 7, 9) := ⟨_, rfl, lw_at (i := 126) rfl⟩
set_option maxRecDepth 100000 in
theorem nl_12 : nl_P (17, 10, 10) := ⟨_, rfl, lw_at (i := 1105) rfl⟩
def pg_nl : List (Nat × Nat × Nat) := [(2, 15, 6), (2, 31, 0), (9, 7, 1), (9, 24, 6), (9, 38, 4), (9, 47, 5), (9, 57, 0), (9, 64, 3), (9, 71, 7), (9, 78, 8), (9, 85, 2), (17, 7, 9), (17, 10, 10)]
set_option maxRecDepth 100000 in
theorem nl_at : ∀ (n : Nat) (f : Nat × Nat × Nat), pg_nl[n]? = some f → nl_P f
  | 0, _, h => (Option.some.inj h) ▸ nl_0
  | 1, _, h => (Option.some.inj h) ▸ nl_1
  | 2, _, h => (Option.some.inj h) ▸ nl_2
  | 3, _, h => (Option.some.inj h) ▸ nl_3
  | 4, _, h => (Option.some.inj h) ▸ nl_4
  | 5, _, h => (Option.some.inj h) ▸ nl_5
  | 6, _, h => (Option.some.inj h) ▸ nl_6
  | 7, _, h => (Option.some.inj h) ▸ nl_7
  | 8, _, h => (Option.some.inj h) ▸ nl_8
  | 9, _, h => (Option.some.inj h) ▸ nl_9
  | 10, _, h => (Option.some.inj h) ▸ nl_10
  | 11, _, h => (Option.some.inj h) ▸ nl_11
  | 12, _, h => (Option.some.inj h) ▸ nl_12
  | n + 13, f, h => absurd (h.symm.trans (List.getElem?_eq_none (Nat.le_add_left 13 n))) (fun z => by cases z)
theorem nl_ok {f : Nat × Nat × Nat} (h : f ∈ pg_nl) : nl_P f := by
  obtain ⟨n, hn⟩ := List.getElem?_of_mem h
  exact nl_at n f hn
def mr_P (f : Nat × Nat × Nat) : Prop := Cond.methodLink (cn_n f.1) f.2.1 (pg_y f.2.2).1 ∈ lw_g ∨ ∃ host, Cond.methodLinkNest (cn_n f.1) f.2.1 (pg_y f.2.2).1 host ∈ lw_g
set_option maxRecDepth 100000 in
theorem mr_0 : mr_P (0, 31, 7) := Or.inl (lw_at (i := 717) rfl)
set_option maxRecDepth 100000 in
theorem mr_1 : mr_P (1, 55, 12) := Or.inl (lw_at (i := 815) rfl)
set_option maxRecDepth 100000 in
theorem mr_2 : mr_P (1, 59, 271) := Or.inl (lw_at (i := 821) rfl)
set_option maxRecDepth 100000 in
theorem mr_3 : mr_P (1, 65, 274) := Or.inl (lw_at (i := 1084) rfl)
set_option maxRecDepth 100000 in
theorem mr_4 : mr_P (1, 71, 21) := Or.inl (lw_at (i := 816) rfl)
set_option maxRecDepth 100000 in
theorem mr_5 : mr_P (1, 75, 148) := Or.inr ⟨_, lw_at (i := 820) rfl⟩
set_option maxRecDepth 100000 in
theorem mr_6 : mr_P (1, 79, 23) := Or.inl (lw_at (i := 934) rfl)
set_option maxRecDepth 100000 in
theorem mr_7 : mr_P (2, 17, 59) := Or.inr ⟨_, lw_at (i := 342) rfl⟩
set_option maxRecDepth 100000 in
theorem mr_8 : mr_P (2, 44, 2) := Or.inr ⟨_, lw_at (i := 345) rfl⟩
set_option maxRecDepth 100000 in
theorem mr_9 : mr_P (2, 45, 3) := Or.inl (lw_at (i := 1034) rfl)
set_option maxRecDepth 100000 in
theorem mr_10 : mr_P (2, 51, 63) := Or.inl (lw_at (i := 1046) rfl)
set_option maxRecDepth 100000 in
theorem mr_11 : mr_P (2, 58, 275) := Or.inl (lw_at (i := 1047) rfl)
set_option maxRecDepth 100000 in
theorem mr_12 : mr_P (2, 64, 64) := Or.inl (lw_at (i := 1048) rfl)
set_option maxRecDepth 100000 in
theorem mr_13 : mr_P (2, 68, 4) := Or.inl (lw_at (i := 1053) rfl)
set_option maxRecDepth 100000 in
theorem mr_14 : mr_P (2, 71, 65) := Or.inl (lw_at (i := 1057) rfl)
set_option maxRecDepth 100000 in
theorem mr_15 : mr_P (3, 22, 274) := Or.inl (lw_at (i := 830) rfl)
set_option maxRecDepth 100000 in
theorem mr_16 : mr_P (3, 30, 34) := Or.inl (lw_at (i := 832) rfl)
set_option maxRecDepth 100000 in
theorem mr_17 : mr_P (3, 38, 271) := Or.inl (lw_at (i := 834) rfl)
set_option maxRecDepth 100000 in
theorem mr_18 : mr_P (4, 34, 35) := Or.inl (lw_at (i := 777) rfl)
set_option maxRecDepth 100000 in
theorem mr_19 : mr_P (4, 38, 147) := Or.inr ⟨_, lw_at (i := 781) rfl⟩
set_option maxRecDepth 100000 in
theorem mr_20 : mr_P (4, 42, 271) := Or.inl (lw_at (i := 784) rfl)
set_option maxRecDepth 100000 in
theorem mr_21 : mr_P (4, 48, 148) := Or.inr ⟨_, lw_at (i := 785) rfl⟩
set_option maxRecDepth 100000 in
theorem mr_22 : mr_P (4, 52, 149) := Or.inr ⟨_, lw_at (i := 789) rfl⟩
set_option maxRecDepth 100000 in
theorem mr_23 : mr_P (5, 32, 60) := Or.inl (lw_at (i := 473) rfl)
set_option maxRecDepth 100000 in
theorem mr_24 : mr_P (5, 37, 41) := Or.inl (lw_at (i := 477) rfl)
set_option maxRecDepth 100000 in
theorem mr_25 : mr_P (5, 41, 50) := Or.inl (lw_at (i := 541) rfl)
set_option maxRecDepth 100000 in
theorem mr_26 : mr_P (5, 45, 52) := Or.inl (lw_at (i := 592) rfl)
set_option maxRecDepth 100000 in
theorem mr_27 : mr_P (5, 48, 32) := Or.inl (lw_at (i := 622) rfl)
set_option maxRecDepth 100000 in
theorem mr_28 : mr_P (5, 51, 57) := Or.inl (lw_at (i := 626) rfl)
set_option maxRecDepth 100000 in
theorem mr_29 : mr_P (5, 55, 48) := Or.inl (lw_at (i := 576) rfl)
set_option maxRecDepth 100000 in
theorem mr_30 : mr_P (5, 59, 42) := Or.inl (lw_at (i := 481) rfl)
set_option maxRecDepth 100000 in
theorem mr_31 : mr_P (5, 63, 43) := Or.inl (lw_at (i := 484) rfl)
set_option maxRecDepth 100000 in
theorem mr_32 : mr_P (5, 67, 44) := Or.inl (lw_at (i := 537) rfl)
set_option maxRecDepth 100000 in
theorem mr_33 : mr_P (5, 74, 276) := Or.inl (lw_at (i := 489) rfl)
set_option maxRecDepth 100000 in
theorem mr_34 : mr_P (5, 80, 277) := Or.inl (lw_at (i := 499) rfl)
set_option maxRecDepth 100000 in
theorem mr_35 : mr_P (5, 84, 46) := Or.inl (lw_at (i := 545) rfl)
set_option maxRecDepth 100000 in
theorem mr_36 : mr_P (5, 88, 49) := Or.inl (lw_at (i := 549) rfl)
set_option maxRecDepth 100000 in
theorem mr_37 : mr_P (5, 91, 51) := Or.inl (lw_at (i := 553) rfl)
set_option maxRecDepth 100000 in
theorem mr_38 : mr_P (5, 95, 47) := Or.inl (lw_at (i := 556) rfl)
set_option maxRecDepth 100000 in
theorem mr_39 : mr_P (5, 98, 53) := Or.inl (lw_at (i := 560) rfl)
set_option maxRecDepth 100000 in
theorem mr_40 : mr_P (5, 102, 62) := Or.inl (lw_at (i := 588) rfl)
set_option maxRecDepth 100000 in
theorem mr_41 : mr_P (5, 106, 45) := Or.inl (lw_at (i := 564) rfl)
set_option maxRecDepth 100000 in
theorem mr_42 : mr_P (5, 110, 54) := Or.inl (lw_at (i := 568) rfl)
set_option maxRecDepth 100000 in
theorem mr_43 : mr_P (5, 114, 55) := Or.inl (lw_at (i := 572) rfl)
set_option maxRecDepth 100000 in
theorem mr_44 : mr_P (5, 117, 61) := Or.inl (lw_at (i := 584) rfl)
set_option maxRecDepth 100000 in
theorem mr_45 : mr_P (5, 120, 56) := Or.inl (lw_at (i := 580) rfl)
set_option maxRecDepth 100000 in
theorem mr_46 : mr_P (5, 123, 58) := Or.inl (lw_at (i := 630) rfl)
set_option maxRecDepth 100000 in
theorem mr_47 : mr_P (5, 127, 33) := Or.inl (lw_at (i := 634) rfl)
set_option maxRecDepth 100000 in
theorem mr_48 : mr_P (6, 47, 67) := Or.inl (lw_at (i := 704) rfl)
set_option maxRecDepth 100000 in
theorem mr_49 : mr_P (6, 51, 275) := Or.inl (lw_at (i := 734) rfl)
set_option maxRecDepth 100000 in
theorem mr_50 : mr_P (6, 57, 274) := Or.inl (lw_at (i := 737) rfl)
set_option maxRecDepth 100000 in
theorem mr_51 : mr_P (6, 60, 5) := Or.inl (lw_at (i := 700) rfl)
set_option maxRecDepth 100000 in
theorem mr_52 : mr_P (6, 67, 68) := Or.inl (lw_at (i := 708) rfl)
set_option maxRecDepth 100000 in
theorem mr_53 : mr_P (6, 73, 6) := Or.inl (lw_at (i := 713) rfl)
set_option maxRecDepth 100000 in
theorem mr_54 : mr_P (7, 34, 12) := Or.inl (lw_at (i := 863) rfl)
set_option maxRecDepth 100000 in
theorem mr_55 : mr_P (7, 45, 271) := Or.inl (lw_at (i := 864) rfl)
set_option maxRecDepth 100000 in
theorem mr_56 : mr_P (7, 51, 146) := Or.inr ⟨_, lw_at (i := 865) rfl⟩
set_option maxRecDepth 100000 in
theorem mr_57 : mr_P (7, 57, 282) := Or.inl (lw_at (i := 871) rfl)
set_option maxRecDepth 100000 in
theorem mr_58 : mr_P (7, 63, 72) := Or.inl (lw_at (i := 874) rfl)
set_option maxRecDepth 100000 in
theorem mr_59 : mr_P (7, 67, 274) := Or.inl (lw_at (i := 878) rfl)
set_option maxRecDepth 100000 in
theorem mr_60 : mr_P (7, 73, 73) := Or.inl (lw_at (i := 879) rfl)
set_option maxRecDepth 100000 in
theorem mr_61 : mr_P (8, 18, 78) := Or.inl (lw_at (i := 897) rfl)
set_option maxRecDepth 100000 in
theorem mr_62 : mr_P (8, 27, 75) := Or.inl (lw_at (i := 920) rfl)
set_option maxRecDepth 100000 in
theorem mr_63 : mr_P (8, 31, 76) := Or.inl (lw_at (i := 921) rfl)
set_option maxRecDepth 100000 in
theorem mr_64 : mr_P (8, 35, 275) := Or.inl (lw_at (i := 901) rfl)
set_option maxRecDepth 100000 in
theorem mr_65 : mr_P (8, 41, 274) := Or.inl (lw_at (i := 902) rfl)
set_option maxRecDepth 100000 in
theorem mr_66 : mr_P (8, 44, 282) := Or.inl (lw_at (i := 903) rfl)
set_option maxRecDepth 100000 in
theorem mr_67 : mr_P (9, 9, 8) := Or.inr ⟨_, lw_at (i := 136) rfl⟩
set_option maxRecDepth 100000 in
theorem mr_68 : mr_P (9, 33, 59) := Or.inr ⟨_, lw_at (i := 180) rfl⟩
set_option maxRecDepth 100000 in
theorem mr_69 : mr_P (9, 49, 36) := Or.inr ⟨_, lw_at (i := 214) rfl⟩
set_option maxRecDepth 100000 in
theorem mr_70 : mr_P (9, 59, 2) := Or.inr ⟨_, lw_at (i := 241) rfl⟩
set_option maxRecDepth 100000 in
theorem mr_71 : mr_P (9, 66, 29) := Or.inr ⟨_, lw_at (i := 282) rfl⟩
set_option maxRecDepth 100000 in
theorem mr_72 : mr_P (9, 73, 69) := Or.inr ⟨_, lw_at (i := 300) rfl⟩
set_option maxRecDepth 100000 in
theorem mr_73 : mr_P (9, 80, 74) := Or.inr ⟨_, lw_at (i := 324) rfl⟩
set_option maxRecDepth 100000 in
theorem mr_74 : mr_P (9, 87, 24) := Or.inl (lw_at (i := 337) rfl)
set_option maxRecDepth 100000 in
theorem mr_75 : mr_P (9, 100, 31) := Or.inr ⟨_, lw_at (i := 374) rfl⟩
set_option maxRecDepth 100000 in
theorem mr_76 : mr_P (9, 104, 37) := Or.inl (lw_at (i := 453) rfl)
set_option maxRecDepth 100000 in
theorem mr_77 : mr_P (9, 108, 85) := Or.inl (lw_at (i := 461) rfl)
set_option maxRecDepth 100000 in
theorem mr_78 : mr_P (9, 112, 10) := Or.inl (lw_at (i := 465) rfl)
set_option maxRecDepth 100000 in
theorem mr_79 : mr_P (9, 115, 39) := Or.inl (lw_at (i := 469) rfl)
set_option maxRecDepth 100000 in
theorem mr_80 : mr_P (9, 119, 86) := Or.inl (lw_at (i := 596) rfl)
set_option maxRecDepth 100000 in
theorem mr_81 : mr_P (9, 126, 143) := Or.inl (lw_at (i := 608) rfl)
set_option maxRecDepth 100000 in
theorem mr_82 : mr_P (9, 129, 40) := Or.inl (lw_at (i := 618) rfl)
set_option maxRecDepth 100000 in
theorem mr_83 : mr_P (9, 133, 38) := Or.inl (lw_at (i := 600) rfl)
set_option maxRecDepth 100000 in
theorem mr_84 : mr_P (9, 148, 13) := Or.inl (lw_at (i := 655) rfl)
set_option maxRecDepth 100000 in
theorem mr_85 : mr_P (9, 152, 11) := Or.inl (lw_at (i := 663) rfl)
set_option maxRecDepth 100000 in
theorem mr_86 : mr_P (9, 155, 142) := Or.inl (lw_at (i := 611) rfl)
set_option maxRecDepth 100000 in
theorem mr_87 : mr_P (9, 162, 14) := Or.inl (lw_at (i := 667) rfl)
set_option maxRecDepth 100000 in
theorem mr_88 : mr_P (9, 166, 95) := Or.inl (lw_at (i := 675) rfl)
set_option maxRecDepth 100000 in
theorem mr_89 : mr_P (9, 170, 96) := Or.inl (lw_at (i := 679) rfl)
set_option maxRecDepth 100000 in
theorem mr_90 : mr_P (9, 174, 63) := Or.inl (lw_at (i := 721) rfl)
set_option maxRecDepth 100000 in
theorem mr_91 : mr_P (9, 178, 97) := Or.inl (lw_at (i := 725) rfl)
set_option maxRecDepth 100000 in
theorem mr_92 : mr_P (9, 182, 64) := Or.inl (lw_at (i := 730) rfl)
set_option maxRecDepth 100000 in
theorem mr_93 : mr_P (9, 186, 98) := Or.inl (lw_at (i := 740) rfl)
set_option maxRecDepth 100000 in
theorem mr_94 : mr_P (9, 196, 65) := Or.inl (lw_at (i := 696) rfl)
set_option maxRecDepth 100000 in
theorem mr_95 : mr_P (9, 200, 93) := Or.inl (lw_at (i := 748) rfl)
set_option maxRecDepth 100000 in
theorem mr_96 : mr_P (9, 204, 15) := Or.inl (lw_at (i := 692) rfl)
set_option maxRecDepth 100000 in
theorem mr_97 : mr_P (9, 225, 271) := Or.inl (lw_at (i := 752) rfl)
set_option maxRecDepth 100000 in
theorem mr_98 : mr_P (9, 230, 3) := Or.inl (lw_at (i := 683) rfl)
set_option maxRecDepth 100000 in
theorem mr_99 : mr_P (9, 233, 16) := Or.inl (lw_at (i := 687) rfl)
set_option maxRecDepth 100000 in
theorem mr_100 : mr_P (9, 243, 144) := Or.inl (lw_at (i := 766) rfl)
set_option maxRecDepth 100000 in
theorem mr_101 : mr_P (9, 250, 34) := Or.inl (lw_at (i := 772) rfl)
set_option maxRecDepth 100000 in
theorem mr_102 : mr_P (9, 256, 145) := Or.inl (lw_at (i := 793) rfl)
set_option maxRecDepth 100000 in
theorem mr_103 : mr_P (9, 260, 12) := Or.inl (lw_at (i := 803) rfl)
set_option maxRecDepth 100000 in
theorem mr_104 : mr_P (9, 263, 20) := Or.inl (lw_at (i := 811) rfl)
set_option maxRecDepth 100000 in
theorem mr_105 : mr_P (9, 267, 30) := Or.inl (lw_at (i := 826) rfl)
set_option maxRecDepth 100000 in
theorem mr_106 : mr_P (9, 282, 105) := Or.inl (lw_at (i := 846) rfl)
set_option maxRecDepth 100000 in
theorem mr_107 : mr_P (9, 286, 146) := Or.inl (lw_at (i := 849) rfl)
set_option maxRecDepth 100000 in
theorem mr_108 : mr_P (9, 290, 106) := Or.inl (lw_at (i := 852) rfl)
set_option maxRecDepth 100000 in
theorem mr_109 : mr_P (9, 293, 70) := Or.inl (lw_at (i := 859) rfl)
set_option maxRecDepth 100000 in
theorem mr_110 : mr_P (9, 296, 71) := Or.inl (lw_at (i := 867) rfl)
set_option maxRecDepth 100000 in
theorem mr_111 : mr_P (9, 306, 112) := Or.inl (lw_at (i := 890) rfl)
set_option maxRecDepth 100000 in
theorem mr_112 : mr_P (9, 309, 75) := Or.inl (lw_at (i := 893) rfl)
set_option maxRecDepth 100000 in
theorem mr_113 : mr_P (9, 313, 76) := Or.inl (lw_at (i := 907) rfl)
set_option maxRecDepth 100000 in
theorem mr_114 : mr_P (9, 319, 77) := Or.inl (lw_at (i := 916) rfl)
set_option maxRecDepth 100000 in
theorem mr_115 : mr_P (9, 323, 22) := Or.inl (lw_at (i := 930) rfl)
set_option maxRecDepth 100000 in
theorem mr_116 : mr_P (9, 326, 117) := Or.inl (lw_at (i := 950) rfl)
set_option maxRecDepth 100000 in
theorem mr_117 : mr_P (9, 329, 17) := Or.inl (lw_at (i := 954) rfl)
set_option maxRecDepth 100000 in
theorem mr_118 : mr_P (9, 332, 18) := Or.inl (lw_at (i := 958) rfl)
set_option maxRecDepth 100000 in
theorem mr_119 : mr_P (9, 335, 119) := Or.inl (lw_at (i := 966) rfl)
set_option maxRecDepth 100000 in
theorem mr_120 : mr_P (9, 338, 120) := Or.inl (lw_at (i := 970) rfl)
set_option maxRecDepth 100000 in
theorem mr_121 : mr_P (9, 341, 272) := Or.inl (lw_at (i := 974) rfl)
set_option maxRecDepth 100000 in
theorem mr_122 : mr_P (9, 346, 124) := Or.inl (lw_at (i := 981) rfl)
set_option maxRecDepth 100000 in
theorem mr_123 : mr_P (9, 350, 125) := Or.inl (lw_at (i := 985) rfl)
set_option maxRecDepth 100000 in
theorem mr_124 : mr_P (9, 353, 123) := Or.inl (lw_at (i := 993) rfl)
set_option maxRecDepth 100000 in
theorem mr_125 : mr_P (9, 356, 21) := Or.inl (lw_at (i := 1001) rfl)
set_option maxRecDepth 100000 in
theorem mr_126 : mr_P (9, 359, 128) := Or.inl (lw_at (i := 1006) rfl)
set_option maxRecDepth 100000 in
theorem mr_127 : mr_P (9, 363, 130) := Or.inl (lw_at (i := 1014) rfl)
set_option maxRecDepth 100000 in
theorem mr_128 : mr_P (9, 367, 66) := Or.inl (lw_at (i := 1018) rfl)
set_option maxRecDepth 100000 in
theorem mr_129 : mr_P (9, 372, 25) := Or.inl (lw_at (i := 1030) rfl)
set_option maxRecDepth 100000 in
theorem mr_130 : mr_P (9, 376, 26) := Or.inl (lw_at (i := 1035) rfl)
set_option maxRecDepth 100000 in
theorem mr_131 : mr_P (9, 379, 133) := Or.inl (lw_at (i := 1039) rfl)
set_option maxRecDepth 100000 in
theorem mr_132 : mr_P (9, 386, 27) := Or.inl (lw_at (i := 1042) rfl)
set_option maxRecDepth 100000 in
theorem mr_133 : mr_P (9, 389, 28) := Or.inl (lw_at (i := 1049) rfl)
set_option maxRecDepth 100000 in
theorem mr_134 : mr_P (9, 393, 137) := Or.inl (lw_at (i := 1070) rfl)
set_option maxRecDepth 100000 in
theorem mr_135 : mr_P (9, 396, 149) := Or.inl (lw_at (i := 1074) rfl)
set_option maxRecDepth 100000 in
theorem mr_136 : mr_P (9, 399, 274) := Or.inl (lw_at (i := 1075) rfl)
set_option maxRecDepth 100000 in
theorem mr_137 : mr_P (9, 402, 19) := Or.inl (lw_at (i := 1080) rfl)
set_option maxRecDepth 100000 in
theorem mr_138 : mr_P (9, 405, 275) := Or.inl (lw_at (i := 1085) rfl)
set_option maxRecDepth 100000 in
theorem mr_139 : mr_P (9, 408, 9) := Or.inl (lw_at (i := 1090) rfl)
set_option maxRecDepth 100000 in
theorem mr_140 : mr_P (9, 412, 273) := Or.inl (lw_at (i := 796) rfl)
set_option maxRecDepth 100000 in
theorem mr_141 : mr_P (9, 414, 147) := Or.inl (lw_at (i := 788) rfl)
set_option maxRecDepth 100000 in
theorem mr_142 : mr_P (10, 147, 273) := Or.inl (lw_at (i := 1617) rfl)
set_option maxRecDepth 100000 in
theorem mr_143 : mr_P (10, 153, 155) := Or.inl (lw_at (i := 1614) rfl)
set_option maxRecDepth 100000 in
theorem mr_144 : mr_P (10, 166, 151) := Or.inl (lw_at (i := 1343) rfl)
set_option maxRecDepth 100000 in
theorem mr_145 : mr_P (10, 173, 158) := Or.inl (lw_at (i := 1339) rfl)
set_option maxRecDepth 100000 in
theorem mr_146 : mr_P (10, 177, 159) := Or.inl (lw_at (i := 1350) rfl)
set_option maxRecDepth 100000 in
theorem mr_147 : mr_P (10, 180, 162) := Or.inl (lw_at (i := 1354) rfl)
set_option maxRecDepth 100000 in
theorem mr_148 : mr_P (10, 188, 166) := Or.inl (lw_at (i := 1367) rfl)
set_option maxRecDepth 100000 in
theorem mr_149 : mr_P (10, 198, 167) := Or.inl (lw_at (i := 1383) rfl)
set_option maxRecDepth 100000 in
theorem mr_150 : mr_P (10, 204, 168) := Or.inl (lw_at (i := 1396) rfl)
set_option maxRecDepth 100000 in
theorem mr_151 : mr_P (10, 231, 177) := Or.inl (lw_at (i := 1413) rfl)
set_option maxRecDepth 100000 in
theorem mr_152 : mr_P (10, 237, 169) := Or.inl (lw_at (i := 1392) rfl)
set_option maxRecDepth 100000 in
theorem mr_153 : mr_P (10, 241, 174) := Or.inl (lw_at (i := 1426) rfl)
set_option maxRecDepth 100000 in
theorem mr_154 : mr_P (10, 245, 178) := Or.inl (lw_at (i := 1417) rfl)
set_option maxRecDepth 100000 in
theorem mr_155 : mr_P (10, 252, 175) := Or.inl (lw_at (i := 1422) rfl)
set_option maxRecDepth 100000 in
theorem mr_156 : mr_P (10, 255, 176) := Or.inl (lw_at (i := 1409) rfl)
set_option maxRecDepth 100000 in
theorem mr_157 : mr_P (10, 258, 170) := Or.inl (lw_at (i := 1430) rfl)
set_option maxRecDepth 100000 in
theorem mr_158 : mr_P (10, 261, 173) := Or.inl (lw_at (i := 1434) rfl)
set_option maxRecDepth 100000 in
theorem mr_159 : mr_P (10, 265, 171) := Or.inl (lw_at (i := 1404) rfl)
set_option maxRecDepth 100000 in
theorem mr_160 : mr_P (10, 273, 179) := Or.inl (lw_at (i := 1400) rfl)
set_option maxRecDepth 100000 in
theorem mr_161 : mr_P (10, 282, 172) := Or.inl (lw_at (i := 1379) rfl)
set_option maxRecDepth 100000 in
theorem mr_162 : mr_P (10, 288, 180) := Or.inl (lw_at (i := 1387) rfl)
set_option maxRecDepth 100000 in
theorem mr_163 : mr_P (10, 291, 181) := Or.inl (lw_at (i := 1448) rfl)
set_option maxRecDepth 100000 in
theorem mr_164 : mr_P (10, 294, 182) := Or.inl (lw_at (i := 1375) rfl)
set_option maxRecDepth 100000 in
theorem mr_165 : mr_P (10, 298, 183) := Or.inl (lw_at (i := 1453) rfl)
set_option maxRecDepth 100000 in
theorem mr_166 : mr_P (10, 301, 185) := Or.inl (lw_at (i := 1461) rfl)
set_option maxRecDepth 100000 in
theorem mr_167 : mr_P (10, 304, 188) := Or.inl (lw_at (i := 1510) rfl)
set_option maxRecDepth 100000 in
theorem mr_168 : mr_P (10, 307, 190) := Or.inl (lw_at (i := 1502) rfl)
set_option maxRecDepth 100000 in
theorem mr_169 : mr_P (10, 311, 189) := Or.inl (lw_at (i := 1506) rfl)
set_option maxRecDepth 100000 in
theorem mr_170 : mr_P (10, 315, 275) := Or.inl (lw_at (i := 1533) rfl)
set_option maxRecDepth 100000 in
theorem mr_171 : mr_P (10, 319, 274) := Or.inl (lw_at (i := 1534) rfl)
set_option maxRecDepth 100000 in
theorem mr_172 : mr_P (10, 322, 152) := Or.inl (lw_at (i := 1499) rfl)
set_option maxRecDepth 100000 in
theorem mr_173 : mr_P (10, 326, 153) := Or.inl (lw_at (i := 1484) rfl)
set_option maxRecDepth 100000 in
theorem mr_174 : mr_P (10, 329, 194) := Or.inl (lw_at (i := 1476) rfl)
set_option maxRecDepth 100000 in
theorem mr_175 : mr_P (10, 332, 196) := Or.inl (lw_at (i := 1480) rfl)
set_option maxRecDepth 100000 in
theorem mr_176 : mr_P (10, 335, 197) := Or.inl (lw_at (i := 1487) rfl)
set_option maxRecDepth 100000 in
theorem mr_177 : mr_P (10, 338, 198) := Or.inl (lw_at (i := 1491) rfl)
set_option maxRecDepth 100000 in
theorem mr_178 : mr_P (10, 341, 195) := Or.inl (lw_at (i := 1495) rfl)
set_option maxRecDepth 100000 in
theorem mr_179 : mr_P (10, 350, 199) := Or.inl (lw_at (i := 1472) rfl)
set_option maxRecDepth 100000 in
theorem mr_180 : mr_P (10, 353, 191) := Or.inl (lw_at (i := 1514) rfl)
set_option maxRecDepth 100000 in
theorem mr_181 : mr_P (10, 357, 192) := Or.inl (lw_at (i := 1518) rfl)
set_option maxRecDepth 100000 in
theorem mr_182 : mr_P (10, 360, 200) := Or.inl (lw_at (i := 1522) rfl)
set_option maxRecDepth 100000 in
theorem mr_183 : mr_P (10, 364, 193) := Or.inl (lw_at (i := 1529) rfl)
set_option maxRecDepth 100000 in
theorem mr_184 : mr_P (10, 367, 154) := Or.inl (lw_at (i := 1539) rfl)
set_option maxRecDepth 100000 in
theorem mr_185 : mr_P (10, 382, 204) := Or.inl (lw_at (i := 1564) rfl)
set_option maxRecDepth 100000 in
theorem mr_186 : mr_P (10, 385, 205) := Or.inl (lw_at (i := 1554) rfl)
set_option maxRecDepth 100000 in
theorem mr_187 : mr_P (10, 391, 206) := Or.inl (lw_at (i := 1550) rfl)
set_option maxRecDepth 100000 in
theorem mr_188 : mr_P (10, 400, 209) := Or.inl (lw_at (i := 1590) rfl)
set_option maxRecDepth 100000 in
theorem mr_189 : mr_P (10, 405, 210) := Or.inl (lw_at (i := 1586) rfl)
set_option maxRecDepth 100000 in
theorem mr_190 : mr_P (10, 413, 211) := Or.inl (lw_at (i := 1594) rfl)
set_option maxRecDepth 100000 in
theorem mr_191 : mr_P (10, 416, 212) := Or.inl (lw_at (i := 1598) rfl)
set_option maxRecDepth 100000 in
theorem mr_192 : mr_P (10, 419, 213) := Or.inl (lw_at (i := 1602) rfl)
set_option maxRecDepth 100000 in
theorem mr_193 : mr_P (10, 423, 214) := Or.inl (lw_at (i := 1606) rfl)
set_option maxRecDepth 100000 in
theorem mr_194 : mr_P (10, 426, 215) := Or.inl (lw_at (i := 1581) rfl)
set_option maxRecDepth 100000 in
theorem mr_195 : mr_P (10, 430, 208) := Or.inl (lw_at (i := 1572) rfl)
set_option maxRecDepth 100000 in
theorem mr_196 : mr_P (10, 435, 216) := Or.inl (lw_at (i := 1577) rfl)
set_option maxRecDepth 100000 in
theorem mr_197 : mr_P (10, 438, 156) := Or.inl (lw_at (i := 1610) rfl)
set_option maxRecDepth 100000 in
theorem mr_198 : mr_P (10, 442, 157) := Or.inl (lw_at (i := 1618) rfl)
set_option maxRecDepth 100000 in
theorem mr_199 : mr_P (10, 452, 219) := Or.inl (lw_at (i := 1630) rfl)
set_option maxRecDepth 100000 in
theorem mr_200 : mr_P (10, 462, 222) := Or.inl (lw_at (i := 1649) rfl)
set_option maxRecDepth 100000 in
theorem mr_201 : mr_P (10, 468, 224) := Or.inl (lw_at (i := 1642) rfl)
set_option maxRecDepth 100000 in
theorem mr_202 : mr_P (10, 471, 223) := Or.inl (lw_at (i := 1645) rfl)
set_option maxRecDepth 100000 in
theorem mr_203 : mr_P (10, 481, 228) := Or.inl (lw_at (i := 1671) rfl)
set_option maxRecDepth 100000 in
theorem mr_204 : mr_P (10, 494, 229) := Or.inl (lw_at (i := 1676) rfl)
set_option maxRecDepth 100000 in
theorem mr_205 : mr_P (10, 497, 230) := Or.inl (lw_at (i := 1667) rfl)
set_option maxRecDepth 100000 in
theorem mr_206 : mr_P (10, 500, 231) := Or.inl (lw_at (i := 1680) rfl)
set_option maxRecDepth 100000 in
theorem mr_207 : mr_P (10, 505, 234) := Or.inl (lw_at (i := 1700) rfl)
set_option maxRecDepth 100000 in
theorem mr_208 : mr_P (10, 508, 235) := Or.inl (lw_at (i := 1704) rfl)
set_option maxRecDepth 100000 in
theorem mr_209 : mr_P (10, 511, 236) := Or.inl (lw_at (i := 1696) rfl)
set_option maxRecDepth 100000 in
theorem mr_210 : mr_P (10, 514, 238) := Or.inl (lw_at (i := 1693) rfl)
set_option maxRecDepth 100000 in
theorem mr_211 : mr_P (10, 517, 237) := Or.inl (lw_at (i := 1708) rfl)
set_option maxRecDepth 100000 in
theorem mr_212 : mr_P (10, 521, 240) := Or.inl (lw_at (i := 1716) rfl)
set_option maxRecDepth 100000 in
theorem mr_213 : mr_P (10, 525, 243) := Or.inl (lw_at (i := 1728) rfl)
set_option maxRecDepth 100000 in
theorem mr_214 : mr_P (10, 534, 247) := Or.inl (lw_at (i := 1744) rfl)
set_option maxRecDepth 100000 in
theorem mr_215 : mr_P (10, 540, 272) := Or.inl (lw_at (i := 1764) rfl)
set_option maxRecDepth 100000 in
theorem mr_216 : mr_P (10, 542, 250) := Or.inl (lw_at (i := 1760) rfl)
set_option maxRecDepth 100000 in
theorem mr_217 : mr_P (10, 545, 249) := Or.inl (lw_at (i := 1752) rfl)
set_option maxRecDepth 100000 in
theorem mr_218 : mr_P (10, 548, 251) := Or.inl (lw_at (i := 1756) rfl)
set_option maxRecDepth 100000 in
theorem mr_219 : mr_P (10, 550, 253) := Or.inl (lw_at (i := 1769) rfl)
set_option maxRecDepth 100000 in
theorem mr_220 : mr_P (10, 553, 255) := Or.inl (lw_at (i := 1777) rfl)
set_option maxRecDepth 100000 in
theorem mr_221 : mr_P (10, 557, 257) := Or.inl (lw_at (i := 1785) rfl)
set_option maxRecDepth 100000 in
theorem mr_222 : mr_P (10, 562, 260) := Or.inl (lw_at (i := 1801) rfl)
set_option maxRecDepth 100000 in
theorem mr_223 : mr_P (10, 565, 261) := Or.inl (lw_at (i := 1797) rfl)
set_option maxRecDepth 100000 in
theorem mr_224 : mr_P (13, 335, 278) := Or.inl (lw_at (i := 493) rfl)
set_option maxRecDepth 100000 in
theorem mr_225 : mr_P (13, 492, 279) := Or.inl (lw_at (i := 503) rfl)
set_option maxRecDepth 100000 in
theorem mr_226 : mr_P (13, 495, 281) := Or.inl (lw_at (i := 507) rfl)
set_option maxRecDepth 100000 in
theorem mr_227 : mr_P (13, 1059, 283) := Or.inl (lw_at (i := 515) rfl)
set_option maxRecDepth 100000 in
theorem mr_228 : mr_P (14, 9, 280) := Or.inl (lw_at (i := 510) rfl)
set_option maxRecDepth 100000 in
theorem mr_229 : mr_P (17, 9, 79) := Or.inl (lw_at (i := 128) rfl)
set_option maxRecDepth 100000 in
theorem mr_230 : mr_P (17, 12, 150) := Or.inl (lw_at (i := 1107) rfl)
set_option maxRecDepth 100000 in
theorem mr_231 : mr_P (17, 13, 80) := Or.inl (lw_at (i := 449) rfl)
set_option maxRecDepth 100000 in
theorem mr_232 : mr_P (17, 17, 165) := Or.inl (lw_at (i := 1363) rfl)
set_option maxRecDepth 100000 in
theorem mr_233 : mr_P (17, 18, 87) := Or.inl (lw_at (i := 642) rfl)
set_option maxRecDepth 100000 in
theorem mr_234 : mr_P (17, 22, 160) := Or.inl (lw_at (i := 1331) rfl)
set_option maxRecDepth 100000 in
theorem mr_235 : mr_P (17, 23, 81) := Or.inl (lw_at (i := 457) rfl)
set_option maxRecDepth 100000 in
theorem mr_236 : mr_P (17, 27, 184) := Or.inl (lw_at (i := 1371) rfl)
set_option maxRecDepth 100000 in
theorem mr_237 : mr_P (17, 28, 82) := Or.inl (lw_at (i := 604) rfl)
set_option maxRecDepth 100000 in
theorem mr_238 : mr_P (17, 31, 186) := Or.inl (lw_at (i := 1457) rfl)
set_option maxRecDepth 100000 in
theorem mr_239 : mr_P (17, 32, 83) := Or.inl (lw_at (i := 614) rfl)
set_option maxRecDepth 100000 in
theorem mr_240 : mr_P (17, 36, 207) := Or.inl (lw_at (i := 1546) rfl)
set_option maxRecDepth 100000 in
theorem mr_241 : mr_P (17, 37, 84) := Or.inl (lw_at (i := 638) rfl)
set_option maxRecDepth 100000 in
theorem mr_242 : mr_P (17, 40, 187) := Or.inl (lw_at (i := 1464) rfl)
set_option maxRecDepth 100000 in
theorem mr_243 : mr_P (17, 41, 88) := Or.inl (lw_at (i := 646) rfl)
set_option maxRecDepth 100000 in
theorem mr_244 : mr_P (17, 45, 164) := Or.inl (lw_at (i := 1358) rfl)
set_option maxRecDepth 100000 in
theorem mr_245 : mr_P (17, 46, 89) := Or.inl (lw_at (i := 651) rfl)
set_option maxRecDepth 100000 in
theorem mr_246 : mr_P (17, 49, 161) := Or.inl (lw_at (i := 1335) rfl)
set_option maxRecDepth 100000 in
theorem mr_247 : mr_P (17, 50, 90) := Or.inl (lw_at (i := 659) rfl)
set_option maxRecDepth 100000 in
theorem mr_248 : mr_P (17, 54, 163) := Or.inl (lw_at (i := 1346) rfl)
set_option maxRecDepth 100000 in
theorem mr_249 : mr_P (17, 55, 91) := Or.inl (lw_at (i := 671) rfl)
set_option maxRecDepth 100000 in
theorem mr_250 : mr_P (17, 58, 201) := Or.inl (lw_at (i := 1468) rfl)
set_option maxRecDepth 100000 in
theorem mr_251 : mr_P (17, 59, 92) := Or.inl (lw_at (i := 744) rfl)
set_option maxRecDepth 100000 in
theorem mr_252 : mr_P (17, 63, 202) := Or.inl (lw_at (i := 1535) rfl)
set_option maxRecDepth 100000 in
theorem mr_253 : mr_P (17, 64, 94) := Or.inl (lw_at (i := 758) rfl)
set_option maxRecDepth 100000 in
theorem mr_254 : mr_P (17, 67, 203) := Or.inl (lw_at (i := 1542) rfl)
set_option maxRecDepth 100000 in
theorem mr_255 : mr_P (17, 68, 99) := Or.inl (lw_at (i := 762) rfl)
set_option maxRecDepth 100000 in
theorem mr_256 : mr_P (17, 72, 217) := Or.inl (lw_at (i := 1568) rfl)
set_option maxRecDepth 100000 in
theorem mr_257 : mr_P (17, 73, 100) := Or.inl (lw_at (i := 799) rfl)
set_option maxRecDepth 100000 in
theorem mr_258 : mr_P (17, 76, 218) := Or.inl (lw_at (i := 1622) rfl)
set_option maxRecDepth 100000 in
theorem mr_259 : mr_P (17, 77, 101) := Or.inl (lw_at (i := 807) rfl)
set_option maxRecDepth 100000 in
theorem mr_260 : mr_P (17, 80, 220) := Or.inl (lw_at (i := 1626) rfl)
set_option maxRecDepth 100000 in
theorem mr_261 : mr_P (17, 81, 102) := Or.inl (lw_at (i := 822) rfl)
set_option maxRecDepth 100000 in
theorem mr_262 : mr_P (17, 85, 225) := Or.inl (lw_at (i := 1638) rfl)
set_option maxRecDepth 100000 in
theorem mr_263 : mr_P (17, 86, 103) := Or.inl (lw_at (i := 836) rfl)
set_option maxRecDepth 100000 in
theorem mr_264 : mr_P (17, 89, 226) := Or.inl (lw_at (i := 1654) rfl)
set_option maxRecDepth 100000 in
theorem mr_265 : mr_P (17, 90, 104) := Or.inl (lw_at (i := 840) rfl)
set_option maxRecDepth 100000 in
theorem mr_266 : mr_P (17, 93, 227) := Or.inl (lw_at (i := 1658) rfl)
set_option maxRecDepth 100000 in
theorem mr_267 : mr_P (17, 94, 107) := Or.inl (lw_at (i := 855) rfl)
set_option maxRecDepth 100000 in
theorem mr_268 : mr_P (17, 98, 232) := Or.inl (lw_at (i := 1663) rfl)
set_option maxRecDepth 100000 in
theorem mr_269 : mr_P (17, 99, 108) := Or.inl (lw_at (i := 882) rfl)
set_option maxRecDepth 100000 in
theorem mr_270 : mr_P (17, 102, 233) := Or.inl (lw_at (i := 1684) rfl)
set_option maxRecDepth 100000 in
theorem mr_271 : mr_P (17, 103, 109) := Or.inl (lw_at (i := 886) rfl)
set_option maxRecDepth 100000 in
theorem mr_272 : mr_P (17, 107, 239) := Or.inl (lw_at (i := 1689) rfl)
set_option maxRecDepth 100000 in
theorem mr_273 : mr_P (17, 108, 110) := Or.inl (lw_at (i := 912) rfl)
set_option maxRecDepth 100000 in
theorem mr_274 : mr_P (17, 112, 241) := Or.inl (lw_at (i := 1712) rfl)
set_option maxRecDepth 100000 in
theorem mr_275 : mr_P (17, 113, 111) := Or.inl (lw_at (i := 922) rfl)
set_option maxRecDepth 100000 in
theorem mr_276 : mr_P (17, 116, 242) := Or.inl (lw_at (i := 1720) rfl)
set_option maxRecDepth 100000 in
theorem mr_277 : mr_P (17, 117, 113) := Or.inl (lw_at (i := 926) rfl)
set_option maxRecDepth 100000 in
theorem mr_278 : mr_P (17, 120, 244) := Or.inl (lw_at (i := 1724) rfl)
set_option maxRecDepth 100000 in
theorem mr_279 : mr_P (17, 121, 114) := Or.inl (lw_at (i := 938) rfl)
set_option maxRecDepth 100000 in
theorem mr_280 : mr_P (17, 124, 245) := Or.inl (lw_at (i := 1732) rfl)
set_option maxRecDepth 100000 in
theorem mr_281 : mr_P (17, 125, 115) := Or.inl (lw_at (i := 942) rfl)
set_option maxRecDepth 100000 in
theorem mr_282 : mr_P (17, 128, 246) := Or.inl (lw_at (i := 1736) rfl)
set_option maxRecDepth 100000 in
theorem mr_283 : mr_P (17, 129, 116) := Or.inl (lw_at (i := 946) rfl)
set_option maxRecDepth 100000 in
theorem mr_284 : mr_P (17, 132, 248) := Or.inl (lw_at (i := 1740) rfl)
set_option maxRecDepth 100000 in
theorem mr_285 : mr_P (17, 133, 118) := Or.inl (lw_at (i := 962) rfl)
set_option maxRecDepth 100000 in
theorem mr_286 : mr_P (17, 136, 252) := Or.inl (lw_at (i := 1748) rfl)
set_option maxRecDepth 100000 in
theorem mr_287 : mr_P (17, 137, 121) := Or.inl (lw_at (i := 977) rfl)
set_option maxRecDepth 100000 in
theorem mr_288 : mr_P (17, 140, 254) := Or.inl (lw_at (i := 1765) rfl)
set_option maxRecDepth 100000 in
theorem mr_289 : mr_P (17, 141, 127) := Or.inl (lw_at (i := 1002) rfl)
set_option maxRecDepth 100000 in
theorem mr_290 : mr_P (17, 144, 256) := Or.inl (lw_at (i := 1773) rfl)
set_option maxRecDepth 100000 in
theorem mr_291 : mr_P (17, 145, 129) := Or.inl (lw_at (i := 1010) rfl)
set_option maxRecDepth 100000 in
theorem mr_292 : mr_P (17, 148, 258) := Or.inl (lw_at (i := 1781) rfl)
set_option maxRecDepth 100000 in
theorem mr_293 : mr_P (17, 149, 131) := Or.inl (lw_at (i := 1022) rfl)
set_option maxRecDepth 100000 in
theorem mr_294 : mr_P (17, 152, 259) := Or.inl (lw_at (i := 1789) rfl)
set_option maxRecDepth 100000 in
theorem mr_295 : mr_P (17, 153, 132) := Or.inl (lw_at (i := 1026) rfl)
set_option maxRecDepth 100000 in
theorem mr_296 : mr_P (17, 157, 262) := Or.inl (lw_at (i := 1793) rfl)
set_option maxRecDepth 100000 in
theorem mr_297 : mr_P (17, 158, 134) := Or.inl (lw_at (i := 1058) rfl)
set_option maxRecDepth 100000 in
theorem mr_298 : mr_P (17, 161, 263) := Or.inl (lw_at (i := 1805) rfl)
set_option maxRecDepth 100000 in
theorem mr_299 : mr_P (17, 162, 135) := Or.inl (lw_at (i := 1062) rfl)
set_option maxRecDepth 100000 in
theorem mr_300 : mr_P (17, 165, 264) := Or.inl (lw_at (i := 1809) rfl)
set_option maxRecDepth 100000 in
theorem mr_301 : mr_P (17, 166, 136) := Or.inl (lw_at (i := 1066) rfl)
set_option maxRecDepth 100000 in
theorem mr_302 : mr_P (17, 169, 265) := Or.inl (lw_at (i := 1813) rfl)
set_option maxRecDepth 100000 in
theorem mr_303 : mr_P (17, 170, 122) := Or.inl (lw_at (i := 989) rfl)
set_option maxRecDepth 100000 in
theorem mr_304 : mr_P (17, 173, 266) := Or.inl (lw_at (i := 1817) rfl)
set_option maxRecDepth 100000 in
theorem mr_305 : mr_P (17, 174, 126) := Or.inl (lw_at (i := 997) rfl)
set_option maxRecDepth 100000 in
theorem mr_306 : mr_P (17, 178, 221) := Or.inl (lw_at (i := 1634) rfl)
set_option maxRecDepth 100000 in
theorem mr_307 : mr_P (17, 179, 138) := Or.inl (lw_at (i := 1076) rfl)
set_option maxRecDepth 100000 in
theorem mr_308 : mr_P (17, 182, 267) := Or.inl (lw_at (i := 1821) rfl)
set_option maxRecDepth 100000 in
theorem mr_309 : mr_P (17, 183, 139) := Or.inl (lw_at (i := 1086) rfl)
set_option maxRecDepth 100000 in
theorem mr_310 : mr_P (17, 186, 268) := Or.inl (lw_at (i := 1825) rfl)
set_option maxRecDepth 100000 in
theorem mr_311 : mr_P (17, 187, 140) := Or.inl (lw_at (i := 1097) rfl)
set_option maxRecDepth 100000 in
theorem mr_312 : mr_P (17, 190, 269) := Or.inl (lw_at (i := 1829) rfl)
set_option maxRecDepth 100000 in
theorem mr_313 : mr_P (17, 191, 141) := Or.inl (lw_at (i := 1101) rfl)
set_option maxRecDepth 100000 in
theorem mr_314 : mr_P (17, 194, 270) := Or.inl (lw_at (i := 1833) rfl)
def pg_mr : List (Nat × Nat × Nat) := [(0, 31, 7), (1, 55, 12), (1, 59, 271), (1, 65, 274), (1, 71, 21), (1, 75, 148), (1, 79, 23), (2, 17, 59), (2, 44, 2), (2, 45, 3), (2, 51, 63), (2, 58, 275), (2, 64, 64), (2, 68, 4), (2, 71, 65), (3, 22, 274), (3, 30, 34), (3, 38, 271), (4, 34, 35), (4, 38, 147), (4, 42, 271), (4, 48, 148), (4, 52, 149), (5, 32, 60), (5, 37, 41), (5, 41, 50), (5, 45, 52), (5, 48, 32), (5, 51, 57), (5, 55, 48), (5, 59, 42), (5, 63, 43), (5, 67, 44), (5, 74, 276), (5, 80, 277), (5, 84, 46), (5, 88, 49), (5, 91, 51), (5, 95, 47), (5, 98, 53), (5, 102, 62), (5, 106, 45), (5, 110, 54), (5, 114, 55), (5, 117, 61), (5, 120, 56), (5, 123, 58), (5, 127, 33), (6, 47, 67), (6, 51, 275), (6, 57, 274), (6, 60, 5), (6, 67, 68), (6, 73, 6), (7, 34, 12), (7, 45, 271), (7, 51, 146), (7, 57, 282), (7, 63, 72), (7, 67, 274), (7, 73, 73), (8, 18, 78), (8, 27, 75), (8, 31, 76), (8, 35, 275), (8, 41, 274), (8, 44, 282), (9, 9, 8), (9, 33, 59), (9, 49, 36), (9, 59, 2), (9, 66, 29), (9, 73, 69), (9, 80, 74), (9, 87, 24), (9, 100, 31), (9, 104, 37), (9, 108, 85), (9, 112, 10), (9, 115, 39), (9, 119, 86), (9, 126, 143), (9, 129, 40), (9, 133, 38), (9, 148, 13), (9, 152, 11), (9, 155, 142), (9, 162, 14), (9, 166, 95), (9, 170, 96), (9, 174, 63), (9, 178, 97), (9, 182, 64), (9, 186, 98), (9, 196, 65), (9, 200, 93), (9, 204, 15), (9, 225, 271), (9, 230, 3), (9, 233, 16), (9, 243, 144), (9, 250, 34), (9, 256, 145), (9, 260, 12), (9, 263, 20), (9, 267, 30), (9, 282, 105), (9, 286, 146), (9, 290, 106), (9, 293, 70), (9, 296, 71), (9, 306, 112), (9, 309, 75), (9, 313, 76), (9, 319, 77), (9, 323, 22), (9, 326, 117), (9, 329, 17), (9, 332, 18), (9, 335, 119), (9, 338, 120), (9, 341, 272), (9, 346, 124), (9, 350, 125), (9, 353, 123), (9, 356, 21), (9, 359, 128), (9, 363, 130), (9, 367, 66), (9, 372, 25), (9, 376, 26), (9, 379, 133), (9, 386, 27), (9, 389, 28), (9, 393, 137), (9, 396, 149), (9, 399, 274), (9, 402, 19), (9, 405, 275), (9, 408, 9), (9, 412, 273), (9, 414, 147), (10, 147, 273), (10, 153, 155), (10, 166, 151), (10, 173, 158), (10, 177, 159), (10, 180, 162), (10, 188, 166), (10, 198, 167), (10, 204, 168), (10, 231, 177), (10, 237, 169), (10, 241, 174), (10, 245, 178), (10, 252, 175), (10, 255, 176), (10, 258, 170), (10, 261, 173), (10, 265, 171), (10, 273, 179), (10, 282, 172), (10, 288, 180), (10, 291, 181), (10, 294, 182), (10, 298, 183), (10, 301, 185), (10, 304, 188), (10, 307, 190), (10, 311, 189), (10, 315, 275), (10, 319, 274), (10, 322, 152), (10, 326, 153), (10, 329, 194), (10, 332, 196), (10, 335, 197), (10, 338, 198), (10, 341, 195), (10, 350, 199), (10, 353, 191), (10, 357, 192), (10, 360, 200), (10, 364, 193), (10, 367, 154), (10, 382, 204), (10, 385, 205), (10, 391, 206), (10, 400, 209), (10, 405, 210), (10, 413, 211), (10, 416, 212), (10, 419, 213), (10, 423, 214), (10, 426, 215), (10, 430, 208), (10, 435, 216), (10, 438, 156), (10, 442, 157), (10, 452, 219), (10, 462, 222), (10, 468, 224), (10, 471, 223), (10, 481, 228), (10, 494, 229), (10, 497, 230), (10, 500, 231), (10, 505, 234), (10, 508, 235), (10, 511, 236), (10, 514, 238), (10, 517, 237), (10, 521, 240), (10, 525, 243), (10, 534, 247), (10, 540, 272), (10, 542, 250), (10, 545, 249), (10, 548, 251), (10, 550, 253), (10, 553, 255), (10, 557, 257), (10, 562, 260), (10, 565, 261), (13, 335, 278), (13, 492, 279), (13, 495, 281), (13, 1059, 283), (14, 9, 280), (17, 9, 79), (17, 12, 150), (17, 13, 80), (17, 17, 165), (17, 18, 87), (17, 22, 160), (17, 23, 81), (17, 27, 184), (17, 28, 82), (17, 31, 186), (17, 32, 83), (17, 36, 207), (17, 37, 84), (17, 40, 187), (17, 41, 88), (17, 45, 164), (17, 46, 89), (17, 49, 161), (17, 50, 90), (17, 54, 163), (17, 55, 91), (17, 58, 201), (17, 59, 92), (17, 63, 202), (17, 64, 94), (17, 67, 203), (17, 68, 99), (17, 72, 217), (17, 73, 100), (17, 76, 218), (17, 77, 101), (17, 80, 220), (17, 81, 102), (17, 85, 225), (17, 86, 103), (17, 89, 226), (17, 90, 104), (17, 93, 227), (17, 94, 107), (17, 98, 232), (17, 99, 108), (17, 102, 233), (17, 103, 109), (17, 107, 239), (17, 108, 110), (17, 112, 241), (17, 113, 111), (17, 116, 242), (17, 117, 113), (17, 120, 244), (17, 121, 114), (17, 124, 245), (17, 125, 115), (17, 128, 246), (17, 129, 116), (17, 132, 248), (17, 133, 118), (17, 136, 252), (17, 137, 121), (17, 140, 254), (17, 141, 127), (17, 144, 256), (17, 145, 129), (17, 148, 258), (17, 149, 131), (17, 152, 259), (17, 153, 132), (17, 157, 262), (17, 158, 134), (17, 161, 263), (17, 162, 135), (17, 165, 264), (17, 166, 136), (17, 169, 265), (17, 170, 122), (17, 173, 266), (17, 174, 126), (17, 178, 221), (17, 179, 138), (17, 182, 267), (17, 183, 139), (17, 186, 268), (17, 187, 140), (17, 190, 269), (17, 191, 141), (17, 194, 270)]
set_option maxRecDepth 100000 in
theorem mr_at : ∀ (n : Nat) (f : Nat × Nat × Nat), pg_mr[n]? = some f → mr_P f
  | 0, _, h => (Option.some.inj h) ▸ mr_0
  | 1, _, h => (Option.some.inj h) ▸ mr_1
  | 2, _, h => (Option.some.inj h) ▸ mr_2
  | 3, _, h => (Option.some.inj h) ▸ mr_3
  | 4, _, h => (Option.some.inj h) ▸ mr_4
  | 5, _, h => (Option.some.inj h) ▸ mr_5
  | 6, _, h => (Option.some.inj h) ▸ mr_6
  | 7, _, h => (Option.some.inj h) ▸ mr_7
  | 8, _, h => (Option.some.inj h) ▸ mr_8
  | 9, _, h => (Option.some.inj h) ▸ mr_9
  | 10, _, h => (Option.some.inj h) ▸ mr_10
  | 11, _, h => (Option.some.inj h) ▸ mr_11
  | 12, _, h => (Option.some.inj h) ▸ mr_12
  | 13, _, h => (Option.some.inj h) ▸ mr_13
  | 14, _, h => (Option.some.inj h) ▸ mr_14
  | 15, _, h => (Option.some.inj h) ▸ mr_15
  | 16, _, h => (Option.some.inj h) ▸ mr_16
  | 17, _, h => (Option.some.inj h) ▸ mr_17
  | 18, _, h => (Option.some.inj h) ▸ mr_18
  | 19, _, h => (Option.some.inj h) ▸ mr_19
  | 20, _, h => (Option.some.inj h) ▸ mr_20
  | 21, _, h => (Option.some.inj h) ▸ mr_21
  | 22, _, h => (Option.some.inj h) ▸ mr_22
  | 23, _, h => (Option.some.inj h) ▸ mr_23
  | 24, _, h => (Option.some.inj h) ▸ mr_24
  | 25, _, h => (Option.some.inj h) ▸ mr_25
  | 26, _, h => (Option.some.inj h) ▸ mr_26
  | 27, _, h => (Option.some.inj h) ▸ mr_27
  | 28, _, h => (Option.some.inj h) ▸ mr_28
  | 29, _, h => (Option.some.inj h) ▸ mr_29
  | 30, _, h => (Option.some.inj h) ▸ mr_30
  | 31, _, h => (Option.some.inj h) ▸ mr_31
  | 32, _, h => (Option.some.inj h) ▸ mr_32
  | 33, _, h => (Option.some.inj h) ▸ mr_33
  | 34, _, h => (Option.some.inj h) ▸ mr_34
  | 35, _, h => (Option.some.inj h) ▸ mr_35
  | 36, _, h => (Option.some.inj h) ▸ mr_36
  | 37, _, h => (Option.some.inj h) ▸ mr_37
  | 38, _, h => (Option.some.inj h) ▸ mr_38
  | 39, _, h => (Option.some.inj h) ▸ mr_39
  | 40, _, h => (Option.some.inj h) ▸ mr_40
  | 41, _, h => (Option.some.inj h) ▸ mr_41
  | 42, _, h => (Option.some.inj h) ▸ mr_42
  | 43, _, h => (Option.some.inj h) ▸ mr_43
  | 44, _, h => (Option.some.inj h) ▸ mr_44
  | 45, _, h => (Option.some.inj h) ▸ mr_45
  | 46, _, h => (Option.some.inj h) ▸ mr_46
  | 47, _, h => (Option.some.inj h) ▸ mr_47
  | 48, _, h => (Option.some.inj h) ▸ mr_48
  | 49, _, h => (Option.some.inj h) ▸ mr_49
  | 50, _, h => (Option.some.inj h) ▸ mr_50
  | 51, _, h => (Option.some.inj h) ▸ mr_51
  | 52, _, h => (Option.some.inj h) ▸ mr_52
  | 53, _, h => (Option.some.inj h) ▸ mr_53
  | 54, _, h => (Option.some.inj h) ▸ mr_54
  | 55, _, h => (Option.some.inj h) ▸ mr_55
  | 56, _, h => (Option.some.inj h) ▸ mr_56
  | 57, _, h => (Option.some.inj h) ▸ mr_57
  | 58, _, h => (Option.some.inj h) ▸ mr_58
  | 59, _, h => (Option.some.inj h) ▸ mr_59
  | 60, _, h => (Option.some.inj h) ▸ mr_60
  | 61, _, h => (Option.some.inj h) ▸ mr_61
  | 62, _, h => (Option.some.inj h) ▸ mr_62
  | 63, _, h => (Option.some.inj h) ▸ mr_63
  | 64, _, h => (Option.some.inj h) ▸ mr_64
  | 65, _, h => (Option.some.inj h) ▸ mr_65
  | 66, _, h => (Option.some.inj h) ▸ mr_66
  | 67, _, h => (Option.some.inj h) ▸ mr_67
  | 68, _, h => (Option.some.inj h) ▸ mr_68
  | 69, _, h => (Option.some.inj h) ▸ mr_69
  | 70, _, h => (Option.some.inj h) ▸ mr_70
  | 71, _, h => (Option.some.inj h) ▸ mr_71
  | 72, _, h => (Option.some.inj h) ▸ mr_72
  | 73, _, h => (Option.some.inj h) ▸ mr_73
  | 74, _, h => (Option.some.inj h) ▸ mr_74
  | 75, _, h => (Option.some.inj h) ▸ mr_75
  | 76, _, h => (Option.some.inj h) ▸ mr_76
  | 77, _, h => (Option.some.inj h) ▸ mr_77
  | 78, _, h => (Option.some.inj h) ▸ mr_78
  | 79, _, h => (Option.some.inj h) ▸ mr_79
  | 80, _, h => (Option.some.inj h) ▸ mr_80
  | 81, _, h => (Option.some.inj h) ▸ mr_81
  | 82, _, h => (Option.some.inj h) ▸ mr_82
  | 83, _, h => (Option.some.inj h) ▸ mr_83
  | 84, _, h => (Option.some.inj h) ▸ mr_84
  | 85, _, h => (Option.some.inj h) ▸ mr_85
  | 86, _, h => (Option.some.inj h) ▸ mr_86
  | 87, _, h => (Option.some.inj h) ▸ mr_87
  | 88, _, h => (Option.some.inj h) ▸ mr_88
  | 89, _, h => (Option.some.inj h) ▸ mr_89
  | 90, _, h => (Option.some.inj h) ▸ mr_90
  | 91, _, h => (Option.some.inj h) ▸ mr_91
  | 92, _, h => (Option.some.inj h) ▸ mr_92
  | 93, _, h => (Option.some.inj h) ▸ mr_93
  | 94, _, h => (Option.some.inj h) ▸ mr_94
  | 95, _, h => (Option.some.inj h) ▸ mr_95
  | 96, _, h => (Option.some.inj h) ▸ mr_96
  | 97, _, h => (Option.some.inj h) ▸ mr_97
  | 98, _, h => (Option.some.inj h) ▸ mr_98
  | 99, _, h => (Option.some.inj h) ▸ mr_99
  | 100, _, h => (Option.some.inj h) ▸ mr_100
  | 101, _, h => (Option.some.inj h) ▸ mr_101
  | 102, _, h => (Option.some.inj h) ▸ mr_102
  | 103, _, h => (Option.some.inj h) ▸ mr_103
  | 104, _, h => (Option.some.inj h) ▸ mr_104
  | 105, _, h => (Option.some.inj h) ▸ mr_105
  | 106, _, h => (Option.some.inj h) ▸ mr_106
  | 107, _, h => (Option.some.inj h) ▸ mr_107
  | 108, _, h => (Option.some.inj h) ▸ mr_108
  | 109, _, h => (Option.some.inj h) ▸ mr_109
  | 110, _, h => (Option.some.inj h) ▸ mr_110
  | 111, _, h => (Option.some.inj h) ▸ mr_111
  | 112, _, h => (Option.some.inj h) ▸ mr_112
  | 113, _, h => (Option.some.inj h) ▸ mr_113
  | 114, _, h => (Option.some.inj h) ▸ mr_114
  | 115, _, h => (Option.some.inj h) ▸ mr_115
  | 116, _, h => (Option.some.inj h) ▸ mr_116
  | 117, _, h => (Option.some.inj h) ▸ mr_117
  | 118, _, h => (Option.some.inj h) ▸ mr_118
  | 119, _, h => (Option.some.inj h) ▸ mr_119
  | 120, _, h => (Option.some.inj h) ▸ mr_120
  | 121, _, h => (Option.some.inj h) ▸ mr_121
  | 122, _, h => (Option.some.inj h) ▸ mr_122
  | 123, _, h => (Option.some.inj h) ▸ mr_123
  | 124, _, h => (Option.some.inj h) ▸ mr_124
  | 125, _, h => (Option.some.inj h) ▸ mr_125
  | 126, _, h => (Option.some.inj h) ▸ mr_126
  | 127, _, h => (Option.some.inj h) ▸ mr_127
  | 128, _, h => (Option.some.inj h) ▸ mr_128
  | 129, _, h => (Option.some.inj h) ▸ mr_129
  | 130, _, h => (Option.some.inj h) ▸ mr_130
  | 131, _, h => (Option.some.inj h) ▸ mr_131
  | 132, _, h => (Option.some.inj h) ▸ mr_132
  | 133, _, h => (Option.some.inj h) ▸ mr_133
  | 134, _, h => (Option.some.inj h) ▸ mr_134
  | 135, _, h => (Option.some.inj h) ▸ mr_135
  | 136, _, h => (Option.some.inj h) ▸ mr_136
  | 137, _, h => (Option.some.inj h) ▸ mr_137
  | 138, _, h => (Option.some.inj h) ▸ mr_138
  | 139, _, h => (Option.some.inj h) ▸ mr_139
  | 140, _, h => (Option.some.inj h) ▸ mr_140
  | 141, _, h => (Option.some.inj h) ▸ mr_141
  | 142, _, h => (Option.some.inj h) ▸ mr_142
  | 143, _, h => (Option.some.inj h) ▸ mr_143
  | 144, _, h => (Option.some.inj h) ▸ mr_144
  | 145, _, h => (Option.some.inj h) ▸ mr_145
  | 146, _, h => (Option.some.inj h) ▸ mr_146
  | 147, _, h => (Option.some.inj h) ▸ mr_147
  | 148, _, h => (Option.some.inj h) ▸ mr_148
  | 149, _, h => (Option.some.inj h) ▸ mr_149
  | 150, _, h => (Option.some.inj h) ▸ mr_150
  | 151, _, h => (Option.some.inj h) ▸ mr_151
  | 152, _, h => (Option.some.inj h) ▸ mr_152
  | 153, _, h => (Option.some.inj h) ▸ mr_153
  | 154, _, h => (Option.some.inj h) ▸ mr_154
  | 155, _, h => (Option.some.inj h) ▸ mr_155
  | 156, _, h => (Option.some.inj h) ▸ mr_156
  | 157, _, h => (Option.some.inj h) ▸ mr_157
  | 158, _, h => (Option.some.inj h) ▸ mr_158
  | 159, _, h => (Option.some.inj h) ▸ mr_159
  | 160, _, h => (Option.some.inj h) ▸ mr_160
  | 161, _, h => (Option.some.inj h) ▸ mr_161
  | 162, _, h => (Option.some.inj h) ▸ mr_162
  | 163, _, h => (Option.some.inj h) ▸ mr_163
  | 164, _, h => (Option.some.inj h) ▸ mr_164
  | 165, _, h => (Option.some.inj h) ▸ mr_165
  | 166, _, h => (Option.some.inj h) ▸ mr_166
  | 167, _, h => (Option.some.inj h) ▸ mr_167
  | 168, _, h => (Option.some.inj h) ▸ mr_168
  | 169, _, h => (Option.some.inj h) ▸ mr_169
  | 170, _, h => (Option.some.inj h) ▸ mr_170
  | 171, _, h => (Option.some.inj h) ▸ mr_171
  | 172, _, h => (Option.some.inj h) ▸ mr_172
  | 173, _, h => (Option.some.inj h) ▸ mr_173
  | 174, _, h => (Option.some.inj h) ▸ mr_174
  | 175, _, h => (Option.some.inj h) ▸ mr_175
  | 176, _, h => (Option.some.inj h) ▸ mr_176
  | 177, _, h => (Option.some.inj h) ▸ mr_177
  | 178, _, h => (Option.some.inj h) ▸ mr_178
  | 179, _, h => (Option.some.inj h) ▸ mr_179
  | 180, _, h => (Option.some.inj h) ▸ mr_180
  | 181, _, h => (Option.some.inj h) ▸ mr_181
  | 182, _, h => (Option.some.inj h) ▸ mr_182
  | 183, _, h => (Option.some.inj h) ▸ mr_183
  | 184, _, h => (Option.some.inj h) ▸ mr_184
  | 185, _, h => (Option.some.inj h) ▸ mr_185
  | 186, _, h => (Option.some.inj h) ▸ mr_186
  | 187, _, h => (Option.some.inj h) ▸ mr_187
  | 188, _, h => (Option.some.inj h) ▸ mr_188
  | 189, _, h => (Option.some.inj h) ▸ mr_189
  | 190, _, h => (Option.some.inj h) ▸ mr_190
  | 191, _, h => (Option.some.inj h) ▸ mr_191
  | 192, _, h => (Option.some.inj h) ▸ mr_192
  | 193, _, h => (Option.some.inj h) ▸ mr_193
  | 194, _, h => (Option.some.inj h) ▸ mr_194
  | 195, _, h => (Option.some.inj h) ▸ mr_195
  | 196, _, h => (Option.some.inj h) ▸ mr_196
  | 197, _, h => (Option.some.inj h) ▸ mr_197
  | 198, _, h => (Option.some.inj h) ▸ mr_198
  | 199, _, h => (Option.some.inj h) ▸ mr_199
  | 200, _, h => (Option.some.inj h) ▸ mr_200
  | 201, _, h => (Option.some.inj h) ▸ mr_201
  | 202, _, h => (Option.some.inj h) ▸ mr_202
  | 203, _, h => (Option.some.inj h) ▸ mr_203
  | 204, _, h => (Option.some.inj h) ▸ mr_204
  | 205, _, h => (Option.some.inj h) ▸ mr_205
  | 206, _, h => (Option.some.inj h) ▸ mr_206
  | 207, _, h => (Option.some.inj h) ▸ mr_207
  | 208, _, h => (Option.some.inj h) ▸ mr_208
  | 209, _, h => (Option.some.inj h) ▸ mr_209
  | 210, _, h => (Option.some.inj h) ▸ mr_210
  | 211, _, h => (Option.some.inj h) ▸ mr_211
  | 212, _, h => (Option.some.inj h) ▸ mr_212
  | 213, _, h => (Option.some.inj h) ▸ mr_213
  | 214, _, h => (Option.some.inj h) ▸ mr_214
  | 215, _, h => (Option.some.inj h) ▸ mr_215
  | 216, _, h => (Option.some.inj h) ▸ mr_216
  | 217, _, h => (Option.some.inj h) ▸ mr_217
  | 218, _, h => (Option.some.inj h) ▸ mr_218
  | 219, _, h => (Option.some.inj h) ▸ mr_219
  | 220, _, h => (Option.some.inj h) ▸ mr_220
  | 221, _, h => (Option.some.inj h) ▸ mr_221
  | 222, _, h => (Option.some.inj h) ▸ mr_222
  | 223, _, h => (Option.some.inj h) ▸ mr_223
  | 224, _, h => (Option.some.inj h) ▸ mr_224
  | 225, _, h => (Option.some.inj h) ▸ mr_225
  | 226, _, h => (Option.some.inj h) ▸ mr_226
  | 227, _, h => (Option.some.inj h) ▸ mr_227
  | 228, _, h => (Option.some.inj h) ▸ mr_228
  | 229, _, h => (Option.some.inj h) ▸ mr_229
  | 230, _, h => (Option.some.inj h) ▸ mr_230
  | 231, _, h => (Option.some.inj h) ▸ mr_231
  | 232, _, h => (Option.some.inj h) ▸ mr_232
  | 233, _, h => (Option.some.inj h) ▸ mr_233
  | 234, _, h => (Option.some.inj h) ▸ mr_234
  | 235, _, h => (Option.some.inj h) ▸ mr_235
  | 236, _, h => (Option.some.inj h) ▸ mr_236
  | 237, _, h => (Option.some.inj h) ▸ mr_237
  | 238, _, h => (Option.some.inj h) ▸ mr_238
  | 239, _, h => (Option.some.inj h) ▸ mr_239
  | 240, _, h => (Option.some.inj h) ▸ mr_240
  | 241, _, h => (Option.some.inj h) ▸ mr_241
  | 242, _, h => (Option.some.inj h) ▸ mr_242
  | 243, _, h => (Option.some.inj h) ▸ mr_243
  | 244, _, h => (Option.some.inj h) ▸ mr_244
  | 245, _, h => (Option.some.inj h) ▸ mr_245
  | 246, _, h => (Option.some.inj h) ▸ mr_246
  | 247, _, h => (Option.some.inj h) ▸ mr_247
  | 248, _, h => (Option.some.inj h) ▸ mr_248
  | 249, _, h => (Option.some.inj h) ▸ mr_249
  | 250, _, h => (Option.some.inj h) ▸ mr_250
  | 251, _, h => (Option.some.inj h) ▸ mr_251
  | 252, _, h => (Option.some.inj h) ▸ mr_252
  | 253, _, h => (Option.some.inj h) ▸ mr_253
  | 254, _, h => (Option.some.inj h) ▸ mr_254
  | 255, _, h => (Option.some.inj h) ▸ mr_255
  | 256, _, h => (Option.some.inj h) ▸ mr_256
  | 257, _, h => (Option.some.inj h) ▸ mr_257
  | 258, _, h => (Option.some.inj h) ▸ mr_258
  | 259, _, h => (Option.some.inj h) ▸ mr_259
  | 260, _, h => (Option.some.inj h) ▸ mr_260
  | 261, _, h => (Option.some.inj h) ▸ mr_261
  | 262, _, h => (Option.some.inj h) ▸ mr_262
  | 263, _, h => (Option.some.inj h) ▸ mr_263
  | 264, _, h => (Option.some.inj h) ▸ mr_264
  | 265, _, h => (Option.some.inj h) ▸ mr_265
  | 266, _, h => (Option.some.inj h) ▸ mr_266
  | 267, _, h => (Option.some.inj h) ▸ mr_267
  | 268, _, h => (Option.some.inj h) ▸ mr_268
  | 269, _, h => (Option.some.inj h) ▸ mr_269
  | 270, _, h => (Option.some.inj h) ▸ mr_270
  | 271, _, h => (Option.some.inj h) ▸ mr_271
  | 272, _, h => (Option.some.inj h) ▸ mr_272
  | 273, _, h => (Option.some.inj h) ▸ mr_273
  | 274, _, h => (Option.some.inj h) ▸ mr_274
  | 275, _, h => (Option.some.inj h) ▸ mr_275
  | 276, _, h => (Option.some.inj h) ▸ mr_276
  | 277, _, h => (Option.some.inj h) ▸ mr_277
  | 278, _, h => (Option.some.inj h) ▸ mr_278
  | 279, _, h => (Option.some.inj h) ▸ mr_279
  | 280, _, h => (Option.some.inj h) ▸ mr_280
  | 281, _, h => (Option.some.inj h) ▸ mr_281
  | 282, _, h => (Option.some.inj h) ▸ mr_282
  | 283, _, h => (Option.some.inj h) ▸ mr_283
  | 284, _, h => (Option.some.inj h) ▸ mr_284
  | 285, _, h => (Option.some.inj h) ▸ mr_285
  | 286, _, h => (Option.some.inj h) ▸ mr_286
  | 287, _, h => (Option.some.inj h) ▸ mr_287
  | 288, _, h => (Option.some.inj h) ▸ mr_288
  | 289, _, h => (Option.some.inj h) ▸ mr_289
  | 290, _, h => (Option.some.inj h) ▸ mr_290
  | 291, _, h => (Option.some.inj h) ▸ mr_291
  | 292, _, h => (Option.some.inj h) ▸ mr_292
  | 293, _, h => (Option.some.inj h) ▸ mr_293
  | 294, _, h => (Option.some.inj h) ▸ mr_294
  | 295, _, h => (Option.some.inj h) ▸ mr_295
  | 296, _, h => (Option.some.inj h) ▸ mr_296
  | 297, _, h => (Option.some.inj h) ▸ mr_297
  | 298, _, h => (Option.some.inj h) ▸ mr_298
  | 299, _, h => (Option.some.inj h) ▸ mr_299
  | 300, _, h => (Option.some.inj h) ▸ mr_300
  | 301, _, h => (Option.some.inj h) ▸ mr_301
  | 302, _, h => (Option.some.inj h) ▸ mr_302
  | 303, _, h => (Option.some.inj h) ▸ mr_303
  | 304, _, h => (Option.some.inj h) ▸ mr_304
  | 305, _, h => (Option.some.inj h) ▸ mr_305
  | 306, _, h => (Option.some.inj h) ▸ mr_306
  | 307, _, h => (Option.some.inj h) ▸ mr_307
  | 308, _, h => (Option.some.inj h) ▸ mr_308
  | 309, _, h => (Option.some.inj h) ▸ mr_309
  | 310, _, h => (Option.some.inj h) ▸ mr_310
  | 311, _, h => (Option.some.inj h) ▸ mr_311
  | 312, _, h => (Option.some.inj h) ▸ mr_312
  | 313, _, h => (Option.some.inj h) ▸ mr_313
  | 314, _, h => (Option.some.inj h) ▸ mr_314
  | n + 315, f, h => absurd (h.symm.trans (List.getElem?_eq_none (Nat.le_add_left 315 n))) (fun z => by cases z)
theorem mr_ok {f : Nat × Nat × Nat} (h : f ∈ pg_mr) : mr_P f := by
  obtain ⟨n, hn⟩ := List.getElem?_of_mem h
  exact mr_at n f hn
def oi_P (f : Nat × Nat) : Prop := Cond.methodLink (cn_n f.1) f.2 Lib.objectInit ∈ lw_g
set_option maxRecDepth 100000 in
theorem oi_0 : oi_P (0, 1) := lw_at (i := 244) rfl
set_option maxRecDepth 100000 in
theorem oi_1 : oi_P (1, 3) := lw_at (i := 139) rfl
set_option maxRecDepth 100000 in
theorem oi_2 : oi_P (2, 3) := lw_at (i := 340) rfl
set_option maxRecDepth 100000 in
theorem oi_3 : oi_P (3, 3) := lw_at (i := 285) rfl
set_option maxRecDepth 100000 in
theorem oi_4 : oi_P (4, 3) := lw_at (i := 377) rfl
set_option maxRecDepth 100000 in
theorem oi_5 : oi_P (5, 3) := lw_at (i := 217) rfl
set_option maxRecDepth 100000 in
theorem oi_6 : oi_P (6, 3) := lw_at (i := 183) rfl
set_option maxRecDepth 100000 in
theorem oi_7 : oi_P (7, 3) := lw_at (i := 303) rfl
set_option maxRecDepth 100000 in
theorem oi_8 : oi_P (8, 3) := lw_at (i := 327) rfl
set_option maxRecDepth 100000 in
theorem oi_9 : oi_P (9, 1) := lw_at (i := 131) rfl
set_option maxRecDepth 100000 in
theorem oi_10 : oi_P (10, 1) := lw_at (i := 1110) rfl
def pg_oi : List (Nat × Nat) := [(0, 1), (1, 3), (2, 3), (3, 3), (4, 3), (5, 3), (6, 3), (7, 3), (8, 3), (9, 1), (10, 1)]
set_option maxRecDepth 100000 in
theorem oi_at : ∀ (n : Nat) (f : Nat × Nat), pg_oi[n]? = some f → oi_P f
  | 0, _, h => (Option.some.inj h) ▸ oi_0
  | 1, _, h => (Option.some.inj h) ▸ oi_1
  | 2, _, h => (Option.some.inj h) ▸ oi_2
  | 3, _, h => (Option.some.inj h) ▸ oi_3
  | 4, _, h => (Option.some.inj h) ▸ oi_4
  | 5, _, h => (Option.some.inj h) ▸ oi_5
  | 6, _, h => (Option.some.inj h) ▸ oi_6
  | 7, _, h => (Option.some.inj h) ▸ oi_7
  | 8, _, h => (Option.some.inj h) ▸ oi_8
  | 9, _, h => (Option.some.inj h) ▸ oi_9
  | 10, _, h => (Option.some.inj h) ▸ oi_10
  | n + 11, f, h => absurd (h.symm.trans (List.getElem?_eq_none (Nat.le_add_left 11 n))) (fun z => by cases z)
theorem oi_ok {f : Nat × Nat} (h : f ∈ pg_oi) : oi_P f := by
  obtain ⟨n, hn⟩ := List.getElem?_of_mem h
  exact oi_at n f hn
def ac_P (f : Nat × Nat) : Prop := Cond.methodLink (cn_n f.1) f.2 arraycopyName ∈ lw_g
set_option maxRecDepth 100000 in
theorem ac_0 : ac_P (1, 39) := lw_at (i := 1094) rfl
def pg_ac : List (Nat × Nat) := [(1, 39)]
set_option maxRecDepth 100000 in
theorem ac_at : ∀ (n : Nat) (f : Nat × Nat), pg_ac[n]? = some f → ac_P f
  | 0, _, h => (Option.some.inj h) ▸ ac_0
  | n + 1, f, h => absurd (h.symm.trans (List.getElem?_eq_none (Nat.le_add_left 1 n))) (fun z => by cases z)
theorem ac_ok {f : Nat × Nat} (h : f ∈ pg_ac) : ac_P f := by
  obtain ⟨n, hn⟩ := List.getElem?_of_mem h
  exact ac_at n f hn
def gt_P (f : Nat × Nat × Nat) : Prop := gs_P (cn_n f.1) f.2.1 f.2.2
set_option maxRecDepth 100000 in
theorem gt_0 : gt_P (8, 24, 0) := Or.inl ⟨rfl, Or.inr (lw_at (i := 905) rfl)⟩
set_option maxRecDepth 100000 in
theorem gt_1 : gt_P (9, 316, 0) := Or.inl ⟨rfl, Or.inl (lw_at (i := 911) rfl)⟩
set_option maxRecDepth 100000 in
theorem gt_2 : gt_P (13, 38, 1) := Or.inr (Or.inl ⟨rfl, lw_at (i := 497) rfl⟩)
set_option maxRecDepth 100000 in
theorem gt_3 : gt_P (13, 1053, 2) := Or.inr (Or.inr ⟨rfl, lw_at (i := 513) rfl⟩)
def pg_gt : List (Nat × Nat × Nat) := [(8, 24, 0), (9, 316, 0), (13, 38, 1), (13, 1053, 2)]
set_option maxRecDepth 100000 in
theorem gt_at : ∀ (n : Nat) (f : Nat × Nat × Nat), pg_gt[n]? = some f → gt_P f
  | 0, _, h => (Option.some.inj h) ▸ gt_0
  | 1, _, h => (Option.some.inj h) ▸ gt_1
  | 2, _, h => (Option.some.inj h) ▸ gt_2
  | 3, _, h => (Option.some.inj h) ▸ gt_3
  | n + 4, f, h => absurd (h.symm.trans (List.getElem?_eq_none (Nat.le_add_left 4 n))) (fun z => by cases z)
theorem gt_ok {f : Nat × Nat × Nat} (h : f ∈ pg_gt) : gt_P f := by
  obtain ⟨n, hn⟩ := List.getElem?_of_mem h
  exact gt_at n f hn
theorem oi_w : Cond.instanceMethod Lib.objectInit ∈ lw_g ∧ Cond.code Lib.objectInit ⟨#[0xb1]⟩ 1 none ∈ lw_g := ⟨lw_at (i := 132) rfl, lw_at (i := 133) rfl⟩
set_option maxRecDepth 100000 in
theorem ac_w : Cond.native arraycopyName ∈ lw_g ∧ Cond.static arraycopyName ∈ lw_g ∧ Cond.initialized "java/lang/System" ∈ lw_g := ⟨lw_at (i := 1096) rfl, lw_at (i := 1095) rfl, lw_at (i := 125) rfl⟩
theorem ar_w : Cond.arrayClass .int ∈ lw_g ∧ Cond.arrayClass .byte ∈ lw_g ∧ Cond.arrayClass .boolean ∈ lw_g ∧ Cond.arrayClass .long ∈ lw_g := ⟨lw_at (i := 174) rfl, lw_at (i := 238) rfl, lw_at (i := 372) rfl, lw_at (i := 175) rfl⟩
theorem ao_w : Cond.arrayOver (.object "HotHand$Asked") ∈ lw_g ∧ Cond.arrayOver (.object "HotHand$Court") ∈ lw_g ∧ Cond.arrayOver (.object "HotHand$Measure") ∈ lw_g ∧ Cond.arrayOver (.object "HotHand$Rules") ∈ lw_g := ⟨lw_at (i := 344) rfl, lw_at (i := 176) rfl, lw_at (i := 211) rfl, lw_at (i := 178) rfl⟩
def pg_PC : List (List Nat) := [[], [], [0], [0], [0], [0, 14, 15, 27, 33, 49, 50], [0, 48, 57, 58, 59, 68, 69, 70, 79, 80], [0, 40, 45, 50, 55, 60, 65, 70], [0], [0], [0, 16, 17], [0, 16, 17], [0, 15, 19, 20], [0], [0, 26, 27], [0, 18, 19], [0], [0, 4, 31, 32, 40], [0, 4, 34, 35, 43], [0, 4, 32, 38], [0, 6, 40, 46], [0, 36, 38], [0, 6, 63, 84, 86, 92, 98], [0, 5, 45, 46, 54], [0, 69, 107], [0], [0], [0, 20, 21, 37, 41, 42, 61, 67, 84, 88, 117], [0, 62, 78], [0], [0, 10, 36, 39, 80, 93, 159, 165], [0], [0], [0, 70], [0, 8, 14, 47, 69], [0, 56, 66, 77, 78, 115, 130, 131, 156, 166, 175, 199, 208, 225], [0], [0, 3, 40, 46], [0], [0, 12, 46, 54, 56, 62, 78, 79], [0, 14, 31, 45, 58, 71, 72, 83, 85, 101], [0, 4, 54, 95, 124, 140, 146, 157, 163], [0, 14, 30, 31], [0, 11, 64, 65, 73, 86, 95, 101], [0, 9, 14, 42], [0, 30, 31], [0, 43, 44], [0, 43, 44], [0, 30, 31], [0], [0, 11, 30, 51, 52, 60], [0, 40, 43, 45, 47, 50], [0, 28, 44], [0, 29, 40], [0, 2, 20, 23, 56, 68, 78, 89, 100], [0, 26, 34, 56, 64, 84, 86], [0, 12, 46, 63], [0, 26, 31, 44, 73, 96, 117, 123], [0, 19], [0], [0], [0, 30], [0, 10, 63, 73], [0], [0], [0], [0, 2, 26, 32], [0, 3, 41, 47], [0, 10, 18, 20, 54, 74, 92, 108, 109, 112, 118, 130, 131], [0], [0, 12, 76, 78, 108, 114], [0, 22, 58, 64, 72, 97], [0, 24, 51, 68, 79, 122, 137], [0, 12, 31], [0], [0, 18, 65, 71], [0, 14, 46], [0, 36, 37], [0, 57, 67, 119, 120, 159, 165], [0, 159, 183, 185, 210, 212, 236, 238, 263], [0, 18], [0, 19, 22, 44], [0, 15, 18, 40], [0, 11, 23, 49], [0], [0, 19, 20], [0, 9, 16], [0, 14], [0, 10, 12], [0, 23, 25], [0, 44, 46], [0, 37, 39, 65, 161, 162, 171], [0, 13, 25, 42, 44, 96, 112, 113, 114, 122, 130, 138, 151, 159, 167, 175], [0, 28, 38, 48, 61], [0, 13, 72, 80, 88, 97, 105], [0], [0, 16, 60, 86], [0], [0, 18, 19], [0, 28, 32, 79, 88], [0, 16, 33, 37, 46, 124, 130, 141, 154], [0, 30, 32, 48, 49], [0, 38, 42], [0, 39, 43, 69, 107], [0, 28, 32, 58, 96, 125, 128], [0, 20, 49, 65], [0, 11], [0, 35, 39, 68, 81, 89], [0, 20, 24, 26, 47, 48, 52, 87, 93], [0, 30, 34, 58, 82], [0, 30, 32, 35, 62, 68], [0, 20, 22, 25, 52, 58], [0, 34, 35], [0, 29, 31], [0, 20, 24, 32, 120, 126], [0, 20, 24, 38, 115], [0, 19, 20], [0, 17, 30], [0, 18, 20, 32, 44, 53, 80, 81, 90, 91, 103, 104, 113, 114, 160, 172, 178, 184, 212, 215, 218, 221], [0, 4, 29, 69, 80, 86], [0, 5, 45], [0, 12, 16, 65, 71], [0, 40, 52, 64, 76, 88, 94, 100], [0, 4, 31, 37], [0], [0], [0, 47, 49, 55, 81, 82, 94], [0, 70, 74, 88, 140, 146, 176, 180, 183], [0, 6, 53, 58, 61, 72, 74, 97, 103, 112], [0, 27, 29, 41, 42, 53, 54], [0, 6, 41, 109, 111, 125, 128, 149, 155], [0, 27, 31, 52, 75, 98, 137], [0, 67, 71, 108], [0, 14, 16, 62, 90], [0, 50, 54, 72, 91, 151, 152, 176, 213, 219, 229, 240, 254], [0, 41, 43, 49, 84, 164, 175, 179, 180, 183, 204, 210], [0, 20, 22, 36, 127, 133, 160, 162, 165, 168], [0, 18, 64, 65, 91], [0, 31, 33, 64, 66, 121, 167, 168], [0, 10], [0, 12, 14], [0, 24, 48, 92, 100, 108, 117, 126, 131, 136, 144], [0, 14, 15], [0], [0, 16, 17], [0, 10, 22, 57, 68, 77, 78], [0, 9, 11, 16, 42], [0, 8, 17], [0, 18, 40], [0, 4, 26], [0], [0, 14, 15], [0, 8, 9], [0, 13, 14], [0, 4, 21], [0, 12, 37], [0], [0, 11, 15], [0], [0], [0, 11], [0, 17, 19], [0, 51], [0, 38, 40], [0, 12], [0, 15], [0, 3, 36], [0, 39, 52], [0, 14, 85, 86, 100, 118, 119], [0, 11], [0, 28, 30], [0, 14, 75, 81, 111, 113], [0, 2, 25], [0, 12, 24, 36, 48, 60, 72, 85, 86], [0], [0, 11], [0, 9, 28, 38], [0, 9, 28, 38], [0, 20, 37, 56, 90, 116, 118, 130, 145, 166, 179, 192, 193, 209, 211], [0, 42, 52, 81], [0, 18, 35, 52, 70, 85, 86, 104, 124, 142, 153], [0, 17, 34, 57, 58], [0, 43, 86, 93, 106, 107, 115, 132, 140, 149, 153], [0, 60, 152, 156, 212], [0, 20, 23, 34], [0], [0, 19, 22, 33], [0], [0, 9, 71, 75, 100, 104, 119, 120, 127, 159, 160, 164, 204, 208, 212, 236, 237, 238, 244, 268, 272, 273], [0, 6, 50, 56], [0], [0], [0], [0], [0, 2, 21], [0, 20, 21, 35, 43], [0], [0], [0], [0, 6, 45], [0], [0, 25, 27, 51, 93, 94, 134], [0, 24, 26, 44, 58, 75, 76, 77, 132, 142, 149, 156, 163, 186, 193, 200, 208], [0, 17, 19, 62, 72, 93, 99], [0, 14, 28, 29], [0, 28, 47, 61, 75, 89, 103, 117, 132, 133, 146, 175, 179, 180, 194, 198, 211, 250, 271, 281], [0, 15, 37, 65, 83, 96, 97, 98, 104], [0, 15, 27, 45, 54, 58, 67, 85, 174], [0], [0], [0, 16, 55, 73, 74, 82], [0, 5, 35, 36, 47], [0, 9, 33, 34, 51], [0, 6, 43, 44, 56], [0, 3, 26, 36, 40], [0, 44, 57, 94, 95, 109, 124, 125, 137, 155, 165, 189], [0, 9, 10, 21, 71], [0, 25, 29, 59], [0, 13, 30, 34, 43, 71, 102, 115, 121, 132], [0, 13, 38, 86, 92], [0, 27, 29, 58, 62], [0, 41, 43, 68, 72], [0, 5, 22], [0, 13, 41, 96, 102], [0, 24, 25], [0, 26, 30, 50], [0, 39, 43, 85], [0, 36, 40, 74, 94, 116, 137, 157, 158, 165, 171, 180, 182], [0, 2, 18, 46, 50, 81, 88, 94, 108, 112, 123], [0, 17, 18, 25, 35, 58], [0, 17, 37, 38, 45, 47, 77, 120, 166, 192, 195, 207, 262, 268, 282, 311, 317], [0, 7, 30], [0, 25, 29, 40, 52, 57], [0, 20, 24, 26, 45, 46, 53, 58, 76, 100, 114, 142, 153, 179, 185], [0, 22, 48, 49, 66, 67, 74, 77, 86, 167, 168, 176, 179, 220, 226], [0, 5, 36], [0, 10, 45], [0], [0, 34, 35], [0, 30, 34, 49], [0, 31, 32], [0, 30, 32, 35, 59, 65], [0, 20, 22, 25, 49, 55], [0, 2, 21, 23, 33, 93, 94, 141, 142, 167, 173], [0, 26, 28], [0, 17, 21, 34, 112, 118], [0, 17, 21, 40, 117, 131, 135], [0, 12, 33, 66, 72, 83, 95], [0, 16, 17], [0, 7, 29, 34, 70, 87, 93], [0, 5, 43], [0, 49], [0, 18, 20, 34, 43, 54, 85, 86, 95, 96, 108, 109, 118, 119, 129, 135, 141], [0, 2, 57, 83, 84], [0, 12, 16, 89, 95], [0, 6, 28, 30, 51, 57, 92, 98, 101, 107], [0, 64, 68, 82, 137, 145, 151, 162, 173, 175], [0, 2, 20, 28, 40, 109, 136, 142, 177, 215, 216, 221, 227, 233], [0, 24, 26], [0, 24, 28, 58, 82, 93, 142], [0, 2, 31], [0, 8, 29, 32, 67, 68, 79, 83, 94, 95, 130, 131, 174, 180, 199, 232, 238], [0, 61, 65, 71, 93, 95, 124], [0, 47, 51, 66, 82, 124, 125, 157, 178, 191, 197, 212, 223], [0, 38, 40, 52, 64, 131, 157, 163, 169, 179, 190, 192], [0, 17, 19, 33, 48, 92, 93, 125, 126, 148, 149, 167, 168, 185, 191, 199, 209, 219, 221], [0, 11, 34, 35, 55, 59, 60, 64, 83, 129, 133, 144, 145, 150, 156], [0, 28, 30, 36, 70, 76, 90, 92, 129], [0, 10, 56, 118, 120, 169], [0, 16, 56, 118, 120, 169], [0, 21, 45, 92, 97, 102, 104, 127, 129, 131, 157, 159, 164, 169, 174], [0], [0, 9, 10], [0, 11, 12], [0, 9, 10], [0, 9, 10], [0], [0, 16], [0, 13, 14], [0, 17, 18], [0], [0], [0, 6, 22], [0, 9, 16], [0, 18, 216, 279, 292, 325, 358, 381, 394, 417, 440, 458, 459, 490, 491, 509, 542, 585, 618, 662, 706, 724, 725, 756, 757, 775, 829, 883, 927, 961, 995, 1059, 1112, 1165, 1208, 1242, 1276, 1299, 1332, 1355, 1419, 1462, 1506, 1582, 1646, 1699, 1732, 1755, 1778, 1779, 1815, 1816, 1834, 1877, 1890, 1913, 1936, 1942]]
def pg_p (m b : Nat) : Nat := (pg_PC.getD m []).getD b 0
