/-! facts of the methods and of the method references, by program -/
abbrev my_T : Type := MethodName × ByteArray × Option FieldType × Nat × Nat
def my_K (y : MethodName) : Nat → Prop
  | 0 => Cond.static y ∈ lw_g
  | 1 => Cond.instanceMethod y ∈ lw_g ∧ Cond.selects y.cls y y ∈ lw_g
  | _ => Cond.instanceMethod y ∈ lw_g ∧ y.name = "<init>"
def default_my : my_T := (⟨"", "", ""⟩, .empty, none, 0, 0)
def my_P (n : Nat) (t : my_T) : Prop := Cond.code t.1 t.2.1 n t.2.2.1 ∈ lw_g ∧ Cond.initialized t.1.cls ∈ lw_g ∧ (plainName t.1.cls = true ∧ t.1.cls ≠ "java/lang/invoke/MethodHandle" ∧ t.1.cls ≠ "java/lang/invoke/VarHandle" ∧ (parseMethodDescriptor t.1.desc).map (fun d => d.parameters.length) = some t.2.2.2.2 ∧ n ≤ 40) ∧ my_K t.1 t.2.2.2.1
set_option maxRecDepth 100000 in
theorem my_2 : my_P 1 (⟨"HotHand$Asked", "<init>", "()V"⟩, prog_2_method_1_code, none, 2, 0) := ⟨lw_at (i := 243) rfl, lw_at (i := 111) rfl, by decide +kernel, ⟨lw_at (i := 242) rfl, rfl⟩⟩
set_option maxRecDepth 100000 in
theorem my_3 : my_P 1 (⟨"HotHand$Asked", "clear", "()V"⟩, prog_2_method_2_code, none, 1, 0) := ⟨lw_at (i := 686) rfl, lw_at (i := 111) rfl, by decide +kernel, ⟨lw_at (i := 684) rfl, lw_at (i := 685) rfl⟩⟩
set_option maxRecDepth 100000 in
theorem my_4 : my_P 2 (⟨"HotHand$Asked", "copy", "(LHotHand$Asked;)V"⟩, prog_2_method_3_code, none, 1, 1) := ⟨lw_at (i := 1056) rfl, lw_at (i := 111) rfl, by decide +kernel, ⟨lw_at (i := 1054) rfl, lw_at (i := 1055) rfl⟩⟩
set_option maxRecDepth 100000 in
theorem my_5 : my_P 2 (⟨"HotHand$Asked", "add", "(Z)V"⟩, prog_2_method_4_code, none, 1, 1) := ⟨lw_at (i := 703) rfl, lw_at (i := 111) rfl, by decide +kernel, ⟨lw_at (i := 701) rfl, lw_at (i := 702) rfl⟩⟩
set_option maxRecDepth 100000 in
theorem my_6 : my_P 4 (⟨"HotHand$Asked", "meets", "(I)Z"⟩, prog_2_method_5_code, some .boolean, 1, 1) := ⟨lw_at (i := 716) rfl, lw_at (i := 111) rfl, by decide +kernel, ⟨lw_at (i := 714) rfl, lw_at (i := 715) rfl⟩⟩
set_option maxRecDepth 100000 in
theorem my_7 : my_P 2 (⟨"HotHand$Asked", "wordOf", "(I)I"⟩, prog_2_method_6_code, some .int, 1, 1) := ⟨lw_at (i := 720) rfl, lw_at (i := 111) rfl, by decide +kernel, ⟨lw_at (i := 719) rfl, lw_at (i := 22) rfl⟩⟩
set_option maxRecDepth 100000 in
theorem my_8 : my_P 1 (⟨"HotHand$Court", "<init>", "()V"⟩, prog_3_method_1_code, none, 2, 0) := ⟨lw_at (i := 138) rfl, lw_at (i := 108) rfl, by decide +kernel, ⟨lw_at (i := 137) rfl, rfl⟩⟩
set_option maxRecDepth 100000 in
theorem my_9 : my_P 2 (⟨"HotHand$Court", "copy", "(LHotHand$Court;)V"⟩, prog_3_method_2_code, none, 1, 1) := ⟨lw_at (i := 1093) rfl, lw_at (i := 108) rfl, by decide +kernel, ⟨lw_at (i := 1091) rfl, lw_at (i := 1092) rfl⟩⟩
set_option maxRecDepth 100000 in
theorem my_10 : my_P 2 (⟨"HotHand$Court", "hasThrower", "(I)Z"⟩, prog_3_method_3_code, some .boolean, 1, 1) := ⟨lw_at (i := 468) rfl, lw_at (i := 108) rfl, by decide +kernel, ⟨lw_at (i := 466) rfl, lw_at (i := 467) rfl⟩⟩
set_option maxRecDepth 100000 in
theorem my_11 : my_P 2 (⟨"HotHand$Court", "hasRow", "(I)Z"⟩, prog_3_method_4_code, some .boolean, 1, 1) := ⟨lw_at (i := 666) rfl, lw_at (i := 108) rfl, by decide +kernel, ⟨lw_at (i := 664) rfl, lw_at (i := 665) rfl⟩⟩
set_option maxRecDepth 100000 in
theorem my_12 : my_P 3 (⟨"HotHand$Court", "isOf", "(II)Z"⟩, prog_3_method_5_code, some .boolean, 1, 2) := ⟨lw_at (i := 806) rfl, lw_at (i := 108) rfl, by decide +kernel, ⟨lw_at (i := 804) rfl, lw_at (i := 805) rfl⟩⟩
set_option maxRecDepth 100000 in
theorem my_13 : my_P 2 (⟨"HotHand$Court", "addRow", "(I)I"⟩, prog_3_method_6_code, some .int, 1, 1) := ⟨lw_at (i := 658) rfl, lw_at (i := 108) rfl, by decide +kernel, ⟨lw_at (i := 656) rfl, lw_at (i := 657) rfl⟩⟩
set_option maxRecDepth 100000 in
theorem my_14 : my_P 6 (⟨"HotHand$Court", "addThrow", "(IZII)V"⟩, prog_3_method_7_code, none, 1, 4) := ⟨lw_at (i := 670) rfl, lw_at (i := 108) rfl, by decide +kernel, ⟨lw_at (i := 668) rfl, lw_at (i := 669) rfl⟩⟩
set_option maxRecDepth 100000 in
theorem my_15 : my_P 3 (⟨"HotHand$Court", "isHitAt", "(II)Z"⟩, prog_3_method_8_code, some .boolean, 1, 2) := ⟨lw_at (i := 695) rfl, lw_at (i := 108) rfl, by decide +kernel, ⟨lw_at (i := 693) rfl, lw_at (i := 694) rfl⟩⟩
set_option maxRecDepth 100000 in
theorem my_16 : my_P 4 (⟨"HotHand$Court", "show", "(IILHotHand$Asked;)V"⟩, prog_3_method_9_code, none, 1, 3) := ⟨lw_at (i := 690) rfl, lw_at (i := 108) rfl, by decide +kernel, ⟨lw_at (i := 688) rfl, lw_at (i := 689) rfl⟩⟩
set_option maxRecDepth 100000 in
theorem my_17 : my_P 4 (⟨"HotHand$Court", "countThrows", "(I)I"⟩, prog_3_method_10_code, some .int, 1, 1) := ⟨lw_at (i := 957) rfl, lw_at (i := 108) rfl, by decide +kernel, ⟨lw_at (i := 955) rfl, lw_at (i := 956) rfl⟩⟩
set_option maxRecDepth 100000 in
theorem my_18 : my_P 4 (⟨"HotHand$Court", "countHits", "(I)I"⟩, prog_3_method_11_code, some .int, 1, 1) := ⟨lw_at (i := 961) rfl, lw_at (i := 108) rfl, by decide +kernel, ⟨lw_at (i := 959) rfl, lw_at (i := 960) rfl⟩⟩
set_option maxRecDepth 100000 in
theorem my_19 : my_P 4 (⟨"HotHand$Court", "longestRow", "(I)I"⟩, prog_3_method_12_code, some .int, 1, 1) := ⟨lw_at (i := 1083) rfl, lw_at (i := 108) rfl, by decide +kernel, ⟨lw_at (i := 1081) rfl, lw_at (i := 1082) rfl⟩⟩
set_option maxRecDepth 100000 in
theorem my_20 : my_P 7 (⟨"HotHand$Court", "countBehind", "(IZIZ)I"⟩, prog_3_method_13_code, some .int, 1, 4) := ⟨lw_at (i := 814) rfl, lw_at (i := 108) rfl, by decide +kernel, ⟨lw_at (i := 812) rfl, lw_at (i := 813) rfl⟩⟩
set_option maxRecDepth 100000 in
theorem my_21 : my_P 6 (⟨"HotHand$Court", "countBehindIn", "(IZIZ)I"⟩, prog_3_method_14_code, some .int, 1, 4) := ⟨lw_at (i := 819) rfl, lw_at (i := 108) rfl, by decide +kernel, ⟨lw_at (i := 817) rfl, lw_at (i := 818) rfl⟩⟩
set_option maxRecDepth 100000 in
theorem my_22 : my_P 7 (⟨"HotHand$Court", "countHard", "(III)I"⟩, prog_3_method_15_code, some .int, 1, 3) := ⟨lw_at (i := 933) rfl, lw_at (i := 108) rfl, by decide +kernel, ⟨lw_at (i := 931) rfl, lw_at (i := 932) rfl⟩⟩
set_option maxRecDepth 100000 in
theorem my_23 : my_P 5 (⟨"HotHand$Court", "hardBits", "(II)I"⟩, prog_3_method_16_code, some .int, 1, 2) := ⟨lw_at (i := 937) rfl, lw_at (i := 108) rfl, by decide +kernel, ⟨lw_at (i := 936) rfl, lw_at (i := 28) rfl⟩⟩
set_option maxRecDepth 100000 in
theorem my_24 : my_P 2 (⟨"HotHand$Game", "<init>", "()V"⟩, prog_4_method_1_code, none, 2, 0) := ⟨lw_at (i := 339) rfl, lw_at (i := 115) rfl, by decide +kernel, ⟨lw_at (i := 338) rfl, rfl⟩⟩
set_option maxRecDepth 100000 in
theorem my_25 : my_P 4 (⟨"HotHand$Game", "begin", "(LHotHand$Rules;LHotHand$Rules;I)V"⟩, prog_4_method_2_code, none, 1, 3) := ⟨lw_at (i := 1033) rfl, lw_at (i := 115) rfl, by decide +kernel, ⟨lw_at (i := 1031) rfl, lw_at (i := 1032) rfl⟩⟩
set_option maxRecDepth 100000 in
theorem my_26 : my_P 3 (⟨"HotHand$Game", "giveAt", "(II)V"⟩, prog_4_method_3_code, none, 1, 2) := ⟨lw_at (i := 1038) rfl, lw_at (i := 115) rfl, by decide +kernel, ⟨lw_at (i := 1036) rfl, lw_at (i := 1037) rfl⟩⟩
set_option maxRecDepth 100000 in
theorem my_27 : my_P 5 (⟨"HotHand$Game", "aimAt", "(I)I"⟩, prog_4_method_4_code, some .int, 1, 1) := ⟨lw_at (i := 1045) rfl, lw_at (i := 115) rfl, by decide +kernel, ⟨lw_at (i := 1043) rfl, lw_at (i := 1044) rfl⟩⟩
set_option maxRecDepth 100000 in
theorem my_28 : my_P 3 (⟨"HotHand$Game", "follow", "(IZ)V"⟩, prog_4_method_5_code, none, 1, 2) := ⟨lw_at (i := 1052) rfl, lw_at (i := 115) rfl, by decide +kernel, ⟨lw_at (i := 1050) rfl, lw_at (i := 1051) rfl⟩⟩
set_option maxRecDepth 100000 in
theorem my_29 : my_P 1 (⟨"HotHand$Leaning", "<init>", "()V"⟩, prog_5_method_1_code, none, 2, 0) := ⟨lw_at (i := 284) rfl, lw_at (i := 112) rfl, by decide +kernel, ⟨lw_at (i := 283) rfl, rfl⟩⟩
set_option maxRecDepth 100000 in
theorem my_30 : my_P 9 (⟨"HotHand$Leaning", "reckon", "(LHotHand$Measure;II)V"⟩, prog_5_method_2_code, none, 1, 3) := ⟨lw_at (i := 829) rfl, lw_at (i := 112) rfl, by decide +kernel, ⟨lw_at (i := 827) rfl, lw_at (i := 828) rfl⟩⟩
set_option maxRecDepth 100000 in
theorem my_31 : my_P 1 (⟨"HotHand$Measure", "<init>", "()V"⟩, prog_6_method_1_code, none, 2, 0) := ⟨lw_at (i := 376) rfl, lw_at (i := 116) rfl, by decide +kernel, ⟨lw_at (i := 375) rfl, rfl⟩⟩
set_option maxRecDepth 100000 in
theorem my_32 : my_P 1 (⟨"HotHand$Measure", "clear", "()V"⟩, prog_6_method_2_code, none, 1, 0) := ⟨lw_at (i := 625) rfl, lw_at (i := 116) rfl, by decide +kernel, ⟨lw_at (i := 623) rfl, lw_at (i := 624) rfl⟩⟩
set_option maxRecDepth 100000 in
theorem my_33 : my_P 6 (⟨"HotHand$Measure", "add", "(IIZZI)V"⟩, prog_6_method_3_code, none, 1, 5) := ⟨lw_at (i := 637) rfl, lw_at (i := 116) rfl, by decide +kernel, ⟨lw_at (i := 635) rfl, lw_at (i := 636) rfl⟩⟩
set_option maxRecDepth 100000 in
theorem my_34 : my_P 10 (⟨"HotHand$Measure", "reckon", "(IIJ)J"⟩, prog_6_method_4_code, some .long, 1, 3) := ⟨lw_at (i := 775) rfl, lw_at (i := 116) rfl, by decide +kernel, ⟨lw_at (i := 773) rfl, lw_at (i := 774) rfl⟩⟩
set_option maxRecDepth 100000 in
theorem my_35 : my_P 10 (⟨"HotHand$Measure", "termOf", "(IIIJ)J"⟩, prog_6_method_5_code, some .long, 1, 4) := ⟨lw_at (i := 780) rfl, lw_at (i := 116) rfl, by decide +kernel, ⟨lw_at (i := 779) rfl, lw_at (i := 25) rfl⟩⟩
set_option maxRecDepth 100000 in
theorem my_36 : my_P 1 (⟨"HotHand$Reader", "<init>", "()V"⟩, prog_7_method_1_code, none, 2, 0) := ⟨lw_at (i := 216) rfl, lw_at (i := 110) rfl, by decide +kernel, ⟨lw_at (i := 215) rfl, rfl⟩⟩
set_option maxRecDepth 100000 in
theorem my_37 : my_P 3 (⟨"HotHand$Reader", "put", "(I)V"⟩, prog_7_method_2_code, none, 1, 1) := ⟨lw_at (i := 456) rfl, lw_at (i := 110) rfl, by decide +kernel, ⟨lw_at (i := 454) rfl, lw_at (i := 455) rfl⟩⟩
set_option maxRecDepth 100000 in
theorem my_38 : my_P 1 (⟨"HotHand$Reader", "placeNow", "()I"⟩, prog_7_method_3_code, some .int, 1, 0) := ⟨lw_at (i := 603) rfl, lw_at (i := 110) rfl, by decide +kernel, ⟨lw_at (i := 601) rfl, lw_at (i := 602) rfl⟩⟩
set_option maxRecDepth 100000 in
theorem my_39 : my_P 5 (⟨"HotHand$Reader", "readRules", "(IZLHotHand$Rules;)Z"⟩, prog_7_method_4_code, some .boolean, 1, 3) := ⟨lw_at (i := 472) rfl, lw_at (i := 110) rfl, by decide +kernel, ⟨lw_at (i := 470) rfl, lw_at (i := 471) rfl⟩⟩
set_option maxRecDepth 100000 in
theorem my_40 : my_P 5 (⟨"HotHand$Reader", "readMeasure", "(ILHotHand$Measure;)Z"⟩, prog_7_method_5_code, some .boolean, 1, 2) := ⟨lw_at (i := 621) rfl, lw_at (i := 110) rfl, by decide +kernel, ⟨lw_at (i := 619) rfl, lw_at (i := 620) rfl⟩⟩
set_option maxRecDepth 100000 in
theorem my_41 : my_P 6 (⟨"HotHand$Reader", "open", "(I)V"⟩, prog_7_method_6_code, none, 1, 1) := ⟨lw_at (i := 480) rfl, lw_at (i := 110) rfl, by decide +kernel, ⟨lw_at (i := 479) rfl, lw_at (i := 1) rfl⟩⟩
set_option maxRecDepth 100000 in
theorem my_42 : my_P 1 (⟨"HotHand$Reader", "kindOf", "(B)I"⟩, prog_7_method_7_code, some .int, 0, 1) := ⟨lw_at (i := 483) rfl, lw_at (i := 110) rfl, by decide +kernel, lw_at (i := 482) rfl⟩
set_option maxRecDepth 100000 in
theorem my_43 : my_P 8 (⟨"HotHand$Reader", "wordIn", "(II)I"⟩, prog_7_method_8_code, some .int, 1, 2) := ⟨lw_at (i := 487) rfl, lw_at (i := 110) rfl, by decide +kernel, ⟨lw_at (i := 486) rfl, lw_at (i := 2) rfl⟩⟩
set_option maxRecDepth 100000 in
theorem my_44 : my_P 5 (⟨"HotHand$Reader", "numberIn", "(II)I"⟩, prog_7_method_9_code, some .int, 1, 2) := ⟨lw_at (i := 540) rfl, lw_at (i := 110) rfl, by decide +kernel, ⟨lw_at (i := 539) rfl, lw_at (i := 3) rfl⟩⟩
set_option maxRecDepth 100000 in
theorem my_45 : my_P 2 (⟨"HotHand$Reader", "isWord", "(I)Z"⟩, prog_7_method_10_code, some .boolean, 1, 1) := ⟨lw_at (i := 567) rfl, lw_at (i := 110) rfl, by decide +kernel, ⟨lw_at (i := 566) rfl, lw_at (i := 9) rfl⟩⟩
set_option maxRecDepth 100000 in
theorem my_46 : my_P 3 (⟨"HotHand$Reader", "isWordOf", "(II)Z"⟩, prog_7_method_11_code, some .boolean, 1, 2) := ⟨lw_at (i := 548) rfl, lw_at (i := 110) rfl, by decide +kernel, ⟨lw_at (i := 547) rfl, lw_at (i := 5) rfl⟩⟩
set_option maxRecDepth 100000 in
theorem my_47 : my_P 3 (⟨"HotHand$Reader", "isNumber", "(II)Z"⟩, prog_7_method_12_code, some .boolean, 1, 2) := ⟨lw_at (i := 559) rfl, lw_at (i := 110) rfl, by decide +kernel, ⟨lw_at (i := 558) rfl, lw_at (i := 7) rfl⟩⟩
set_option maxRecDepth 100000 in
theorem my_48 : my_P 2 (⟨"HotHand$Reader", "isSign", "(C)Z"⟩, prog_7_method_13_code, some .boolean, 1, 1) := ⟨lw_at (i := 579) rfl, lw_at (i := 110) rfl, by decide +kernel, ⟨lw_at (i := 578) rfl, lw_at (i := 12) rfl⟩⟩
set_option maxRecDepth 100000 in
theorem my_49 : my_P 1 (⟨"HotHand$Reader", "take", "()I"⟩, prog_7_method_14_code, some .int, 1, 0) := ⟨lw_at (i := 552) rfl, lw_at (i := 110) rfl, by decide +kernel, ⟨lw_at (i := 551) rfl, lw_at (i := 6) rfl⟩⟩
set_option maxRecDepth 100000 in
theorem my_50 : my_P 4 (⟨"HotHand$Reader", "readRule", "(LHotHand$Rules;)Z"⟩, prog_7_method_15_code, some .boolean, 1, 1) := ⟨lw_at (i := 544) rfl, lw_at (i := 110) rfl, by decide +kernel, ⟨lw_at (i := 543) rfl, lw_at (i := 4) rfl⟩⟩
set_option maxRecDepth 100000 in
theorem my_51 : my_P 1 (⟨"HotHand$Reader", "mostOf", "(I)I"⟩, prog_7_method_16_code, some .int, 0, 1) := ⟨lw_at (i := 555) rfl, lw_at (i := 110) rfl, by decide +kernel, lw_at (i := 554) rfl⟩
set_option maxRecDepth 100000 in
theorem my_52 : my_P 3 (⟨"HotHand$Reader", "readStatement", "(LHotHand$Rules;)Z"⟩, prog_7_method_17_code, some .boolean, 1, 1) := ⟨lw_at (i := 595) rfl, lw_at (i := 110) rfl, by decide +kernel, ⟨lw_at (i := 594) rfl, lw_at (i := 14) rfl⟩⟩
set_option maxRecDepth 100000 in
theorem my_53 : my_P 3 (⟨"HotHand$Reader", "readIf", "(LHotHand$Rules;Z)Z"⟩, prog_7_method_18_code, some .boolean, 1, 2) := ⟨lw_at (i := 563) rfl, lw_at (i := 110) rfl, by decide +kernel, ⟨lw_at (i := 562) rfl, lw_at (i := 8) rfl⟩⟩
set_option maxRecDepth 100000 in
theorem my_54 : my_P 5 (⟨"HotHand$Reader", "readAny", "(LHotHand$Rules;I)Z"⟩, prog_7_method_19_code, some .boolean, 1, 2) := ⟨lw_at (i := 571) rfl, lw_at (i := 110) rfl, by decide +kernel, ⟨lw_at (i := 570) rfl, lw_at (i := 10) rfl⟩⟩
set_option maxRecDepth 100000 in
theorem my_55 : my_P 4 (⟨"HotHand$Reader", "readOne", "(LHotHand$Rules;I)Z"⟩, prog_7_method_20_code, some .boolean, 1, 2) := ⟨lw_at (i := 575) rfl, lw_at (i := 110) rfl, by decide +kernel, ⟨lw_at (i := 574) rfl, lw_at (i := 11) rfl⟩⟩
set_option maxRecDepth 100000 in
theorem my_56 : my_P 4 (⟨"HotHand$Reader", "readComparison", "(LHotHand$Rules;)Z"⟩, prog_7_method_21_code, some .boolean, 1, 1) := ⟨lw_at (i := 583) rfl, lw_at (i := 110) rfl, by decide +kernel, ⟨lw_at (i := 582) rfl, lw_at (i := 13) rfl⟩⟩
set_option maxRecDepth 100000 in
theorem my_57 : my_P 8 (⟨"HotHand$Reader", "readTerm", "(LHotHand$Measure;I)Z"⟩, prog_7_method_22_code, some .boolean, 1, 2) := ⟨lw_at (i := 629) rfl, lw_at (i := 110) rfl, by decide +kernel, ⟨lw_at (i := 628) rfl, lw_at (i := 16) rfl⟩⟩
set_option maxRecDepth 100000 in
theorem my_58 : my_P 1 (⟨"HotHand$Reader", "takeOf", "()Z"⟩, prog_7_method_23_code, some .boolean, 1, 0) := ⟨lw_at (i := 633) rfl, lw_at (i := 110) rfl, by decide +kernel, ⟨lw_at (i := 632) rfl, lw_at (i := 17) rfl⟩⟩
set_option maxRecDepth 100000 in
theorem my_59 : my_P 1 (⟨"HotHand$Rules", "<init>", "()V"⟩, prog_8_method_1_code, none, 2, 0) := ⟨lw_at (i := 182) rfl, lw_at (i := 109) rfl, by decide +kernel, ⟨lw_at (i := 181) rfl, rfl⟩⟩
set_option maxRecDepth 100000 in
theorem my_60 : my_P 1 (⟨"HotHand$Rules", "clear", "()V"⟩, prog_8_method_2_code, none, 1, 0) := ⟨lw_at (i := 476) rfl, lw_at (i := 109) rfl, by decide +kernel, ⟨lw_at (i := 474) rfl, lw_at (i := 475) rfl⟩⟩
set_option maxRecDepth 100000 in
theorem my_61 : my_P 2 (⟨"HotHand$Rules", "write", "(I)V"⟩, prog_8_method_3_code, none, 1, 1) := ⟨lw_at (i := 587) rfl, lw_at (i := 109) rfl, by decide +kernel, ⟨lw_at (i := 585) rfl, lw_at (i := 586) rfl⟩⟩
set_option maxRecDepth 100000 in
theorem my_62 : my_P 3 (⟨"HotHand$Rules", "add", "(II)V"⟩, prog_8_method_4_code, none, 1, 2) := ⟨lw_at (i := 591) rfl, lw_at (i := 109) rfl, by decide +kernel, ⟨lw_at (i := 589) rfl, lw_at (i := 590) rfl⟩⟩
set_option maxRecDepth 100000 in
theorem my_63 : my_P 2 (⟨"HotHand$Rules", "aim", "(LHotHand$Asked;)V"⟩, prog_8_method_5_code, none, 1, 1) := ⟨lw_at (i := 724) rfl, lw_at (i := 109) rfl, by decide +kernel, ⟨lw_at (i := 722) rfl, lw_at (i := 723) rfl⟩⟩
set_option maxRecDepth 100000 in
theorem my_64 : my_P 3 (⟨"HotHand$Rules", "chanceOf", "(LHotHand$Asked;)I"⟩, prog_8_method_6_code, some .int, 1, 1) := ⟨lw_at (i := 733) rfl, lw_at (i := 109) rfl, by decide +kernel, ⟨lw_at (i := 731) rfl, lw_at (i := 732) rfl⟩⟩
set_option maxRecDepth 100000 in
theorem my_65 : my_P 3 (⟨"HotHand$Rules", "goOn", "(LHotHand$Asked;Z)V"⟩, prog_8_method_7_code, none, 1, 2) := ⟨lw_at (i := 699) rfl, lw_at (i := 109) rfl, by decide +kernel, ⟨lw_at (i := 697) rfl, lw_at (i := 698) rfl⟩⟩
set_option maxRecDepth 100000 in
theorem my_66 : my_P 3 (⟨"HotHand$Rules", "betOn", "(LHotHand$Asked;)I"⟩, prog_8_method_8_code, some .int, 1, 1) := ⟨lw_at (i := 1021) rfl, lw_at (i := 109) rfl, by decide +kernel, ⟨lw_at (i := 1019) rfl, lw_at (i := 1020) rfl⟩⟩
set_option maxRecDepth 100000 in
theorem my_67 : my_P 5 (⟨"HotHand$Rules", "firstOf", "(ILHotHand$Asked;I)I"⟩, prog_8_method_9_code, some .int, 1, 3) := ⟨lw_at (i := 707) rfl, lw_at (i := 109) rfl, by decide +kernel, ⟨lw_at (i := 706) rfl, lw_at (i := 20) rfl⟩⟩
set_option maxRecDepth 100000 in
theorem my_68 : my_P 7 (⟨"HotHand$Rules", "holds", "(ILHotHand$Asked;)Z"⟩, prog_8_method_10_code, some .boolean, 1, 2) := ⟨lw_at (i := 711) rfl, lw_at (i := 109) rfl, by decide +kernel, ⟨lw_at (i := 710) rfl, lw_at (i := 21) rfl⟩⟩
set_option maxRecDepth 100000 in
theorem my_69 : my_P 1 (⟨"HotHand$Shuffles", "<init>", "()V"⟩, prog_9_method_1_code, none, 2, 0) := ⟨lw_at (i := 302) rfl, lw_at (i := 113) rfl, by decide +kernel, ⟨lw_at (i := 301) rfl, rfl⟩⟩
set_option maxRecDepth 100000 in
theorem my_70 : my_P 7 (⟨"HotHand$Shuffles", "reckon", "(LHotHand$Court;I)Z"⟩, prog_9_method_2_code, some .boolean, 1, 2) := ⟨lw_at (i := 862) rfl, lw_at (i := 113) rfl, by decide +kernel, ⟨lw_at (i := 860) rfl, lw_at (i := 861) rfl⟩⟩
set_option maxRecDepth 100000 in
theorem my_71 : my_P 6 (⟨"HotHand$Shuffles", "atLeast", "(LHotHand$Court;I)J"⟩, prog_9_method_3_code, some .long, 1, 2) := ⟨lw_at (i := 870) rfl, lw_at (i := 113) rfl, by decide +kernel, ⟨lw_at (i := 868) rfl, lw_at (i := 869) rfl⟩⟩
set_option maxRecDepth 100000 in
theorem my_72 : my_P 9 (⟨"HotHand$Shuffles", "join", "(II)V"⟩, prog_9_method_4_code, none, 1, 2) := ⟨lw_at (i := 877) rfl, lw_at (i := 113) rfl, by decide +kernel, ⟨lw_at (i := 876) rfl, lw_at (i := 26) rfl⟩⟩
set_option maxRecDepth 100000 in
theorem my_73 : my_P 4 (⟨"HotHand$Shuffles", "ordersOfRow", "(III)J"⟩, prog_9_method_5_code, some .long, 0, 3) := ⟨lw_at (i := 881) rfl, lw_at (i := 113) rfl, by decide +kernel, lw_at (i := 880) rfl⟩
set_option maxRecDepth 100000 in
theorem my_74 : my_P 1 (⟨"HotHand$Trial", "<init>", "()V"⟩, prog_10_method_1_code, none, 2, 0) := ⟨lw_at (i := 326) rfl, lw_at (i := 114) rfl, by decide +kernel, ⟨lw_at (i := 325) rfl, rfl⟩⟩
set_option maxRecDepth 100000 in
theorem my_75 : my_P 8 (⟨"HotHand$Trial", "lineAt", "(III)I"⟩, prog_10_method_2_code, some .int, 1, 3) := ⟨lw_at (i := 896) rfl, lw_at (i := 114) rfl, by decide +kernel, ⟨lw_at (i := 894) rfl, lw_at (i := 895) rfl⟩⟩
set_option maxRecDepth 100000 in
theorem my_76 : my_P 8 (⟨"HotHand$Trial", "atLeast", "(IIII)J"⟩, prog_10_method_3_code, some .long, 1, 4) := ⟨lw_at (i := 910) rfl, lw_at (i := 114) rfl, by decide +kernel, ⟨lw_at (i := 908) rfl, lw_at (i := 909) rfl⟩⟩
set_option maxRecDepth 100000 in
theorem my_77 : my_P 6 (⟨"HotHand$Trial", "isSeen", "(IIIII)Z"⟩, prog_10_method_4_code, some .boolean, 1, 5) := ⟨lw_at (i := 919) rfl, lw_at (i := 114) rfl, by decide +kernel, ⟨lw_at (i := 917) rfl, lw_at (i := 918) rfl⟩⟩
set_option maxRecDepth 100000 in
theorem my_78 : my_P 10 (⟨"HotHand$Trial", "lay", "(III)V"⟩, prog_10_method_5_code, none, 1, 3) := ⟨lw_at (i := 900) rfl, lw_at (i := 114) rfl, by decide +kernel, ⟨lw_at (i := 899) rfl, lw_at (i := 27) rfl⟩⟩
set_option maxRecDepth 100000 in
theorem my_79 : my_P 2 (⟨"HotHand", "<init>", "()V"⟩, prog_1_method_1_code, none, 2, 0) := ⟨lw_at (i := 130) rfl, lw_at (i := 107) rfl, by decide +kernel, ⟨lw_at (i := 129) rfl, rfl⟩⟩
set_option maxRecDepth 100000 in
theorem my_80 : my_P 6 (⟨"HotHand", "feed", "(IIIII)I"⟩, prog_1_method_2_code, some .int, 1, 5) := ⟨lw_at (i := 452) rfl, lw_at (i := 107) rfl, by decide +kernel, ⟨lw_at (i := 450) rfl, lw_at (i := 451) rfl⟩⟩
set_option maxRecDepth 100000 in
theorem my_81 : my_P 4 (⟨"HotHand", "law", "(II)I"⟩, prog_1_method_3_code, some .int, 1, 2) := ⟨lw_at (i := 460) rfl, lw_at (i := 107) rfl, by decide +kernel, ⟨lw_at (i := 458) rfl, lw_at (i := 459) rfl⟩⟩
set_option maxRecDepth 100000 in
theorem my_82 : my_P 4 (⟨"HotHand", "belief", "(II)I"⟩, prog_1_method_4_code, some .int, 1, 2) := ⟨lw_at (i := 607) rfl, lw_at (i := 107) rfl, by decide +kernel, ⟨lw_at (i := 605) rfl, lw_at (i := 606) rfl⟩⟩
set_option maxRecDepth 100000 in
theorem my_83 : my_P 2 (⟨"HotHand", "measure", "(I)I"⟩, prog_1_method_5_code, some .int, 1, 1) := ⟨lw_at (i := 617) rfl, lw_at (i := 107) rfl, by decide +kernel, ⟨lw_at (i := 615) rfl, lw_at (i := 616) rfl⟩⟩
set_option maxRecDepth 100000 in
theorem my_84 : my_P 1 (⟨"HotHand", "fault", "()I"⟩, prog_1_method_6_code, some .int, 1, 0) := ⟨lw_at (i := 641) rfl, lw_at (i := 107) rfl, by decide +kernel, ⟨lw_at (i := 639) rfl, lw_at (i := 640) rfl⟩⟩
set_option maxRecDepth 100000 in
theorem my_85 : my_P 2 (⟨"HotHand", "isOnTape", "(I)Z"⟩, prog_1_method_7_code, some .boolean, 1, 1) := ⟨lw_at (i := 464) rfl, lw_at (i := 107) rfl, by decide +kernel, ⟨lw_at (i := 463) rfl, lw_at (i := 0) rfl⟩⟩
set_option maxRecDepth 100000 in
theorem my_86 : my_P 2 (⟨"HotHand", "closeText", "(Z)Z"⟩, prog_1_method_8_code, some .boolean, 1, 1) := ⟨lw_at (i := 599) rfl, lw_at (i := 107) rfl, by decide +kernel, ⟨lw_at (i := 598) rfl, lw_at (i := 15) rfl⟩⟩
set_option maxRecDepth 100000 in
theorem my_87 : my_P 1 (⟨"HotHand", "thrower", "()I"⟩, prog_1_method_9_code, some .int, 1, 0) := ⟨lw_at (i := 645) rfl, lw_at (i := 107) rfl, by decide +kernel, ⟨lw_at (i := 643) rfl, lw_at (i := 644) rfl⟩⟩
set_option maxRecDepth 100000 in
theorem my_88 : my_P 2 (⟨"HotHand", "seed", "(I)Z"⟩, prog_1_method_10_code, some .boolean, 1, 1) := ⟨lw_at (i := 649) rfl, lw_at (i := 107) rfl, by decide +kernel, ⟨lw_at (i := 647) rfl, lw_at (i := 648) rfl⟩⟩
set_option maxRecDepth 100000 in
theorem my_89 : my_P 2 (⟨"HotHand", "row", "(I)I"⟩, prog_1_method_11_code, some .int, 1, 1) := ⟨lw_at (i := 654) rfl, lw_at (i := 107) rfl, by decide +kernel, ⟨lw_at (i := 652) rfl, lw_at (i := 653) rfl⟩⟩
set_option maxRecDepth 100000 in
theorem my_90 : my_P 5 (⟨"HotHand", "thrown", "(IZII)I"⟩, prog_1_method_12_code, some .int, 1, 4) := ⟨lw_at (i := 662) rfl, lw_at (i := 107) rfl, by decide +kernel, ⟨lw_at (i := 660) rfl, lw_at (i := 661) rfl⟩⟩
set_option maxRecDepth 100000 in
theorem my_91 : my_P 7 (⟨"HotHand", "deal", "(II)I"⟩, prog_1_method_13_code, some .int, 1, 2) := ⟨lw_at (i := 674) rfl, lw_at (i := 107) rfl, by decide +kernel, ⟨lw_at (i := 672) rfl, lw_at (i := 673) rfl⟩⟩
set_option maxRecDepth 100000 in
theorem my_92 : my_P 4 (⟨"HotHand", "told", "(III)I"⟩, prog_1_method_14_code, some .int, 1, 3) := ⟨lw_at (i := 747) rfl, lw_at (i := 107) rfl, by decide +kernel, ⟨lw_at (i := 745) rfl, lw_at (i := 746) rfl⟩⟩
set_option maxRecDepth 100000 in
theorem my_93 : my_P 3 (⟨"HotHand", "toldOfRow", "(II)I"⟩, prog_1_method_15_code, some .int, 1, 2) := ⟨lw_at (i := 751) rfl, lw_at (i := 107) rfl, by decide +kernel, ⟨lw_at (i := 750) rfl, lw_at (i := 23) rfl⟩⟩
set_option maxRecDepth 100000 in
theorem my_94 : my_P 4 (⟨"HotHand", "next", "(II)I"⟩, prog_1_method_16_code, some .int, 1, 2) := ⟨lw_at (i := 761) rfl, lw_at (i := 107) rfl, by decide +kernel, ⟨lw_at (i := 759) rfl, lw_at (i := 760) rfl⟩⟩
set_option maxRecDepth 100000 in
theorem my_95 : my_P 2 (⟨"HotHand", "lawOf", "(I)LHotHand$Rules;"⟩, prog_1_method_17_code, some (.object "HotHand$Rules"), 1, 1) := ⟨lw_at (i := 678) rfl, lw_at (i := 107) rfl, by decide +kernel, ⟨lw_at (i := 677) rfl, lw_at (i := 18) rfl⟩⟩
set_option maxRecDepth 100000 in
theorem my_96 : my_P 5 (⟨"HotHand", "walkTo", "(II)V"⟩, prog_1_method_18_code, none, 1, 2) := ⟨lw_at (i := 682) rfl, lw_at (i := 107) rfl, by decide +kernel, ⟨lw_at (i := 681) rfl, lw_at (i := 19) rfl⟩⟩
set_option maxRecDepth 100000 in
theorem my_97 : my_P 2 (⟨"HotHand", "drawn", "(J)J"⟩, prog_1_method_19_code, some .long, 0, 1) := ⟨lw_at (i := 727) rfl, lw_at (i := 107) rfl, by decide +kernel, lw_at (i := 726) rfl⟩
set_option maxRecDepth 100000 in
theorem my_98 : my_P 3 (⟨"HotHand", "isHit", "(JI)Z"⟩, prog_1_method_20_code, some .boolean, 0, 2) := ⟨lw_at (i := 742) rfl, lw_at (i := 107) rfl, by decide +kernel, lw_at (i := 741) rfl⟩
set_option maxRecDepth 100000 in
theorem my_99 : my_P 6 (⟨"HotHand", "value", "(III)J"⟩, prog_1_method_21_code, some .long, 1, 3) := ⟨lw_at (i := 765) rfl, lw_at (i := 107) rfl, by decide +kernel, ⟨lw_at (i := 763) rfl, lw_at (i := 764) rfl⟩⟩
set_option maxRecDepth 100000 in
theorem my_100 : my_P 10 (⟨"HotHand", "mean", "(III)J"⟩, prog_1_method_22_code, some .long, 1, 3) := ⟨lw_at (i := 802) rfl, lw_at (i := 107) rfl, by decide +kernel, ⟨lw_at (i := 800) rfl, lw_at (i := 801) rfl⟩⟩
set_option maxRecDepth 100000 in
theorem my_101 : my_P 5 (⟨"HotHand", "joined", "(IZII)I"⟩, prog_1_method_23_code, some .int, 1, 4) := ⟨lw_at (i := 810) rfl, lw_at (i := 107) rfl, by decide +kernel, ⟨lw_at (i := 808) rfl, lw_at (i := 809) rfl⟩⟩
set_option maxRecDepth 100000 in
theorem my_102 : my_P 5 (⟨"HotHand", "lean", "(IIII)J"⟩, prog_1_method_24_code, some .long, 1, 4) := ⟨lw_at (i := 825) rfl, lw_at (i := 107) rfl, by decide +kernel, ⟨lw_at (i := 823) rfl, lw_at (i := 824) rfl⟩⟩
set_option maxRecDepth 100000 in
theorem my_103 : my_P 8 (⟨"HotHand", "right", "(IIII)J"⟩, prog_1_method_25_code, some .long, 1, 4) := ⟨lw_at (i := 839) rfl, lw_at (i := 107) rfl, by decide +kernel, ⟨lw_at (i := 837) rfl, lw_at (i := 838) rfl⟩⟩
set_option maxRecDepth 100000 in
theorem my_104 : my_P 7 (⟨"HotHand", "shuffle", "(III)J"⟩, prog_1_method_26_code, some .long, 1, 3) := ⟨lw_at (i := 843) rfl, lw_at (i := 107) rfl, by decide +kernel, ⟨lw_at (i := 841) rfl, lw_at (i := 842) rfl⟩⟩
set_option maxRecDepth 100000 in
theorem my_105 : my_P 12 (⟨"HotHand", "ordersWith", "(LHotHand$Measure;IIJ)J"⟩, prog_1_method_27_code, some .long, 0, 4) := ⟨lw_at (i := 848) rfl, lw_at (i := 107) rfl, by decide +kernel, lw_at (i := 847) rfl⟩
set_option maxRecDepth 100000 in
theorem my_106 : my_P 3 (⟨"HotHand", "nextAlike", "(I)I"⟩, prog_1_method_28_code, some .int, 0, 1) := ⟨lw_at (i := 854) rfl, lw_at (i := 107) rfl, by decide +kernel, lw_at (i := 853) rfl⟩
set_option maxRecDepth 100000 in
theorem my_107 : my_P 3 (⟨"HotHand", "together", "(II)J"⟩, prog_1_method_29_code, some .long, 1, 2) := ⟨lw_at (i := 858) rfl, lw_at (i := 107) rfl, by decide +kernel, ⟨lw_at (i := 856) rfl, lw_at (i := 857) rfl⟩⟩
set_option maxRecDepth 100000 in
theorem my_108 : my_P 5 (⟨"HotHand", "streak", "(II)J"⟩, prog_1_method_30_code, some .long, 1, 2) := ⟨lw_at (i := 885) rfl, lw_at (i := 107) rfl, by decide +kernel, ⟨lw_at (i := 883) rfl, lw_at (i := 884) rfl⟩⟩
set_option maxRecDepth 100000 in
theorem my_109 : my_P 7 (⟨"HotHand", "power", "(IIIII)J"⟩, prog_1_method_31_code, some .long, 1, 5) := ⟨lw_at (i := 889) rfl, lw_at (i := 107) rfl, by decide +kernel, ⟨lw_at (i := 887) rfl, lw_at (i := 888) rfl⟩⟩
set_option maxRecDepth 100000 in
theorem my_110 : my_P 6 (⟨"HotHand", "need", "(IIII)I"⟩, prog_1_method_32_code, some .int, 1, 4) := ⟨lw_at (i := 915) rfl, lw_at (i := 107) rfl, by decide +kernel, ⟨lw_at (i := 913) rfl, lw_at (i := 914) rfl⟩⟩
set_option maxRecDepth 100000 in
theorem my_111 : my_P 6 (⟨"HotHand", "strong", "(IIII)I"⟩, prog_1_method_33_code, some .int, 1, 4) := ⟨lw_at (i := 925) rfl, lw_at (i := 107) rfl, by decide +kernel, ⟨lw_at (i := 923) rfl, lw_at (i := 924) rfl⟩⟩
set_option maxRecDepth 100000 in
theorem my_112 : my_P 3 (⟨"HotHand", "isTrial", "(III)Z"⟩, prog_1_method_34_code, some .boolean, 0, 3) := ⟨lw_at (i := 892) rfl, lw_at (i := 107) rfl, by decide +kernel, lw_at (i := 891) rfl⟩
set_option maxRecDepth 100000 in
theorem my_113 : my_P 4 (⟨"HotHand", "hards", "(III)I"⟩, prog_1_method_35_code, some .int, 1, 3) := ⟨lw_at (i := 929) rfl, lw_at (i := 107) rfl, by decide +kernel, ⟨lw_at (i := 927) rfl, lw_at (i := 928) rfl⟩⟩
set_option maxRecDepth 100000 in
theorem my_114 : my_P 12 (⟨"HotHand", "off", "(II)J"⟩, prog_1_method_36_code, some .long, 1, 2) := ⟨lw_at (i := 941) rfl, lw_at (i := 107) rfl, by decide +kernel, ⟨lw_at (i := 939) rfl, lw_at (i := 940) rfl⟩⟩
set_option maxRecDepth 100000 in
theorem my_115 : my_P 14 (⟨"HotHand", "chosen", "(II)J"⟩, prog_1_method_37_code, some .long, 1, 2) := ⟨lw_at (i := 945) rfl, lw_at (i := 107) rfl, by decide +kernel, ⟨lw_at (i := 943) rfl, lw_at (i := 944) rfl⟩⟩
set_option maxRecDepth 100000 in
theorem my_116 : my_P 2 (⟨"HotHand", "hundredths", "(I)I"⟩, prog_1_method_38_code, some .int, 1, 1) := ⟨lw_at (i := 949) rfl, lw_at (i := 107) rfl, by decide +kernel, ⟨lw_at (i := 947) rfl, lw_at (i := 948) rfl⟩⟩
set_option maxRecDepth 100000 in
theorem my_117 : my_P 3 (⟨"HotHand", "hundredthsOf", "(I)I"⟩, prog_1_method_39_code, some .int, 1, 1) := ⟨lw_at (i := 953) rfl, lw_at (i := 107) rfl, by decide +kernel, ⟨lw_at (i := 952) rfl, lw_at (i := 29) rfl⟩⟩
set_option maxRecDepth 100000 in
theorem my_118 : my_P 11 (⟨"HotHand", "groups", "(II)I"⟩, prog_1_method_40_code, some .int, 1, 2) := ⟨lw_at (i := 965) rfl, lw_at (i := 107) rfl, by decide +kernel, ⟨lw_at (i := 963) rfl, lw_at (i := 964) rfl⟩⟩
set_option maxRecDepth 100000 in
theorem my_119 : my_P 5 (⟨"HotHand", "sortPeople", "()I"⟩, prog_1_method_41_code, some .int, 1, 0) := ⟨lw_at (i := 969) rfl, lw_at (i := 107) rfl, by decide +kernel, ⟨lw_at (i := 968) rfl, lw_at (i := 30) rfl⟩⟩
set_option maxRecDepth 100000 in
theorem my_120 : my_P 5 (⟨"HotHand", "apart", "(II)I"⟩, prog_1_method_42_code, some .int, 1, 2) := ⟨lw_at (i := 973) rfl, lw_at (i := 107) rfl, by decide +kernel, ⟨lw_at (i := 972) rfl, lw_at (i := 31) rfl⟩⟩
set_option maxRecDepth 100000 in
theorem my_121 : my_P 6 (⟨"HotHand", "above", "(I)I"⟩, prog_1_method_43_code, some .int, 1, 1) := ⟨lw_at (i := 980) rfl, lw_at (i := 107) rfl, by decide +kernel, ⟨lw_at (i := 978) rfl, lw_at (i := 979) rfl⟩⟩
set_option maxRecDepth 100000 in
theorem my_122 : my_P 2 (⟨"HotHand", "pooled", "(I)I"⟩, prog_1_method_44_code, some .int, 1, 1) := ⟨lw_at (i := 992) rfl, lw_at (i := 107) rfl, by decide +kernel, ⟨lw_at (i := 990) rfl, lw_at (i := 991) rfl⟩⟩
set_option maxRecDepth 100000 in
theorem my_123 : my_P 4 (⟨"HotHand", "throwersLeaning", "(I)I"⟩, prog_1_method_45_code, some .int, 1, 1) := ⟨lw_at (i := 996) rfl, lw_at (i := 107) rfl, by decide +kernel, ⟨lw_at (i := 995) rfl, lw_at (i := 34) rfl⟩⟩
set_option maxRecDepth 100000 in
theorem my_124 : my_P 2 (⟨"HotHand", "allBehindBoth", "(I)J"⟩, prog_1_method_46_code, some .long, 1, 1) := ⟨lw_at (i := 984) rfl, lw_at (i := 107) rfl, by decide +kernel, ⟨lw_at (i := 983) rfl, lw_at (i := 32) rfl⟩⟩
set_option maxRecDepth 100000 in
theorem my_125 : my_P 2 (⟨"HotHand", "moreBehindHit", "(I)J"⟩, prog_1_method_47_code, some .long, 1, 1) := ⟨lw_at (i := 988) rfl, lw_at (i := 107) rfl, by decide +kernel, ⟨lw_at (i := 987) rfl, lw_at (i := 33) rfl⟩⟩
set_option maxRecDepth 100000 in
theorem my_126 : my_P 8 (⟨"HotHand", "season", "(IIZII)I"⟩, prog_1_method_48_code, some .int, 1, 5) := ⟨lw_at (i := 1000) rfl, lw_at (i := 107) rfl, by decide +kernel, ⟨lw_at (i := 998) rfl, lw_at (i := 999) rfl⟩⟩
set_option maxRecDepth 100000 in
theorem my_127 : my_P 14 (⟨"HotHand", "hidden", "(IIIII)J"⟩, prog_1_method_49_code, some .long, 1, 5) := ⟨lw_at (i := 1005) rfl, lw_at (i := 107) rfl, by decide +kernel, ⟨lw_at (i := 1003) rfl, lw_at (i := 1004) rfl⟩⟩
set_option maxRecDepth 100000 in
theorem my_128 : my_P 11 (⟨"HotHand", "pathWeight", "(IIIII)J"⟩, prog_1_method_50_code, some .long, 1, 5) := ⟨lw_at (i := 1009) rfl, lw_at (i := 107) rfl, by decide +kernel, ⟨lw_at (i := 1008) rfl, lw_at (i := 35) rfl⟩⟩
set_option maxRecDepth 100000 in
theorem my_129 : my_P 4 (⟨"HotHand", "bets", "(III)I"⟩, prog_1_method_51_code, some .int, 1, 3) := ⟨lw_at (i := 1013) rfl, lw_at (i := 107) rfl, by decide +kernel, ⟨lw_at (i := 1011) rfl, lw_at (i := 1012) rfl⟩⟩
set_option maxRecDepth 100000 in
theorem my_130 : my_P 10 (⟨"HotHand", "countBets", "(IIZZ)I"⟩, prog_1_method_52_code, some .int, 1, 4) := ⟨lw_at (i := 1017) rfl, lw_at (i := 107) rfl, by decide +kernel, ⟨lw_at (i := 1016) rfl, lw_at (i := 36) rfl⟩⟩
set_option maxRecDepth 100000 in
theorem my_131 : my_P 10 (⟨"HotHand", "odds", "(III)J"⟩, prog_1_method_53_code, some .long, 1, 3) := ⟨lw_at (i := 1025) rfl, lw_at (i := 107) rfl, by decide +kernel, ⟨lw_at (i := 1023) rfl, lw_at (i := 1024) rfl⟩⟩
set_option maxRecDepth 100000 in
theorem my_132 : my_P 7 (⟨"HotHand", "give", "(IIIIII)J"⟩, prog_1_method_54_code, some .long, 1, 6) := ⟨lw_at (i := 1029) rfl, lw_at (i := 107) rfl, by decide +kernel, ⟨lw_at (i := 1027) rfl, lw_at (i := 1028) rfl⟩⟩
set_option maxRecDepth 100000 in
theorem my_133 : my_P 5 (⟨"HotHand", "hitsFrom", "(LHotHand$Game;I)J"⟩, prog_1_method_55_code, some .long, 0, 2) := ⟨lw_at (i := 1041) rfl, lw_at (i := 107) rfl, by decide +kernel, lw_at (i := 1040) rfl⟩
set_option maxRecDepth 100000 in
theorem my_134 : my_P 15 (⟨"HotHand", "worlds", "(IIIII)J"⟩, prog_1_method_56_code, some .long, 1, 5) := ⟨lw_at (i := 1061) rfl, lw_at (i := 107) rfl, by decide +kernel, ⟨lw_at (i := 1059) rfl, lw_at (i := 1060) rfl⟩⟩
set_option maxRecDepth 100000 in
theorem my_135 : my_P 10 (⟨"HotHand", "foretold", "(IIII)I"⟩, prog_1_method_57_code, some .int, 1, 4) := ⟨lw_at (i := 1065) rfl, lw_at (i := 107) rfl, by decide +kernel, ⟨lw_at (i := 1063) rfl, lw_at (i := 1064) rfl⟩⟩
set_option maxRecDepth 100000 in
theorem my_136 : my_P 9 (⟨"HotHand", "heat", "(II)I"⟩, prog_1_method_58_code, some .int, 1, 2) := ⟨lw_at (i := 1069) rfl, lw_at (i := 107) rfl, by decide +kernel, ⟨lw_at (i := 1067) rfl, lw_at (i := 1068) rfl⟩⟩
set_option maxRecDepth 100000 in
theorem my_137 : my_P 5 (⟨"HotHand", "hotBits", "(I)I"⟩, prog_1_method_59_code, some .int, 1, 1) := ⟨lw_at (i := 1073) rfl, lw_at (i := 107) rfl, by decide +kernel, ⟨lw_at (i := 1072) rfl, lw_at (i := 37) rfl⟩⟩
set_option maxRecDepth 100000 in
theorem my_138 : my_P 8 (⟨"HotHand", "say", "(III)I"⟩, prog_1_method_60_code, some .int, 1, 3) := ⟨lw_at (i := 1079) rfl, lw_at (i := 107) rfl, by decide +kernel, ⟨lw_at (i := 1077) rfl, lw_at (i := 1078) rfl⟩⟩
set_option maxRecDepth 100000 in
theorem my_139 : my_P 1 (⟨"HotHand", "image", "()I"⟩, prog_1_method_61_code, some .int, 1, 0) := ⟨lw_at (i := 1089) rfl, lw_at (i := 107) rfl, by decide +kernel, ⟨lw_at (i := 1087) rfl, lw_at (i := 1088) rfl⟩⟩
set_option maxRecDepth 100000 in
theorem my_140 : my_P 2 (⟨"HotHand", "back", "(I)Z"⟩, prog_1_method_62_code, some .boolean, 1, 1) := ⟨lw_at (i := 1100) rfl, lw_at (i := 107) rfl, by decide +kernel, ⟨lw_at (i := 1098) rfl, lw_at (i := 1099) rfl⟩⟩
set_option maxRecDepth 100000 in
theorem my_141 : my_P 2 (⟨"HotHand", "count", "(I)I"⟩, prog_1_method_63_code, some .int, 1, 1) := ⟨lw_at (i := 1104) rfl, lw_at (i := 107) rfl, by decide +kernel, ⟨lw_at (i := 1102) rfl, lw_at (i := 1103) rfl⟩⟩
set_option maxRecDepth 100000 in
theorem my_142 : my_P 3 (⟨"HotHand", "isIn", "(III)Z"⟩, prog_1_method_64_code, some .boolean, 0, 3) := ⟨lw_at (i := 613) rfl, lw_at (i := 107) rfl, by decide +kernel, lw_at (i := 612) rfl⟩
set_option maxRecDepth 100000 in
theorem my_143 : my_P 1 (⟨"HotHand", "isWatcher", "(I)Z"⟩, prog_1_method_65_code, some .boolean, 0, 1) := ⟨lw_at (i := 610) rfl, lw_at (i := 107) rfl, by decide +kernel, lw_at (i := 609) rfl⟩
set_option maxRecDepth 100000 in
theorem my_144 : my_P 2 (⟨"HotHand", "isMeasure", "(I)Z"⟩, prog_1_method_66_code, some .boolean, 1, 1) := ⟨lw_at (i := 769) rfl, lw_at (i := 107) rfl, by decide +kernel, ⟨lw_at (i := 768) rfl, lw_at (i := 24) rfl⟩⟩
set_option maxRecDepth 100000 in
theorem my_145 : my_P 12 (⟨"HotHand", "part", "(JJI)J"⟩, prog_1_method_67_code, some .long, 0, 3) := ⟨lw_at (i := 795) rfl, lw_at (i := 107) rfl, by decide +kernel, lw_at (i := 794) rfl⟩
set_option maxRecDepth 100000 in
theorem my_146 : my_P 5 (⟨"HotHand", "choose", "(II)J"⟩, prog_1_method_68_code, some .long, 0, 2) := ⟨lw_at (i := 851) rfl, lw_at (i := 107) rfl, by decide +kernel, lw_at (i := 850) rfl⟩
set_option maxRecDepth 100000 in
theorem my_147 : my_P 3 (⟨"HotHand", "ofBits", "(IIZ)I"⟩, prog_1_method_69_code, some .int, 0, 3) := ⟨lw_at (i := 783) rfl, lw_at (i := 107) rfl, by decide +kernel, lw_at (i := 782) rfl⟩
set_option maxRecDepth 100000 in
theorem my_148 : my_P 7 (⟨"HotHand", "behindBits", "(IIZI)I"⟩, prog_1_method_70_code, some .int, 0, 4) := ⟨lw_at (i := 787) rfl, lw_at (i := 107) rfl, by decide +kernel, lw_at (i := 786) rfl⟩
set_option maxRecDepth 100000 in
theorem my_149 : my_P 3 (⟨"HotHand", "longestOf", "(I)I"⟩, prog_1_method_71_code, some .int, 0, 1) := ⟨lw_at (i := 791) rfl, lw_at (i := 107) rfl, by decide +kernel, lw_at (i := 790) rfl⟩
set_option maxRecDepth 100000 in
theorem my_150 : my_P 1 (⟨"HotHandModel", "<init>", "()V"⟩, prog_13_method_1_code, none, 2, 0) := ⟨lw_at (i := 1109) rfl, lw_at (i := 117) rfl, by decide +kernel, ⟨lw_at (i := 1108) rfl, rfl⟩⟩
set_option maxRecDepth 100000 in
theorem my_151 : my_P 3 (⟨"HotHandModel", "isIn", "(III)Z"⟩, prog_13_method_2_code, some .boolean, 0, 3) := ⟨lw_at (i := 1345) rfl, lw_at (i := 117) rfl, by decide +kernel, lw_at (i := 1344) rfl⟩
set_option maxRecDepth 100000 in
theorem my_152 : my_P 1 (⟨"HotHandModel", "one", "(Z)I"⟩, prog_13_method_3_code, some .int, 0, 1) := ⟨lw_at (i := 1501) rfl, lw_at (i := 117) rfl, by decide +kernel, lw_at (i := 1500) rfl⟩
set_option maxRecDepth 100000 in
theorem my_153 : my_P 2 (⟨"HotHandModel", "has", "(II)Z"⟩, prog_13_method_4_code, some .boolean, 0, 2) := ⟨lw_at (i := 1486) rfl, lw_at (i := 117) rfl, by decide +kernel, lw_at (i := 1485) rfl⟩
set_option maxRecDepth 100000 in
theorem my_154 : my_P 3 (⟨"HotHandModel", "bits", "(I)I"⟩, prog_13_method_5_code, some .int, 0, 1) := ⟨lw_at (i := 1541) rfl, lw_at (i := 117) rfl, by decide +kernel, lw_at (i := 1540) rfl⟩
set_option maxRecDepth 100000 in
theorem my_155 : my_P 10 (⟨"HotHandModel", "divisor", "(JJ)J"⟩, prog_13_method_6_code, some .long, 0, 2) := ⟨lw_at (i := 1616) rfl, lw_at (i := 117) rfl, by decide +kernel, lw_at (i := 1615) rfl⟩
set_option maxRecDepth 100000 in
theorem my_156 : my_P 7 (⟨"HotHandModel", "is", "(JJ)V"⟩, prog_13_method_7_code, none, 1, 2) := ⟨lw_at (i := 1613) rfl, lw_at (i := 117) rfl, by decide +kernel, ⟨lw_at (i := 1612) rfl, lw_at (i := 83) rfl⟩⟩
set_option maxRecDepth 100000 in
theorem my_157 : my_P 2 (⟨"HotHandModel", "tells", "(I)J"⟩, prog_13_method_8_code, some .long, 1, 1) := ⟨lw_at (i := 1621) rfl, lw_at (i := 117) rfl, by decide +kernel, ⟨lw_at (i := 1620) rfl, lw_at (i := 84) rfl⟩⟩
set_option maxRecDepth 100000 in
theorem my_158 : my_P 2 (⟨"HotHandModel", "isThrower", "(I)Z"⟩, prog_13_method_9_code, some .boolean, 1, 1) := ⟨lw_at (i := 1342) rfl, lw_at (i := 117) rfl, by decide +kernel, ⟨lw_at (i := 1341) rfl, lw_at (i := 38) rfl⟩⟩
set_option maxRecDepth 100000 in
theorem my_159 : my_P 2 (⟨"HotHandModel", "isRow", "(I)Z"⟩, prog_13_method_10_code, some .boolean, 1, 1) := ⟨lw_at (i := 1353) rfl, lw_at (i := 117) rfl, by decide +kernel, ⟨lw_at (i := 1352) rfl, lw_at (i := 39) rfl⟩⟩
set_option maxRecDepth 100000 in
theorem my_160 : my_P 1 (⟨"HotHandModel", "thrower", "()I"⟩, prog_13_method_11_code, some .int, 1, 0) := ⟨lw_at (i := 1334) rfl, lw_at (i := 117) rfl, by decide +kernel, ⟨lw_at (i := 1332) rfl, lw_at (i := 1333) rfl⟩⟩
set_option maxRecDepth 100000 in
theorem my_161 : my_P 2 (⟨"HotHandModel", "row", "(I)I"⟩, prog_13_method_12_code, some .int, 1, 1) := ⟨lw_at (i := 1338) rfl, lw_at (i := 117) rfl, by decide +kernel, ⟨lw_at (i := 1336) rfl, lw_at (i := 1337) rfl⟩⟩
set_option maxRecDepth 100000 in
theorem my_162 : my_P 6 (⟨"HotHandModel", "adds", "(IZII)V"⟩, prog_13_method_13_code, none, 1, 4) := ⟨lw_at (i := 1357) rfl, lw_at (i := 117) rfl, by decide +kernel, ⟨lw_at (i := 1356) rfl, lw_at (i := 40) rfl⟩⟩
set_option maxRecDepth 100000 in
theorem my_163 : my_P 5 (⟨"HotHandModel", "thrown", "(IZII)I"⟩, prog_13_method_14_code, some .int, 1, 4) := ⟨lw_at (i := 1349) rfl, lw_at (i := 117) rfl, by decide +kernel, ⟨lw_at (i := 1347) rfl, lw_at (i := 1348) rfl⟩⟩
set_option maxRecDepth 100000 in
theorem my_164 : my_P 2 (⟨"HotHandModel", "seed", "(I)Z"⟩, prog_13_method_15_code, some .boolean, 1, 1) := ⟨lw_at (i := 1361) rfl, lw_at (i := 117) rfl, by decide +kernel, ⟨lw_at (i := 1359) rfl, lw_at (i := 1360) rfl⟩⟩
set_option maxRecDepth 100000 in
theorem my_165 : my_P 6 (⟨"HotHandModel", "feed", "(IIIII)I"⟩, prog_13_method_16_code, some .int, 1, 5) := ⟨lw_at (i := 1366) rfl, lw_at (i := 117) rfl, by decide +kernel, ⟨lw_at (i := 1364) rfl, lw_at (i := 1365) rfl⟩⟩
set_option maxRecDepth 100000 in
theorem my_166 : my_P 3 (⟨"HotHandModel", "four", "(I)V"⟩, prog_13_method_17_code, none, 1, 1) := ⟨lw_at (i := 1370) rfl, lw_at (i := 117) rfl, by decide +kernel, ⟨lw_at (i := 1369) rfl, lw_at (i := 41) rfl⟩⟩
set_option maxRecDepth 100000 in
theorem my_167 : my_P 1 (⟨"HotHandModel", "blanks", "()V"⟩, prog_13_method_18_code, none, 1, 0) := ⟨lw_at (i := 1386) rfl, lw_at (i := 117) rfl, by decide +kernel, ⟨lw_at (i := 1385) rfl, lw_at (i := 44) rfl⟩⟩
set_option maxRecDepth 100000 in
theorem my_168 : my_P 3 (⟨"HotHandModel", "word", "()J"⟩, prog_13_method_19_code, some .long, 1, 0) := ⟨lw_at (i := 1399) rfl, lw_at (i := 117) rfl, by decide +kernel, ⟨lw_at (i := 1398) rfl, lw_at (i := 47) rfl⟩⟩
set_option maxRecDepth 100000 in
theorem my_169 : my_P 3 (⟨"HotHandModel", "takes", "(J)Z"⟩, prog_13_method_20_code, some .boolean, 1, 1) := ⟨lw_at (i := 1395) rfl, lw_at (i := 117) rfl, by decide +kernel, ⟨lw_at (i := 1394) rfl, lw_at (i := 46) rfl⟩⟩
set_option maxRecDepth 100000 in
theorem my_170 : my_P 2 (⟨"HotHandModel", "takesSign", "(I)Z"⟩, prog_13_method_21_code, some .boolean, 1, 1) := ⟨lw_at (i := 1433) rfl, lw_at (i := 117) rfl, by decide +kernel, ⟨lw_at (i := 1432) rfl, lw_at (i := 55) rfl⟩⟩
set_option maxRecDepth 100000 in
theorem my_171 : my_P 4 (⟨"HotHandModel", "takesNumber", "(II)Z"⟩, prog_13_method_22_code, some .boolean, 1, 2) := ⟨lw_at (i := 1407) rfl, lw_at (i := 117) rfl, by decide +kernel, ⟨lw_at (i := 1406) rfl, lw_at (i := 49) rfl⟩⟩
set_option maxRecDepth 100000 in
theorem my_172 : my_P 3 (⟨"HotHandModel", "lays", "(I)V"⟩, prog_13_method_23_code, none, 1, 1) := ⟨lw_at (i := 1382) rfl, lw_at (i := 117) rfl, by decide +kernel, ⟨lw_at (i := 1381) rfl, lw_at (i := 43) rfl⟩⟩
set_option maxRecDepth 100000 in
theorem my_173 : my_P 2 (⟨"HotHandModel", "askedBy", "(J)I"⟩, prog_13_method_24_code, some .int, 0, 1) := ⟨lw_at (i := 1436) rfl, lw_at (i := 117) rfl, by decide +kernel, lw_at (i := 1435) rfl⟩
set_option maxRecDepth 100000 in
theorem my_174 : my_P 4 (⟨"HotHandModel", "puts", "(III)V"⟩, prog_13_method_25_code, none, 1, 3) := ⟨lw_at (i := 1429) rfl, lw_at (i := 117) rfl, by decide +kernel, ⟨lw_at (i := 1428) rfl, lw_at (i := 54) rfl⟩⟩
set_option maxRecDepth 100000 in
theorem my_175 : my_P 1 (⟨"HotHandModel", "opens", "()Z"⟩, prog_13_method_26_code, some .boolean, 1, 0) := ⟨lw_at (i := 1425) rfl, lw_at (i := 117) rfl, by decide +kernel, ⟨lw_at (i := 1424) rfl, lw_at (i := 53) rfl⟩⟩
set_option maxRecDepth 100000 in
theorem my_176 : my_P 1 (⟨"HotHandModel", "any", "()Z"⟩, prog_13_method_27_code, some .boolean, 1, 0) := ⟨lw_at (i := 1412) rfl, lw_at (i := 117) rfl, by decide +kernel, ⟨lw_at (i := 1411) rfl, lw_at (i := 50) rfl⟩⟩
set_option maxRecDepth 100000 in
theorem my_177 : my_P 1 (⟨"HotHandModel", "all", "()Z"⟩, prog_13_method_28_code, some .boolean, 1, 0) := ⟨lw_at (i := 1416) rfl, lw_at (i := 117) rfl, by decide +kernel, ⟨lw_at (i := 1415) rfl, lw_at (i := 51) rfl⟩⟩
set_option maxRecDepth 100000 in
theorem my_178 : my_P 3 (⟨"HotHandModel", "single", "()Z"⟩, prog_13_method_29_code, some .boolean, 1, 0) := ⟨lw_at (i := 1420) rfl, lw_at (i := 117) rfl, by decide +kernel, ⟨lw_at (i := 1419) rfl, lw_at (i := 52) rfl⟩⟩
set_option maxRecDepth 100000 in
theorem my_179 : my_P 4 (⟨"HotHandModel", "ruleTold", "(II)Z"⟩, prog_13_method_30_code, some .boolean, 1, 2) := ⟨lw_at (i := 1403) rfl, lw_at (i := 117) rfl, by decide +kernel, ⟨lw_at (i := 1402) rfl, lw_at (i := 48) rfl⟩⟩
set_option maxRecDepth 100000 in
theorem my_180 : my_P 2 (⟨"HotHandModel", "lawRule", "()Z"⟩, prog_13_method_31_code, some .boolean, 1, 0) := ⟨lw_at (i := 1390) rfl, lw_at (i := 117) rfl, by decide +kernel, ⟨lw_at (i := 1389) rfl, lw_at (i := 45) rfl⟩⟩
set_option maxRecDepth 100000 in
theorem my_181 : my_P 1 (⟨"HotHandModel", "beliefRule", "()Z"⟩, prog_13_method_32_code, some .boolean, 1, 0) := ⟨lw_at (i := 1451) rfl, lw_at (i := 117) rfl, by decide +kernel, ⟨lw_at (i := 1450) rfl, lw_at (i := 56) rfl⟩⟩
set_option maxRecDepth 100000 in
theorem my_182 : my_P 4 (⟨"HotHandModel", "reads", "(IZ)Z"⟩, prog_13_method_33_code, some .boolean, 1, 2) := ⟨lw_at (i := 1378) rfl, lw_at (i := 117) rfl, by decide +kernel, ⟨lw_at (i := 1377) rfl, lw_at (i := 42) rfl⟩⟩
set_option maxRecDepth 100000 in
theorem my_183 : my_P 6 (⟨"HotHandModel", "keeps", "(I)V"⟩, prog_13_method_34_code, none, 1, 1) := ⟨lw_at (i := 1456) rfl, lw_at (i := 117) rfl, by decide +kernel, ⟨lw_at (i := 1455) rfl, lw_at (i := 57) rfl⟩⟩
set_option maxRecDepth 100000 in
theorem my_184 : my_P 3 (⟨"HotHandModel", "law", "(II)I"⟩, prog_13_method_35_code, some .int, 1, 2) := ⟨lw_at (i := 1374) rfl, lw_at (i := 117) rfl, by decide +kernel, ⟨lw_at (i := 1372) rfl, lw_at (i := 1373) rfl⟩⟩
set_option maxRecDepth 100000 in
theorem my_185 : my_P 1 (⟨"HotHandModel", "isWatcher", "(I)Z"⟩, prog_13_method_36_code, some .boolean, 0, 1) := ⟨lw_at (i := 1463) rfl, lw_at (i := 117) rfl, by decide +kernel, lw_at (i := 1462) rfl⟩
set_option maxRecDepth 100000 in
theorem my_186 : my_P 3 (⟨"HotHandModel", "belief", "(II)I"⟩, prog_13_method_37_code, some .int, 1, 2) := ⟨lw_at (i := 1460) rfl, lw_at (i := 117) rfl, by decide +kernel, ⟨lw_at (i := 1458) rfl, lw_at (i := 1459) rfl⟩⟩
set_option maxRecDepth 100000 in
theorem my_187 : my_P 1 (⟨"HotHandModel", "fault", "()I"⟩, prog_13_method_38_code, some .int, 1, 0) := ⟨lw_at (i := 1467) rfl, lw_at (i := 117) rfl, by decide +kernel, ⟨lw_at (i := 1465) rfl, lw_at (i := 1466) rfl⟩⟩
set_option maxRecDepth 100000 in
theorem my_188 : my_P 5 (⟨"HotHandModel", "isTrue", "(I)Z"⟩, prog_13_method_39_code, some .boolean, 1, 1) := ⟨lw_at (i := 1513) rfl, lw_at (i := 117) rfl, by decide +kernel, ⟨lw_at (i := 1512) rfl, lw_at (i := 66) rfl⟩⟩
set_option maxRecDepth 100000 in
theorem my_189 : my_P 5 (⟨"HotHandModel", "first", "(III)I"⟩, prog_13_method_40_code, some .int, 1, 3) := ⟨lw_at (i := 1509) rfl, lw_at (i := 117) rfl, by decide +kernel, ⟨lw_at (i := 1508) rfl, lw_at (i := 65) rfl⟩⟩
set_option maxRecDepth 100000 in
theorem my_190 : my_P 3 (⟨"HotHandModel", "asks", "(II)V"⟩, prog_13_method_41_code, none, 1, 2) := ⟨lw_at (i := 1505) rfl, lw_at (i := 117) rfl, by decide +kernel, ⟨lw_at (i := 1504) rfl, lw_at (i := 64) rfl⟩⟩
set_option maxRecDepth 100000 in
theorem my_191 : my_P 2 (⟨"HotHandModel", "hardNow", "(I)I"⟩, prog_13_method_42_code, some .int, 1, 1) := ⟨lw_at (i := 1517) rfl, lw_at (i := 117) rfl, by decide +kernel, ⟨lw_at (i := 1516) rfl, lw_at (i := 67) rfl⟩⟩
set_option maxRecDepth 100000 in
theorem my_192 : my_P 3 (⟨"HotHandModel", "guardNow", "(II)I"⟩, prog_13_method_43_code, some .int, 1, 2) := ⟨lw_at (i := 1521) rfl, lw_at (i := 117) rfl, by decide +kernel, ⟨lw_at (i := 1520) rfl, lw_at (i := 68) rfl⟩⟩
set_option maxRecDepth 100000 in
theorem my_193 : my_P 4 (⟨"HotHandModel", "chanceNow", "(III)I"⟩, prog_13_method_44_code, some .int, 1, 3) := ⟨lw_at (i := 1532) rfl, lw_at (i := 117) rfl, by decide +kernel, ⟨lw_at (i := 1531) rfl, lw_at (i := 70) rfl⟩⟩
set_option maxRecDepth 100000 in
theorem my_194 : my_P 2 (⟨"HotHandModel", "begins", "()V"⟩, prog_13_method_45_code, none, 1, 0) := ⟨lw_at (i := 1479) rfl, lw_at (i := 117) rfl, by decide +kernel, ⟨lw_at (i := 1478) rfl, lw_at (i := 59) rfl⟩⟩
set_option maxRecDepth 100000 in
theorem my_195 : my_P 5 (⟨"HotHandModel", "goesOn", "(IZII)V"⟩, prog_13_method_46_code, none, 1, 4) := ⟨lw_at (i := 1498) rfl, lw_at (i := 117) rfl, by decide +kernel, ⟨lw_at (i := 1497) rfl, lw_at (i := 63) rfl⟩⟩
set_option maxRecDepth 100000 in
theorem my_196 : my_P 3 (⟨"HotHandModel", "isHit", "(II)Z"⟩, prog_13_method_47_code, some .boolean, 1, 2) := ⟨lw_at (i := 1483) rfl, lw_at (i := 117) rfl, by decide +kernel, ⟨lw_at (i := 1482) rfl, lw_at (i := 60) rfl⟩⟩
set_option maxRecDepth 100000 in
theorem my_197 : my_P 3 (⟨"HotHandModel", "hardAt", "(II)I"⟩, prog_13_method_48_code, some .int, 1, 2) := ⟨lw_at (i := 1490) rfl, lw_at (i := 117) rfl, by decide +kernel, ⟨lw_at (i := 1489) rfl, lw_at (i := 61) rfl⟩⟩
set_option maxRecDepth 100000 in
theorem my_198 : my_P 3 (⟨"HotHandModel", "guardAt", "(II)I"⟩, prog_13_method_49_code, some .int, 1, 2) := ⟨lw_at (i := 1494) rfl, lw_at (i := 117) rfl, by decide +kernel, ⟨lw_at (i := 1493) rfl, lw_at (i := 62) rfl⟩⟩
set_option maxRecDepth 100000 in
theorem my_199 : my_P 4 (⟨"HotHandModel", "ahead", "(II)V"⟩, prog_13_method_50_code, none, 1, 2) := ⟨lw_at (i := 1475) rfl, lw_at (i := 117) rfl, by decide +kernel, ⟨lw_at (i := 1474) rfl, lw_at (i := 58) rfl⟩⟩
set_option maxRecDepth 100000 in
theorem my_200 : my_P 1 (⟨"HotHandModel", "draws", "()I"⟩, prog_13_method_51_code, some .int, 1, 0) := ⟨lw_at (i := 1525) rfl, lw_at (i := 117) rfl, by decide +kernel, ⟨lw_at (i := 1524) rfl, lw_at (i := 69) rfl⟩⟩
set_option maxRecDepth 100000 in
theorem my_201 : my_P 9 (⟨"HotHandModel", "deal", "(II)I"⟩, prog_13_method_52_code, some .int, 1, 2) := ⟨lw_at (i := 1471) rfl, lw_at (i := 117) rfl, by decide +kernel, ⟨lw_at (i := 1469) rfl, lw_at (i := 1470) rfl⟩⟩
set_option maxRecDepth 100000 in
theorem my_202 : my_P 4 (⟨"HotHandModel", "told", "(III)I"⟩, prog_13_method_53_code, some .int, 1, 3) := ⟨lw_at (i := 1538) rfl, lw_at (i := 117) rfl, by decide +kernel, ⟨lw_at (i := 1536) rfl, lw_at (i := 1537) rfl⟩⟩
set_option maxRecDepth 100000 in
theorem my_203 : my_P 5 (⟨"HotHandModel", "next", "(II)I"⟩, prog_13_method_54_code, some .int, 1, 2) := ⟨lw_at (i := 1545) rfl, lw_at (i := 117) rfl, by decide +kernel, ⟨lw_at (i := 1543) rfl, lw_at (i := 1544) rfl⟩⟩
set_option maxRecDepth 100000 in
theorem my_204 : my_P 1 (⟨"HotHandModel", "ofTold", "()I"⟩, prog_13_method_55_code, some .int, 1, 0) := ⟨lw_at (i := 1567) rfl, lw_at (i := 117) rfl, by decide +kernel, ⟨lw_at (i := 1566) rfl, lw_at (i := 73) rfl⟩⟩
set_option maxRecDepth 100000 in
theorem my_205 : my_P 4 (⟨"HotHandModel", "termTold", "(II)Z"⟩, prog_13_method_56_code, some .boolean, 1, 2) := ⟨lw_at (i := 1557) rfl, lw_at (i := 117) rfl, by decide +kernel, ⟨lw_at (i := 1556) rfl, lw_at (i := 72) rfl⟩⟩
set_option maxRecDepth 100000 in
theorem my_206 : my_P 4 (⟨"HotHandModel", "measureTold", "()Z"⟩, prog_13_method_57_code, some .boolean, 1, 0) := ⟨lw_at (i := 1553) rfl, lw_at (i := 117) rfl, by decide +kernel, ⟨lw_at (i := 1552) rfl, lw_at (i := 71) rfl⟩⟩
set_option maxRecDepth 100000 in
theorem my_207 : my_P 6 (⟨"HotHandModel", "measure", "(I)I"⟩, prog_13_method_58_code, some .int, 1, 1) := ⟨lw_at (i := 1549) rfl, lw_at (i := 117) rfl, by decide +kernel, ⟨lw_at (i := 1547) rfl, lw_at (i := 1548) rfl⟩⟩
set_option maxRecDepth 100000 in
theorem my_208 : my_P 2 (⟨"HotHandModel", "isMeasure", "(I)Z"⟩, prog_13_method_59_code, some .boolean, 1, 1) := ⟨lw_at (i := 1575) rfl, lw_at (i := 117) rfl, by decide +kernel, ⟨lw_at (i := 1574) rfl, lw_at (i := 74) rfl⟩⟩
set_option maxRecDepth 100000 in
theorem my_209 : my_P 3 (⟨"HotHandModel", "isOf", "(II)I"⟩, prog_13_method_60_code, some .int, 1, 2) := ⟨lw_at (i := 1593) rfl, lw_at (i := 117) rfl, by decide +kernel, ⟨lw_at (i := 1592) rfl, lw_at (i := 78) rfl⟩⟩
set_option maxRecDepth 100000 in
theorem my_210 : my_P 7 (⟨"HotHandModel", "behind", "(IIII)V"⟩, prog_13_method_61_code, none, 1, 4) := ⟨lw_at (i := 1589) rfl, lw_at (i := 117) rfl, by decide +kernel, ⟨lw_at (i := 1588) rfl, lw_at (i := 77) rfl⟩⟩
set_option maxRecDepth 100000 in
theorem my_211 : my_P 5 (⟨"HotHandModel", "runsIn", "(II)I"⟩, prog_13_method_62_code, some .int, 1, 2) := ⟨lw_at (i := 1597) rfl, lw_at (i := 117) rfl, by decide +kernel, ⟨lw_at (i := 1596) rfl, lw_at (i := 79) rfl⟩⟩
set_option maxRecDepth 100000 in
theorem my_212 : my_P 7 (⟨"HotHandModel", "longestIn", "(III)I"⟩, prog_13_method_63_code, some .int, 1, 3) := ⟨lw_at (i := 1601) rfl, lw_at (i := 117) rfl, by decide +kernel, ⟨lw_at (i := 1600) rfl, lw_at (i := 80) rfl⟩⟩
set_option maxRecDepth 100000 in
theorem my_213 : my_P 7 (⟨"HotHandModel", "pairsIn", "(IIII)I"⟩, prog_13_method_64_code, some .int, 1, 4) := ⟨lw_at (i := 1605) rfl, lw_at (i := 117) rfl, by decide +kernel, ⟨lw_at (i := 1604) rfl, lw_at (i := 81) rfl⟩⟩
set_option maxRecDepth 100000 in
theorem my_214 : my_P 5 (⟨"HotHandModel", "firstIn", "(III)I"⟩, prog_13_method_65_code, some .int, 1, 3) := ⟨lw_at (i := 1609) rfl, lw_at (i := 117) rfl, by decide +kernel, ⟨lw_at (i := 1608) rfl, lw_at (i := 82) rfl⟩⟩
set_option maxRecDepth 100000 in
theorem my_215 : my_P 4 (⟨"HotHandModel", "termValue", "(III)J"⟩, prog_13_method_66_code, some .long, 1, 3) := ⟨lw_at (i := 1584) rfl, lw_at (i := 117) rfl, by decide +kernel, ⟨lw_at (i := 1583) rfl, lw_at (i := 76) rfl⟩⟩
set_option maxRecDepth 100000 in
theorem my_216 : my_P 7 (⟨"HotHandModel", "valueOf", "(III)J"⟩, prog_13_method_67_code, some .long, 1, 3) := ⟨lw_at (i := 1580) rfl, lw_at (i := 117) rfl, by decide +kernel, ⟨lw_at (i := 1579) rfl, lw_at (i := 75) rfl⟩⟩
set_option maxRecDepth 100000 in
theorem my_217 : my_P 6 (⟨"HotHandModel", "value", "(III)J"⟩, prog_13_method_68_code, some .long, 1, 3) := ⟨lw_at (i := 1571) rfl, lw_at (i := 117) rfl, by decide +kernel, ⟨lw_at (i := 1569) rfl, lw_at (i := 1570) rfl⟩⟩
set_option maxRecDepth 100000 in
theorem my_218 : my_P 11 (⟨"HotHandModel", "mean", "(III)J"⟩, prog_13_method_69_code, some .long, 1, 3) := ⟨lw_at (i := 1625) rfl, lw_at (i := 117) rfl, by decide +kernel, ⟨lw_at (i := 1623) rfl, lw_at (i := 1624) rfl⟩⟩
set_option maxRecDepth 100000 in
theorem my_219 : my_P 7 (⟨"HotHandModel", "joins", "(IIIII)V"⟩, prog_13_method_70_code, none, 1, 5) := ⟨lw_at (i := 1633) rfl, lw_at (i := 117) rfl, by decide +kernel, ⟨lw_at (i := 1632) rfl, lw_at (i := 85) rfl⟩⟩
set_option maxRecDepth 100000 in
theorem my_220 : my_P 5 (⟨"HotHandModel", "joined", "(IZII)I"⟩, prog_13_method_71_code, some .int, 1, 4) := ⟨lw_at (i := 1629) rfl, lw_at (i := 117) rfl, by decide +kernel, ⟨lw_at (i := 1627) rfl, lw_at (i := 1628) rfl⟩⟩
set_option maxRecDepth 100000 in
theorem my_221 : my_P 6 (⟨"HotHandModel", "season", "(IIZII)I"⟩, prog_13_method_72_code, some .int, 1, 5) := ⟨lw_at (i := 1637) rfl, lw_at (i := 117) rfl, by decide +kernel, ⟨lw_at (i := 1635) rfl, lw_at (i := 1636) rfl⟩⟩
set_option maxRecDepth 100000 in
theorem my_222 : my_P 5 (⟨"HotHandModel", "power", "(II)J"⟩, prog_13_method_73_code, some .long, 0, 2) := ⟨lw_at (i := 1651) rfl, lw_at (i := 117) rfl, by decide +kernel, lw_at (i := 1650) rfl⟩
set_option maxRecDepth 100000 in
theorem my_223 : my_P 9 (⟨"HotHandModel", "leans", "(III)V"⟩, prog_13_method_74_code, none, 1, 3) := ⟨lw_at (i := 1648) rfl, lw_at (i := 117) rfl, by decide +kernel, ⟨lw_at (i := 1647) rfl, lw_at (i := 86) rfl⟩⟩
set_option maxRecDepth 100000 in
theorem my_224 : my_P 2 (⟨"HotHandModel", "areTenths", "(II)Z"⟩, prog_13_method_75_code, some .boolean, 0, 2) := ⟨lw_at (i := 1644) rfl, lw_at (i := 117) rfl, by decide +kernel, lw_at (i := 1643) rfl⟩
set_option maxRecDepth 100000 in
theorem my_225 : my_P 5 (⟨"HotHandModel", "lean", "(IIII)J"⟩, prog_13_method_76_code, some .long, 1, 4) := ⟨lw_at (i := 1641) rfl, lw_at (i := 117) rfl, by decide +kernel, ⟨lw_at (i := 1639) rfl, lw_at (i := 1640) rfl⟩⟩
set_option maxRecDepth 100000 in
theorem my_226 : my_P 7 (⟨"HotHandModel", "right", "(IIII)J"⟩, prog_13_method_77_code, some .long, 1, 4) := ⟨lw_at (i := 1657) rfl, lw_at (i := 117) rfl, by decide +kernel, ⟨lw_at (i := 1655) rfl, lw_at (i := 1656) rfl⟩⟩
set_option maxRecDepth 100000 in
theorem my_227 : my_P 15 (⟨"HotHandModel", "shuffle", "(III)J"⟩, prog_13_method_78_code, some .long, 1, 3) := ⟨lw_at (i := 1661) rfl, lw_at (i := 117) rfl, by decide +kernel, ⟨lw_at (i := 1659) rfl, lw_at (i := 1660) rfl⟩⟩
set_option maxRecDepth 100000 in
theorem my_228 : my_P 5 (⟨"HotHandModel", "choose", "(II)J"⟩, prog_13_method_79_code, some .long, 1, 2) := ⟨lw_at (i := 1674) rfl, lw_at (i := 117) rfl, by decide +kernel, ⟨lw_at (i := 1673) rfl, lw_at (i := 88) rfl⟩⟩
set_option maxRecDepth 100000 in
theorem my_229 : my_P 5 (⟨"HotHandModel", "pairWays", "(III)J"⟩, prog_13_method_80_code, some .long, 1, 3) := ⟨lw_at (i := 1679) rfl, lw_at (i := 117) rfl, by decide +kernel, ⟨lw_at (i := 1678) rfl, lw_at (i := 89) rfl⟩⟩
set_option maxRecDepth 100000 in
theorem my_230 : my_P 10 (⟨"HotHandModel", "togethers", "(I)Z"⟩, prog_13_method_81_code, some .boolean, 1, 1) := ⟨lw_at (i := 1670) rfl, lw_at (i := 117) rfl, by decide +kernel, ⟨lw_at (i := 1669) rfl, lw_at (i := 87) rfl⟩⟩
set_option maxRecDepth 100000 in
theorem my_231 : my_P 4 (⟨"HotHandModel", "togetherLeast", "()J"⟩, prog_13_method_82_code, some .long, 1, 0) := ⟨lw_at (i := 1683) rfl, lw_at (i := 117) rfl, by decide +kernel, ⟨lw_at (i := 1682) rfl, lw_at (i := 90) rfl⟩⟩
set_option maxRecDepth 100000 in
theorem my_232 : my_P 3 (⟨"HotHandModel", "together", "(II)J"⟩, prog_13_method_83_code, some .long, 1, 2) := ⟨lw_at (i := 1666) rfl, lw_at (i := 117) rfl, by decide +kernel, ⟨lw_at (i := 1664) rfl, lw_at (i := 1665) rfl⟩⟩
set_option maxRecDepth 100000 in
theorem my_233 : my_P 9 (⟨"HotHandModel", "streak", "(II)J"⟩, prog_13_method_84_code, some .long, 1, 2) := ⟨lw_at (i := 1687) rfl, lw_at (i := 117) rfl, by decide +kernel, ⟨lw_at (i := 1685) rfl, lw_at (i := 1686) rfl⟩⟩
set_option maxRecDepth 100000 in
theorem my_234 : my_P 8 (⟨"HotHandModel", "tries", "(III)V"⟩, prog_13_method_85_code, none, 1, 3) := ⟨lw_at (i := 1703) rfl, lw_at (i := 117) rfl, by decide +kernel, ⟨lw_at (i := 1702) rfl, lw_at (i := 92) rfl⟩⟩
set_option maxRecDepth 100000 in
theorem my_235 : my_P 5 (⟨"HotHandModel", "tail", "(I)J"⟩, prog_13_method_86_code, some .long, 1, 1) := ⟨lw_at (i := 1707) rfl, lw_at (i := 117) rfl, by decide +kernel, ⟨lw_at (i := 1706) rfl, lw_at (i := 93) rfl⟩⟩
set_option maxRecDepth 100000 in
theorem my_236 : my_P 5 (⟨"HotHandModel", "lineOf", "(III)I"⟩, prog_13_method_87_code, some .int, 1, 3) := ⟨lw_at (i := 1699) rfl, lw_at (i := 117) rfl, by decide +kernel, ⟨lw_at (i := 1698) rfl, lw_at (i := 91) rfl⟩⟩
set_option maxRecDepth 100000 in
theorem my_237 : my_P 6 (⟨"HotHandModel", "powerOf", "(IIII)J"⟩, prog_13_method_88_code, some .long, 1, 4) := ⟨lw_at (i := 1711) rfl, lw_at (i := 117) rfl, by decide +kernel, ⟨lw_at (i := 1710) rfl, lw_at (i := 94) rfl⟩⟩
set_option maxRecDepth 100000 in
theorem my_238 : my_P 3 (⟨"HotHandModel", "isTrial", "(III)Z"⟩, prog_13_method_89_code, some .boolean, 0, 3) := ⟨lw_at (i := 1695) rfl, lw_at (i := 117) rfl, by decide +kernel, lw_at (i := 1694) rfl⟩
set_option maxRecDepth 100000 in
theorem my_239 : my_P 6 (⟨"HotHandModel", "power", "(IIIII)J"⟩, prog_13_method_90_code, some .long, 1, 5) := ⟨lw_at (i := 1692) rfl, lw_at (i := 117) rfl, by decide +kernel, ⟨lw_at (i := 1690) rfl, lw_at (i := 1691) rfl⟩⟩
set_option maxRecDepth 100000 in
theorem my_240 : my_P 6 (⟨"HotHandModel", "isStrong", "(IIIII)Z"⟩, prog_13_method_91_code, some .boolean, 1, 5) := ⟨lw_at (i := 1719) rfl, lw_at (i := 117) rfl, by decide +kernel, ⟨lw_at (i := 1718) rfl, lw_at (i := 95) rfl⟩⟩
set_option maxRecDepth 100000 in
theorem my_241 : my_P 6 (⟨"HotHandModel", "need", "(IIII)I"⟩, prog_13_method_92_code, some .int, 1, 4) := ⟨lw_at (i := 1715) rfl, lw_at (i := 117) rfl, by decide +kernel, ⟨lw_at (i := 1713) rfl, lw_at (i := 1714) rfl⟩⟩
set_option maxRecDepth 100000 in
theorem my_242 : my_P 6 (⟨"HotHandModel", "strong", "(IIII)I"⟩, prog_13_method_93_code, some .int, 1, 4) := ⟨lw_at (i := 1723) rfl, lw_at (i := 117) rfl, by decide +kernel, ⟨lw_at (i := 1721) rfl, lw_at (i := 1722) rfl⟩⟩
set_option maxRecDepth 100000 in
theorem my_243 : my_P 7 (⟨"HotHandModel", "counts", "(I)V"⟩, prog_13_method_94_code, none, 1, 1) := ⟨lw_at (i := 1731) rfl, lw_at (i := 117) rfl, by decide +kernel, ⟨lw_at (i := 1730) rfl, lw_at (i := 96) rfl⟩⟩
set_option maxRecDepth 100000 in
theorem my_244 : my_P 4 (⟨"HotHandModel", "hards", "(III)I"⟩, prog_13_method_95_code, some .int, 1, 3) := ⟨lw_at (i := 1727) rfl, lw_at (i := 117) rfl, by decide +kernel, ⟨lw_at (i := 1725) rfl, lw_at (i := 1726) rfl⟩⟩
set_option maxRecDepth 100000 in
theorem my_245 : my_P 6 (⟨"HotHandModel", "off", "(II)J"⟩, prog_13_method_96_code, some .long, 1, 2) := ⟨lw_at (i := 1735) rfl, lw_at (i := 117) rfl, by decide +kernel, ⟨lw_at (i := 1733) rfl, lw_at (i := 1734) rfl⟩⟩
set_option maxRecDepth 100000 in
theorem my_246 : my_P 14 (⟨"HotHandModel", "chosen", "(II)J"⟩, prog_13_method_97_code, some .long, 1, 2) := ⟨lw_at (i := 1739) rfl, lw_at (i := 117) rfl, by decide +kernel, ⟨lw_at (i := 1737) rfl, lw_at (i := 1738) rfl⟩⟩
set_option maxRecDepth 100000 in
theorem my_247 : my_P 3 (⟨"HotHandModel", "hundredthsOf", "(I)I"⟩, prog_13_method_98_code, some .int, 1, 1) := ⟨lw_at (i := 1747) rfl, lw_at (i := 117) rfl, by decide +kernel, ⟨lw_at (i := 1746) rfl, lw_at (i := 97) rfl⟩⟩
set_option maxRecDepth 100000 in
theorem my_248 : my_P 2 (⟨"HotHandModel", "hundredths", "(I)I"⟩, prog_13_method_99_code, some .int, 1, 1) := ⟨lw_at (i := 1743) rfl, lw_at (i := 117) rfl, by decide +kernel, ⟨lw_at (i := 1741) rfl, lw_at (i := 1742) rfl⟩⟩
set_option maxRecDepth 100000 in
theorem my_249 : my_P 4 (⟨"HotHandModel", "sorts", "()V"⟩, prog_13_method_100_code, none, 1, 0) := ⟨lw_at (i := 1755) rfl, lw_at (i := 117) rfl, by decide +kernel, ⟨lw_at (i := 1754) rfl, lw_at (i := 98) rfl⟩⟩
set_option maxRecDepth 100000 in
theorem my_250 : my_P 5 (⟨"HotHandModel", "apart", "(II)I"⟩, prog_13_method_101_code, some .int, 1, 2) := ⟨lw_at (i := 1763) rfl, lw_at (i := 117) rfl, by decide +kernel, ⟨lw_at (i := 1762) rfl, lw_at (i := 100) rfl⟩⟩
set_option maxRecDepth 100000 in
theorem my_251 : my_P 4 (⟨"HotHandModel", "tries", "(II)V"⟩, prog_13_method_102_code, none, 1, 2) := ⟨lw_at (i := 1759) rfl, lw_at (i := 117) rfl, by decide +kernel, ⟨lw_at (i := 1758) rfl, lw_at (i := 99) rfl⟩⟩
set_option maxRecDepth 100000 in
theorem my_252 : my_P 6 (⟨"HotHandModel", "groups", "(II)I"⟩, prog_13_method_103_code, some .int, 1, 2) := ⟨lw_at (i := 1751) rfl, lw_at (i := 117) rfl, by decide +kernel, ⟨lw_at (i := 1749) rfl, lw_at (i := 1750) rfl⟩⟩
set_option maxRecDepth 100000 in
theorem my_253 : my_P 3 (⟨"HotHandModel", "shares", "(I)Z"⟩, prog_13_method_104_code, some .boolean, 1, 1) := ⟨lw_at (i := 1772) rfl, lw_at (i := 117) rfl, by decide +kernel, ⟨lw_at (i := 1771) rfl, lw_at (i := 101) rfl⟩⟩
set_option maxRecDepth 100000 in
theorem my_254 : my_P 4 (⟨"HotHandModel", "above", "(I)I"⟩, prog_13_method_105_code, some .int, 1, 1) := ⟨lw_at (i := 1768) rfl, lw_at (i := 117) rfl, by decide +kernel, ⟨lw_at (i := 1766) rfl, lw_at (i := 1767) rfl⟩⟩
set_option maxRecDepth 100000 in
theorem my_255 : my_P 11 (⟨"HotHandModel", "weightOf", "(IIIIII)J"⟩, prog_13_method_106_code, some .long, 1, 6) := ⟨lw_at (i := 1780) rfl, lw_at (i := 117) rfl, by decide +kernel, ⟨lw_at (i := 1779) rfl, lw_at (i := 102) rfl⟩⟩
set_option maxRecDepth 100000 in
theorem my_256 : my_P 14 (⟨"HotHandModel", "hidden", "(IIIII)J"⟩, prog_13_method_107_code, some .long, 1, 5) := ⟨lw_at (i := 1776) rfl, lw_at (i := 117) rfl, by decide +kernel, ⟨lw_at (i := 1774) rfl, lw_at (i := 1775) rfl⟩⟩
set_option maxRecDepth 100000 in
theorem my_257 : my_P 8 (⟨"HotHandModel", "lays", "(II)V"⟩, prog_13_method_108_code, none, 1, 2) := ⟨lw_at (i := 1788) rfl, lw_at (i := 117) rfl, by decide +kernel, ⟨lw_at (i := 1787) rfl, lw_at (i := 103) rfl⟩⟩
set_option maxRecDepth 100000 in
theorem my_258 : my_P 4 (⟨"HotHandModel", "bets", "(III)I"⟩, prog_13_method_109_code, some .int, 1, 3) := ⟨lw_at (i := 1784) rfl, lw_at (i := 117) rfl, by decide +kernel, ⟨lw_at (i := 1782) rfl, lw_at (i := 1783) rfl⟩⟩
set_option maxRecDepth 100000 in
theorem my_259 : my_P 10 (⟨"HotHandModel", "odds", "(III)J"⟩, prog_13_method_110_code, some .long, 1, 3) := ⟨lw_at (i := 1792) rfl, lw_at (i := 117) rfl, by decide +kernel, ⟨lw_at (i := 1790) rfl, lw_at (i := 1791) rfl⟩⟩
set_option maxRecDepth 100000 in
theorem my_260 : my_P 3 (⟨"HotHandModel", "fetches", "(I)V"⟩, prog_13_method_111_code, none, 1, 1) := ⟨lw_at (i := 1804) rfl, lw_at (i := 117) rfl, by decide +kernel, ⟨lw_at (i := 1803) rfl, lw_at (i := 105) rfl⟩⟩
set_option maxRecDepth 100000 in
theorem my_261 : my_P 16 (⟨"HotHandModel", "plays", "(IIIIII)V"⟩, prog_13_method_112_code, none, 1, 6) := ⟨lw_at (i := 1800) rfl, lw_at (i := 117) rfl, by decide +kernel, ⟨lw_at (i := 1799) rfl, lw_at (i := 104) rfl⟩⟩
set_option maxRecDepth 100000 in
theorem my_262 : my_P 10 (⟨"HotHandModel", "give", "(IIIIII)J"⟩, prog_13_method_113_code, some .long, 1, 6) := ⟨lw_at (i := 1796) rfl, lw_at (i := 117) rfl, by decide +kernel, ⟨lw_at (i := 1794) rfl, lw_at (i := 1795) rfl⟩⟩
set_option maxRecDepth 100000 in
theorem my_263 : my_P 18 (⟨"HotHandModel", "worlds", "(IIIII)J"⟩, prog_13_method_114_code, some .long, 1, 5) := ⟨lw_at (i := 1808) rfl, lw_at (i := 117) rfl, by decide +kernel, ⟨lw_at (i := 1806) rfl, lw_at (i := 1807) rfl⟩⟩
set_option maxRecDepth 100000 in
theorem my_264 : my_P 11 (⟨"HotHandModel", "foretold", "(IIII)I"⟩, prog_13_method_115_code, some .int, 1, 4) := ⟨lw_at (i := 1812) rfl, lw_at (i := 117) rfl, by decide +kernel, ⟨lw_at (i := 1810) rfl, lw_at (i := 1811) rfl⟩⟩
set_option maxRecDepth 100000 in
theorem my_265 : my_P 11 (⟨"HotHandModel", "heat", "(II)I"⟩, prog_13_method_116_code, some .int, 1, 2) := ⟨lw_at (i := 1816) rfl, lw_at (i := 117) rfl, by decide +kernel, ⟨lw_at (i := 1814) rfl, lw_at (i := 1815) rfl⟩⟩
set_option maxRecDepth 100000 in
theorem my_266 : my_P 6 (⟨"HotHandModel", "pooled", "(I)I"⟩, prog_13_method_117_code, some .int, 1, 1) := ⟨lw_at (i := 1820) rfl, lw_at (i := 117) rfl, by decide +kernel, ⟨lw_at (i := 1818) rfl, lw_at (i := 1819) rfl⟩⟩
set_option maxRecDepth 100000 in
theorem my_267 : my_P 6 (⟨"HotHandModel", "say", "(III)I"⟩, prog_13_method_118_code, some .int, 1, 3) := ⟨lw_at (i := 1824) rfl, lw_at (i := 117) rfl, by decide +kernel, ⟨lw_at (i := 1822) rfl, lw_at (i := 1823) rfl⟩⟩
set_option maxRecDepth 100000 in
theorem my_268 : my_P 3 (⟨"HotHandModel", "image", "()I"⟩, prog_13_method_119_code, some .int, 1, 0) := ⟨lw_at (i := 1828) rfl, lw_at (i := 117) rfl, by decide +kernel, ⟨lw_at (i := 1826) rfl, lw_at (i := 1827) rfl⟩⟩
set_option maxRecDepth 100000 in
theorem my_269 : my_P 4 (⟨"HotHandModel", "back", "(I)Z"⟩, prog_13_method_120_code, some .boolean, 1, 1) := ⟨lw_at (i := 1832) rfl, lw_at (i := 117) rfl, by decide +kernel, ⟨lw_at (i := 1830) rfl, lw_at (i := 1831) rfl⟩⟩
set_option maxRecDepth 100000 in
theorem my_270 : my_P 4 (⟨"HotHandModel", "count", "(I)I"⟩, prog_13_method_121_code, some .int, 1, 1) := ⟨lw_at (i := 1836) rfl, lw_at (i := 117) rfl, by decide +kernel, ⟨lw_at (i := 1834) rfl, lw_at (i := 1835) rfl⟩⟩
set_option maxRecDepth 100000 in
theorem my_271 : my_P 1 (⟨"java/lang/Integer", "bitCount", "(I)I"⟩, prog_14_method_49_code, some .int, 0, 1) := ⟨lw_at (i := 754) rfl, lw_at (i := 123) rfl, by decide +kernel, lw_at (i := 753) rfl⟩
set_option maxRecDepth 100000 in
theorem my_272 : Cond.static ⟨"java/lang/Math", "abs", "(I)I"⟩ ∈ lw_g := lw_at (i := 975) rfl
set_option maxRecDepth 100000 in
theorem my_273 : Cond.static ⟨"java/lang/Math", "abs", "(J)J"⟩ ∈ lw_g := lw_at (i := 797) rfl
set_option maxRecDepth 100000 in
theorem my_274 : Cond.static ⟨"java/lang/Math", "max", "(II)I"⟩ ∈ lw_g := lw_at (i := 738) rfl
set_option maxRecDepth 100000 in
theorem my_275 : Cond.static ⟨"java/lang/Math", "min", "(II)I"⟩ ∈ lw_g := lw_at (i := 735) rfl
set_option maxRecDepth 100000 in
theorem my_276 : my_P 1 (⟨"java/lang/String", "length", "()I"⟩, prog_16_method_54_code, some .int, 1, 0) := ⟨lw_at (i := 492) rfl, lw_at (i := 118) rfl, by decide +kernel, ⟨lw_at (i := 490) rfl, lw_at (i := 491) rfl⟩⟩
set_option maxRecDepth 100000 in
theorem my_277 : my_P 2 (⟨"java/lang/String", "charAt", "(I)C"⟩, prog_16_method_56_code, some .char, 1, 1) := ⟨lw_at (i := 502) rfl, lw_at (i := 118) rfl, by decide +kernel, ⟨lw_at (i := 500) rfl, lw_at (i := 501) rfl⟩⟩
set_option maxRecDepth 100000 in
theorem my_278 : my_P 1 (⟨"java/lang/String", "coder", "()B"⟩, prog_16_method_152_code, some .byte, 1, 0) := ⟨lw_at (i := 496) rfl, lw_at (i := 118) rfl, by decide +kernel, ⟨lw_at (i := 494) rfl, lw_at (i := 495) rfl⟩⟩
set_option maxRecDepth 100000 in
theorem my_279 : my_P 1 (⟨"java/lang/String", "isLatin1", "()Z"⟩, prog_16_method_154_code, some .boolean, 1, 0) := ⟨lw_at (i := 506) rfl, lw_at (i := 118) rfl, by decide +kernel, ⟨lw_at (i := 504) rfl, lw_at (i := 505) rfl⟩⟩
set_option maxRecDepth 100000 in
theorem my_280 : my_P 2 (⟨"java/lang/String", "checkIndex", "(II)V"⟩, prog_16_method_155_code, none, 0, 2) := ⟨lw_at (i := 512) rfl, lw_at (i := 118) rfl, by decide +kernel, lw_at (i := 511) rfl⟩
set_option maxRecDepth 100000 in
theorem my_281 : my_P 2 (⟨"java/lang/StringLatin1", "charAt", "([BI)C"⟩, prog_17_method_2_code, some .char, 0, 2) := ⟨lw_at (i := 509) rfl, lw_at (i := 119) rfl, by decide +kernel, lw_at (i := 508) rfl⟩
set_option maxRecDepth 100000 in
theorem my_282 : my_P 5 (⟨"java/util/Arrays", "fill", "([JJ)V"⟩, prog_20_method_101_code, none, 0, 2) := ⟨lw_at (i := 873) rfl, lw_at (i := 124) rfl, by decide +kernel, lw_at (i := 872) rfl⟩
set_option maxRecDepth 100000 in
theorem my_283 : my_P 3 (⟨"jdk/internal/util/Preconditions", "checkIndex", "(IILjava/util/function/BiFunction;)I"⟩, prog_21_method_11_code, some .int, 0, 3) := ⟨lw_at (i := 517) rfl, lw_at (i := 120) rfl, by decide +kernel, lw_at (i := 516) rfl⟩
def pg_Y : List my_T := [default_my, default_my, (⟨"HotHand$Asked", "<init>", "()V"⟩, prog_2_method_1_code, none, 2, 0), (⟨"HotHand$Asked", "clear", "()V"⟩, prog_2_method_2_code, none, 1, 0), (⟨"HotHand$Asked", "copy", "(LHotHand$Asked;)V"⟩, prog_2_method_3_code, none, 1, 1), (⟨"HotHand$Asked", "add", "(Z)V"⟩, prog_2_method_4_code, none, 1, 1), (⟨"HotHand$Asked", "meets", "(I)Z"⟩, prog_2_method_5_code, some .boolean, 1, 1), (⟨"HotHand$Asked", "wordOf", "(I)I"⟩, prog_2_method_6_code, some .int, 1, 1), (⟨"HotHand$Court", "<init>", "()V"⟩, prog_3_method_1_code, none, 2, 0), (⟨"HotHand$Court", "copy", "(LHotHand$Court;)V"⟩, prog_3_method_2_code, none, 1, 1), (⟨"HotHand$Court", "hasThrower", "(I)Z"⟩, prog_3_method_3_code, some .boolean, 1, 1), (⟨"HotHand$Court", "hasRow", "(I)Z"⟩, prog_3_method_4_code, some .boolean, 1, 1), (⟨"HotHand$Court", "isOf", "(II)Z"⟩, prog_3_method_5_code, some .boolean, 1, 2), (⟨"HotHand$Court", "addRow", "(I)I"⟩, prog_3_method_6_code, some .int, 1, 1), (⟨"HotHand$Court", "addThrow", "(IZII)V"⟩, prog_3_method_7_code, none, 1, 4), (⟨"HotHand$Court", "isHitAt", "(II)Z"⟩, prog_3_method_8_code, some .boolean, 1, 2), (⟨"HotHand$Court", "show", "(IILHotHand$Asked;)V"⟩, prog_3_method_9_code, none, 1, 3), (⟨"HotHand$Court", "countThrows", "(I)I"⟩, prog_3_method_10_code, some .int, 1, 1), (⟨"HotHand$Court", "countHits", "(I)I"⟩, prog_3_method_11_code, some .int, 1, 1), (⟨"HotHand$Court", "longestRow", "(I)I"⟩, prog_3_method_12_code, some .int, 1, 1), (⟨"HotHand$Court", "countBehind", "(IZIZ)I"⟩, prog_3_method_13_code, some .int, 1, 4), (⟨"HotHand$Court", "countBehindIn", "(IZIZ)I"⟩, prog_3_method_14_code, some .int, 1, 4), (⟨"HotHand$Court", "countHard", "(III)I"⟩, prog_3_method_15_code, some .int, 1, 3), (⟨"HotHand$Court", "hardBits", "(II)I"⟩, prog_3_method_16_code, some .int, 1, 2), (⟨"HotHand$Game", "<init>", "()V"⟩, prog_4_method_1_code, none, 2, 0), (⟨"HotHand$Game", "begin", "(LHotHand$Rules;LHotHand$Rules;I)V"⟩, prog_4_method_2_code, none, 1, 3), (⟨"HotHand$Game", "giveAt", "(II)V"⟩, prog_4_method_3_code, none, 1, 2), (⟨"HotHand$Game", "aimAt", "(I)I"⟩, prog_4_method_4_code, some .int, 1, 1), (⟨"HotHand$Game", "follow", "(IZ)V"⟩, prog_4_method_5_code, none, 1, 2), (⟨"HotHand$Leaning", "<init>", "()V"⟩, prog_5_method_1_code, none, 2, 0), (⟨"HotHand$Leaning", "reckon", "(LHotHand$Measure;II)V"⟩, prog_5_method_2_code, none, 1, 3), (⟨"HotHand$Measure", "<init>", "()V"⟩, prog_6_method_1_code, none, 2, 0), (⟨"HotHand$Measure", "clear", "()V"⟩, prog_6_method_2_code, none, 1, 0), (⟨"HotHand$Measure", "add", "(IIZZI)V"⟩, prog_6_method_3_code, none, 1, 5), (⟨"HotHand$Measure", "reckon", "(IIJ)J"⟩, prog_6_method_4_code, some .long, 1, 3), (⟨"HotHand$Measure", "termOf", "(IIIJ)J"⟩, prog_6_method_5_code, some .long, 1, 4), (⟨"HotHand$Reader", "<init>", "()V"⟩, prog_7_method_1_code, none, 2, 0), (⟨"HotHand$Reader", "put", "(I)V"⟩, prog_7_method_2_code, none, 1, 1), (⟨"HotHand$Reader", "placeNow", "()I"⟩, prog_7_method_3_code, some .int, 1, 0), (⟨"HotHand$Reader", "readRules", "(IZLHotHand$Rules;)Z"⟩, prog_7_method_4_code, some .boolean, 1, 3), (⟨"HotHand$Reader", "readMeasure", "(ILHotHand$Measure;)Z"⟩, prog_7_method_5_code, some .boolean, 1, 2), (⟨"HotHand$Reader", "open", "(I)V"⟩, prog_7_method_6_code, none, 1, 1), (⟨"HotHand$Reader", "kindOf", "(B)I"⟩, prog_7_method_7_code, some .int, 0, 1), (⟨"HotHand$Reader", "wordIn", "(II)I"⟩, prog_7_method_8_code, some .int, 1, 2), (⟨"HotHand$Reader", "numberIn", "(II)I"⟩, prog_7_method_9_code, some .int, 1, 2), (⟨"HotHand$Reader", "isWord", "(I)Z"⟩, prog_7_method_10_code, some .boolean, 1, 1), (⟨"HotHand$Reader", "isWordOf", "(II)Z"⟩, prog_7_method_11_code, some .boolean, 1, 2), (⟨"HotHand$Reader", "isNumber", "(II)Z"⟩, prog_7_method_12_code, some .boolean, 1, 2), (⟨"HotHand$Reader", "isSign", "(C)Z"⟩, prog_7_method_13_code, some .boolean, 1, 1), (⟨"HotHand$Reader", "take", "()I"⟩, prog_7_method_14_code, some .int, 1, 0), (⟨"HotHand$Reader", "readRule", "(LHotHand$Rules;)Z"⟩, prog_7_method_15_code, some .boolean, 1, 1), (⟨"HotHand$Reader", "mostOf", "(I)I"⟩, prog_7_method_16_code, some .int, 0, 1), (⟨"HotHand$Reader", "readStatement", "(LHotHand$Rules;)Z"⟩, prog_7_method_17_code, some .boolean, 1, 1), (⟨"HotHand$Reader", "readIf", "(LHotHand$Rules;Z)Z"⟩, prog_7_method_18_code, some .boolean, 1, 2), (⟨"HotHand$Reader", "readAny", "(LHotHand$Rules;I)Z"⟩, prog_7_method_19_code, some .boolean, 1, 2), (⟨"HotHand$Reader", "readOne", "(LHotHand$Rules;I)Z"⟩, prog_7_method_20_code, some .boolean, 1, 2), (⟨"HotHand$Reader", "readComparison", "(LHotHand$Rules;)Z"⟩, prog_7_method_21_code, some .boolean, 1, 1), (⟨"HotHand$Reader", "readTerm", "(LHotHand$Measure;I)Z"⟩, prog_7_method_22_code, some .boolean, 1, 2), (⟨"HotHand$Reader", "takeOf", "()Z"⟩, prog_7_method_23_code, some .boolean, 1, 0), (⟨"HotHand$Rules", "<init>", "()V"⟩, prog_8_method_1_code, none, 2, 0), (⟨"HotHand$Rules", "clear", "()V"⟩, prog_8_method_2_code, none, 1, 0), (⟨"HotHand$Rules", "write", "(I)V"⟩, prog_8_method_3_code, none, 1, 1), (⟨"HotHand$Rules", "add", "(II)V"⟩, prog_8_method_4_code, none, 1, 2), (⟨"HotHand$Rules", "aim", "(LHotHand$Asked;)V"⟩, prog_8_method_5_code, none, 1, 1), (⟨"HotHand$Rules", "chanceOf", "(LHotHand$Asked;)I"⟩, prog_8_method_6_code, some .int, 1, 1), (⟨"HotHand$Rules", "goOn", "(LHotHand$Asked;Z)V"⟩, prog_8_method_7_code, none, 1, 2), (⟨"HotHand$Rules", "betOn", "(LHotHand$Asked;)I"⟩, prog_8_method_8_code, some .int, 1, 1), (⟨"HotHand$Rules", "firstOf", "(ILHotHand$Asked;I)I"⟩, prog_8_method_9_code, some .int, 1, 3), (⟨"HotHand$Rules", "holds", "(ILHotHand$Asked;)Z"⟩, prog_8_method_10_code, some .boolean, 1, 2), (⟨"HotHand$Shuffles", "<init>", "()V"⟩, prog_9_method_1_code, none, 2, 0), (⟨"HotHand$Shuffles", "reckon", "(LHotHand$Court;I)Z"⟩, prog_9_method_2_code, some .boolean, 1, 2), (⟨"HotHand$Shuffles", "atLeast", "(LHotHand$Court;I)J"⟩, prog_9_method_3_code, some .long, 1, 2), (⟨"HotHand$Shuffles", "join", "(II)V"⟩, prog_9_method_4_code, none, 1, 2), (⟨"HotHand$Shuffles", "ordersOfRow", "(III)J"⟩, prog_9_method_5_code, some .long, 0, 3), (⟨"HotHand$Trial", "<init>", "()V"⟩, prog_10_method_1_code, none, 2, 0), (⟨"HotHand$Trial", "lineAt", "(III)I"⟩, prog_10_method_2_code, some .int, 1, 3), (⟨"HotHand$Trial", "atLeast", "(IIII)J"⟩, prog_10_method_3_code, some .long, 1, 4), (⟨"HotHand$Trial", "isSeen", "(IIIII)Z"⟩, prog_10_method_4_code, some .boolean, 1, 5), (⟨"HotHand$Trial", "lay", "(III)V"⟩, prog_10_method_5_code, none, 1, 3), (⟨"HotHand", "<init>", "()V"⟩, prog_1_method_1_code, none, 2, 0), (⟨"HotHand", "feed", "(IIIII)I"⟩, prog_1_method_2_code, some .int, 1, 5), (⟨"HotHand", "law", "(II)I"⟩, prog_1_method_3_code, some .int, 1, 2), (⟨"HotHand", "belief", "(II)I"⟩, prog_1_method_4_code, some .int, 1, 2), (⟨"HotHand", "measure", "(I)I"⟩, prog_1_method_5_code, some .int, 1, 1), (⟨"HotHand", "fault", "()I"⟩, prog_1_method_6_code, some .int, 1, 0), (⟨"HotHand", "isOnTape", "(I)Z"⟩, prog_1_method_7_code, some .boolean, 1, 1), (⟨"HotHand", "closeText", "(Z)Z"⟩, prog_1_method_8_code, some .boolean, 1, 1), (⟨"HotHand", "thrower", "()I"⟩, prog_1_method_9_code, some .int, 1, 0), (⟨"HotHand", "seed", "(I)Z"⟩, prog_1_method_10_code, some .boolean, 1, 1), (⟨"HotHand", "row", "(I)I"⟩, prog_1_method_11_code, some .int, 1, 1), (⟨"HotHand", "thrown", "(IZII)I"⟩, prog_1_method_12_code, some .int, 1, 4), (⟨"HotHand", "deal", "(II)I"⟩, prog_1_method_13_code, some .int, 1, 2), (⟨"HotHand", "told", "(III)I"⟩, prog_1_method_14_code, some .int, 1, 3), (⟨"HotHand", "toldOfRow", "(II)I"⟩, prog_1_method_15_code, some .int, 1, 2), (⟨"HotHand", "next", "(II)I"⟩, prog_1_method_16_code, some .int, 1, 2), (⟨"HotHand", "lawOf", "(I)LHotHand$Rules;"⟩, prog_1_method_17_code, some (.object "HotHand$Rules"), 1, 1), (⟨"HotHand", "walkTo", "(II)V"⟩, prog_1_method_18_code, none, 1, 2), (⟨"HotHand", "drawn", "(J)J"⟩, prog_1_method_19_code, some .long, 0, 1), (⟨"HotHand", "isHit", "(JI)Z"⟩, prog_1_method_20_code, some .boolean, 0, 2), (⟨"HotHand", "value", "(III)J"⟩, prog_1_method_21_code, some .long, 1, 3), (⟨"HotHand", "mean", "(III)J"⟩, prog_1_method_22_code, some .long, 1, 3), (⟨"HotHand", "joined", "(IZII)I"⟩, prog_1_method_23_code, some .int, 1, 4), (⟨"HotHand", "lean", "(IIII)J"⟩, prog_1_method_24_code, some .long, 1, 4), (⟨"HotHand", "right", "(IIII)J"⟩, prog_1_method_25_code, some .long, 1, 4), (⟨"HotHand", "shuffle", "(III)J"⟩, prog_1_method_26_code, some .long, 1, 3), (⟨"HotHand", "ordersWith", "(LHotHand$Measure;IIJ)J"⟩, prog_1_method_27_code, some .long, 0, 4), (⟨"HotHand", "nextAlike", "(I)I"⟩, prog_1_method_28_code, some .int, 0, 1), (⟨"HotHand", "together", "(II)J"⟩, prog_1_method_29_code, some .long, 1, 2), (⟨"HotHand", "streak", "(II)J"⟩, prog_1_method_30_code, some .long, 1, 2), (⟨"HotHand", "power", "(IIIII)J"⟩, prog_1_method_31_code, some .long, 1, 5), (⟨"HotHand", "need", "(IIII)I"⟩, prog_1_method_32_code, some .int, 1, 4), (⟨"HotHand", "strong", "(IIII)I"⟩, prog_1_method_33_code, some .int, 1, 4), (⟨"HotHand", "isTrial", "(III)Z"⟩, prog_1_method_34_code, some .boolean, 0, 3), (⟨"HotHand", "hards", "(III)I"⟩, prog_1_method_35_code, some .int, 1, 3), (⟨"HotHand", "off", "(II)J"⟩, prog_1_method_36_code, some .long, 1, 2), (⟨"HotHand", "chosen", "(II)J"⟩, prog_1_method_37_code, some .long, 1, 2), (⟨"HotHand", "hundredths", "(I)I"⟩, prog_1_method_38_code, some .int, 1, 1), (⟨"HotHand", "hundredthsOf", "(I)I"⟩, prog_1_method_39_code, some .int, 1, 1), (⟨"HotHand", "groups", "(II)I"⟩, prog_1_method_40_code, some .int, 1, 2), (⟨"HotHand", "sortPeople", "()I"⟩, prog_1_method_41_code, some .int, 1, 0), (⟨"HotHand", "apart", "(II)I"⟩, prog_1_method_42_code, some .int, 1, 2), (⟨"HotHand", "above", "(I)I"⟩, prog_1_method_43_code, some .int, 1, 1), (⟨"HotHand", "pooled", "(I)I"⟩, prog_1_method_44_code, some .int, 1, 1), (⟨"HotHand", "throwersLeaning", "(I)I"⟩, prog_1_method_45_code, some .int, 1, 1), (⟨"HotHand", "allBehindBoth", "(I)J"⟩, prog_1_method_46_code, some .long, 1, 1), (⟨"HotHand", "moreBehindHit", "(I)J"⟩, prog_1_method_47_code, some .long, 1, 1), (⟨"HotHand", "season", "(IIZII)I"⟩, prog_1_method_48_code, some .int, 1, 5), (⟨"HotHand", "hidden", "(IIIII)J"⟩, prog_1_method_49_code, some .long, 1, 5), (⟨"HotHand", "pathWeight", "(IIIII)J"⟩, prog_1_method_50_code, some .long, 1, 5), (⟨"HotHand", "bets", "(III)I"⟩, prog_1_method_51_code, some .int, 1, 3), (⟨"HotHand", "countBets", "(IIZZ)I"⟩, prog_1_method_52_code, some .int, 1, 4), (⟨"HotHand", "odds", "(III)J"⟩, prog_1_method_53_code, some .long, 1, 3), (⟨"HotHand", "give", "(IIIIII)J"⟩, prog_1_method_54_code, some .long, 1, 6), (⟨"HotHand", "hitsFrom", "(LHotHand$Game;I)J"⟩, prog_1_method_55_code, some .long, 0, 2), (⟨"HotHand", "worlds", "(IIIII)J"⟩, prog_1_method_56_code, some .long, 1, 5), (⟨"HotHand", "foretold", "(IIII)I"⟩, prog_1_method_57_code, some .int, 1, 4), (⟨"HotHand", "heat", "(II)I"⟩, prog_1_method_58_code, some .int, 1, 2), (⟨"HotHand", "hotBits", "(I)I"⟩, prog_1_method_59_code, some .int, 1, 1), (⟨"HotHand", "say", "(III)I"⟩, prog_1_method_60_code, some .int, 1, 3), (⟨"HotHand", "image", "()I"⟩, prog_1_method_61_code, some .int, 1, 0), (⟨"HotHand", "back", "(I)Z"⟩, prog_1_method_62_code, some .boolean, 1, 1), (⟨"HotHand", "count", "(I)I"⟩, prog_1_method_63_code, some .int, 1, 1), (⟨"HotHand", "isIn", "(III)Z"⟩, prog_1_method_64_code, some .boolean, 0, 3), (⟨"HotHand", "isWatcher", "(I)Z"⟩, prog_1_method_65_code, some .boolean, 0, 1), (⟨"HotHand", "isMeasure", "(I)Z"⟩, prog_1_method_66_code, some .boolean, 1, 1), (⟨"HotHand", "part", "(JJI)J"⟩, prog_1_method_67_code, some .long, 0, 3), (⟨"HotHand", "choose", "(II)J"⟩, prog_1_method_68_code, some .long, 0, 2), (⟨"HotHand", "ofBits", "(IIZ)I"⟩, prog_1_method_69_code, some .int, 0, 3), (⟨"HotHand", "behindBits", "(IIZI)I"⟩, prog_1_method_70_code, some .int, 0, 4), (⟨"HotHand", "longestOf", "(I)I"⟩, prog_1_method_71_code, some .int, 0, 1), (⟨"HotHandModel", "<init>", "()V"⟩, prog_13_method_1_code, none, 2, 0), (⟨"HotHandModel", "isIn", "(III)Z"⟩, prog_13_method_2_code, some .boolean, 0, 3), (⟨"HotHandModel", "one", "(Z)I"⟩, prog_13_method_3_code, some .int, 0, 1), (⟨"HotHandModel", "has", "(II)Z"⟩, prog_13_method_4_code, some .boolean, 0, 2), (⟨"HotHandModel", "bits", "(I)I"⟩, prog_13_method_5_code, some .int, 0, 1), (⟨"HotHandModel", "divisor", "(JJ)J"⟩, prog_13_method_6_code, some .long, 0, 2), (⟨"HotHandModel", "is", "(JJ)V"⟩, prog_13_method_7_code, none, 1, 2), (⟨"HotHandModel", "tells", "(I)J"⟩, prog_13_method_8_code, some .long, 1, 1), (⟨"HotHandModel", "isThrower", "(I)Z"⟩, prog_13_method_9_code, some .boolean, 1, 1), (⟨"HotHandModel", "isRow", "(I)Z"⟩, prog_13_method_10_code, some .boolean, 1, 1), (⟨"HotHandModel", "thrower", "()I"⟩, prog_13_method_11_code, some .int, 1, 0), (⟨"HotHandModel", "row", "(I)I"⟩, prog_13_method_12_code, some .int, 1, 1), (⟨"HotHandModel", "adds", "(IZII)V"⟩, prog_13_method_13_code, none, 1, 4), (⟨"HotHandModel", "thrown", "(IZII)I"⟩, prog_13_method_14_code, some .int, 1, 4), (⟨"HotHandModel", "seed", "(I)Z"⟩, prog_13_method_15_code, some .boolean, 1, 1), (⟨"HotHandModel", "feed", "(IIIII)I"⟩, prog_13_method_16_code, some .int, 1, 5), (⟨"HotHandModel", "four", "(I)V"⟩, prog_13_method_17_code, none, 1, 1), (⟨"HotHandModel", "blanks", "()V"⟩, prog_13_method_18_code, none, 1, 0), (⟨"HotHandModel", "word", "()J"⟩, prog_13_method_19_code, some .long, 1, 0), (⟨"HotHandModel", "takes", "(J)Z"⟩, prog_13_method_20_code, some .boolean, 1, 1), (⟨"HotHandModel", "takesSign", "(I)Z"⟩, prog_13_method_21_code, some .boolean, 1, 1), (⟨"HotHandModel", "takesNumber", "(II)Z"⟩, prog_13_method_22_code, some .boolean, 1, 2), (⟨"HotHandModel", "lays", "(I)V"⟩, prog_13_method_23_code, none, 1, 1), (⟨"HotHandModel", "askedBy", "(J)I"⟩, prog_13_method_24_code, some .int, 0, 1), (⟨"HotHandModel", "puts", "(III)V"⟩, prog_13_method_25_code, none, 1, 3), (⟨"HotHandModel", "opens", "()Z"⟩, prog_13_method_26_code, some .boolean, 1, 0), (⟨"HotHandModel", "any", "()Z"⟩, prog_13_method_27_code, some .boolean, 1, 0), (⟨"HotHandModel", "all", "()Z"⟩, prog_13_method_28_code, some .boolean, 1, 0), (⟨"HotHandModel", "single", "()Z"⟩, prog_13_method_29_code, some .boolean, 1, 0), (⟨"HotHandModel", "ruleTold", "(II)Z"⟩, prog_13_method_30_code, some .boolean, 1, 2), (⟨"HotHandModel", "lawRule", "()Z"⟩, prog_13_method_31_code, some .boolean, 1, 0), (⟨"HotHandModel", "beliefRule", "()Z"⟩, prog_13_method_32_code, some .boolean, 1, 0), (⟨"HotHandModel", "reads", "(IZ)Z"⟩, prog_13_method_33_code, some .boolean, 1, 2), (⟨"HotHandModel", "keeps", "(I)V"⟩, prog_13_method_34_code, none, 1, 1), (⟨"HotHandModel", "law", "(II)I"⟩, prog_13_method_35_code, some .int, 1, 2), (⟨"HotHandModel", "isWatcher", "(I)Z"⟩, prog_13_method_36_code, some .boolean, 0, 1), (⟨"HotHandModel", "belief", "(II)I"⟩, prog_13_method_37_code, some .int, 1, 2), (⟨"HotHandModel", "fault", "()I"⟩, prog_13_method_38_code, some .int, 1, 0), (⟨"HotHandModel", "isTrue", "(I)Z"⟩, prog_13_method_39_code, some .boolean, 1, 1), (⟨"HotHandModel", "first", "(III)I"⟩, prog_13_method_40_code, some .int, 1, 3), (⟨"HotHandModel", "asks", "(II)V"⟩, prog_13_method_41_code, none, 1, 2), (⟨"HotHandModel", "hardNow", "(I)I"⟩, prog_13_method_42_code, some .int, 1, 1), (⟨"HotHandModel", "guardNow", "(II)I"⟩, prog_13_method_43_code, some .int, 1, 2), (⟨"HotHandModel", "chanceNow", "(III)I"⟩, prog_13_method_44_code, some .int, 1, 3), (⟨"HotHandModel", "begins", "()V"⟩, prog_13_method_45_code, none, 1, 0), (⟨"HotHandModel", "goesOn", "(IZII)V"⟩, prog_13_method_46_code, none, 1, 4), (⟨"HotHandModel", "isHit", "(II)Z"⟩, prog_13_method_47_code, some .boolean, 1, 2), (⟨"HotHandModel", "hardAt", "(II)I"⟩, prog_13_method_48_code, some .int, 1, 2), (⟨"HotHandModel", "guardAt", "(II)I"⟩, prog_13_method_49_code, some .int, 1, 2), (⟨"HotHandModel", "ahead", "(II)V"⟩, prog_13_method_50_code, none, 1, 2), (⟨"HotHandModel", "draws", "()I"⟩, prog_13_method_51_code, some .int, 1, 0), (⟨"HotHandModel", "deal", "(II)I"⟩, prog_13_method_52_code, some .int, 1, 2), (⟨"HotHandModel", "told", "(III)I"⟩, prog_13_method_53_code, some .int, 1, 3), (⟨"HotHandModel", "next", "(II)I"⟩, prog_13_method_54_code, some .int, 1, 2), (⟨"HotHandModel", "ofTold", "()I"⟩, prog_13_method_55_code, some .int, 1, 0), (⟨"HotHandModel", "termTold", "(II)Z"⟩, prog_13_method_56_code, some .boolean, 1, 2), (⟨"HotHandModel", "measureTold", "()Z"⟩, prog_13_method_57_code, some .boolean, 1, 0), (⟨"HotHandModel", "measure", "(I)I"⟩, prog_13_method_58_code, some .int, 1, 1), (⟨"HotHandModel", "isMeasure", "(I)Z"⟩, prog_13_method_59_code, some .boolean, 1, 1), (⟨"HotHandModel", "isOf", "(II)I"⟩, prog_13_method_60_code, some .int, 1, 2), (⟨"HotHandModel", "behind", "(IIII)V"⟩, prog_13_method_61_code, none, 1, 4), (⟨"HotHandModel", "runsIn", "(II)I"⟩, prog_13_method_62_code, some .int, 1, 2), (⟨"HotHandModel", "longestIn", "(III)I"⟩, prog_13_method_63_code, some .int, 1, 3), (⟨"HotHandModel", "pairsIn", "(IIII)I"⟩, prog_13_method_64_code, some .int, 1, 4), (⟨"HotHandModel", "firstIn", "(III)I"⟩, prog_13_method_65_code, some .int, 1, 3), (⟨"HotHandModel", "termValue", "(III)J"⟩, prog_13_method_66_code, some .long, 1, 3), (⟨"HotHandModel", "valueOf", "(III)J"⟩, prog_13_method_67_code, some .long, 1, 3), (⟨"HotHandModel", "value", "(III)J"⟩, prog_13_method_68_code, some .long, 1, 3), (⟨"HotHandModel", "mean", "(III)J"⟩, prog_13_method_69_code, some .long, 1, 3), (⟨"HotHandModel", "joins", "(IIIII)V"⟩, prog_13_method_70_code, none, 1, 5), (⟨"HotHandModel", "joined", "(IZII)I"⟩, prog_13_method_71_code, some .int, 1, 4), (⟨"HotHandModel", "season", "(IIZII)I"⟩, prog_13_method_72_code, some .int, 1, 5), (⟨"HotHandModel", "power", "(II)J"⟩, prog_13_method_73_code, some .long, 0, 2), (⟨"HotHandModel", "leans", "(III)V"⟩, prog_13_method_74_code, none, 1, 3), (⟨"HotHandModel", "areTenths", "(II)Z"⟩, prog_13_method_75_code, some .boolean, 0, 2), (⟨"HotHandModel", "lean", "(IIII)J"⟩, prog_13_method_76_code, some .long, 1, 4), (⟨"HotHandModel", "right", "(IIII)J"⟩, prog_13_method_77_code, some .long, 1, 4), (⟨"HotHandModel", "shuffle", "(III)J"⟩, prog_13_method_78_code, some .long, 1, 3), (⟨"HotHandModel", "choose", "(II)J"⟩, prog_13_method_79_code, some .long, 1, 2), (⟨"HotHandModel", "pairWays", "(III)J"⟩, prog_13_method_80_code, some .long, 1, 3), (⟨"HotHandModel", "togethers", "(I)Z"⟩, prog_13_method_81_code, some .boolean, 1, 1), (⟨"HotHandModel", "togetherLeast", "()J"⟩, prog_13_method_82_code, some .long, 1, 0), (⟨"HotHandModel", "together", "(II)J"⟩, prog_13_method_83_code, some .long, 1, 2), (⟨"HotHandModel", "streak", "(II)J"⟩, prog_13_method_84_code, some .long, 1, 2), (⟨"HotHandModel", "tries", "(III)V"⟩, prog_13_method_85_code, none, 1, 3), (⟨"HotHandModel", "tail", "(I)J"⟩, prog_13_method_86_code, some .long, 1, 1), (⟨"HotHandModel", "lineOf", "(III)I"⟩, prog_13_method_87_code, some .int, 1, 3), (⟨"HotHandModel", "powerOf", "(IIII)J"⟩, prog_13_method_88_code, some .long, 1, 4), (⟨"HotHandModel", "isTrial", "(III)Z"⟩, prog_13_method_89_code, some .boolean, 0, 3), (⟨"HotHandModel", "power", "(IIIII)J"⟩, prog_13_method_90_code, some .long, 1, 5), (⟨"HotHandModel", "isStrong", "(IIIII)Z"⟩, prog_13_method_91_code, some .boolean, 1, 5), (⟨"HotHandModel", "need", "(IIII)I"⟩, prog_13_method_92_code, some .int, 1, 4), (⟨"HotHandModel", "strong", "(IIII)I"⟩, prog_13_method_93_code, some .int, 1, 4), (⟨"HotHandModel", "counts", "(I)V"⟩, prog_13_method_94_code, none, 1, 1), (⟨"HotHandModel", "hards", "(III)I"⟩, prog_13_method_95_code, some .int, 1, 3), (⟨"HotHandModel", "off", "(II)J"⟩, prog_13_method_96_code, some .long, 1, 2), (⟨"HotHandModel", "chosen", "(II)J"⟩, prog_13_method_97_code, some .long, 1, 2), (⟨"HotHandModel", "hundredthsOf", "(I)I"⟩, prog_13_method_98_code, some .int, 1, 1), (⟨"HotHandModel", "hundredths", "(I)I"⟩, prog_13_method_99_code, some .int, 1, 1), (⟨"HotHandModel", "sorts", "()V"⟩, prog_13_method_100_code, none, 1, 0), (⟨"HotHandModel", "apart", "(II)I"⟩, prog_13_method_101_code, some .int, 1, 2), (⟨"HotHandModel", "tries", "(II)V"⟩, prog_13_method_102_code, none, 1, 2), (⟨"HotHandModel", "groups", "(II)I"⟩, prog_13_method_103_code, some .int, 1, 2), (⟨"HotHandModel", "shares", "(I)Z"⟩, prog_13_method_104_code, some .boolean, 1, 1), (⟨"HotHandModel", "above", "(I)I"⟩, prog_13_method_105_code, some .int, 1, 1), (⟨"HotHandModel", "weightOf", "(IIIIII)J"⟩, prog_13_method_106_code, some .long, 1, 6), (⟨"HotHandModel", "hidden", "(IIIII)J"⟩, prog_13_method_107_code, some .long, 1, 5), (⟨"HotHandModel", "lays", "(II)V"⟩, prog_13_method_108_code, none, 1, 2), (⟨"HotHandModel", "bets", "(III)I"⟩, prog_13_method_109_code, some .int, 1, 3), (⟨"HotHandModel", "odds", "(III)J"⟩, prog_13_method_110_code, some .long, 1, 3), (⟨"HotHandModel", "fetches", "(I)V"⟩, prog_13_method_111_code, none, 1, 1), (⟨"HotHandModel", "plays", "(IIIIII)V"⟩, prog_13_method_112_code, none, 1, 6), (⟨"HotHandModel", "give", "(IIIIII)J"⟩, prog_13_method_113_code, some .long, 1, 6), (⟨"HotHandModel", "worlds", "(IIIII)J"⟩, prog_13_method_114_code, some .long, 1, 5), (⟨"HotHandModel", "foretold", "(IIII)I"⟩, prog_13_method_115_code, some .int, 1, 4), (⟨"HotHandModel", "heat", "(II)I"⟩, prog_13_method_116_code, some .int, 1, 2), (⟨"HotHandModel", "pooled", "(I)I"⟩, prog_13_method_117_code, some .int, 1, 1), (⟨"HotHandModel", "say", "(III)I"⟩, prog_13_method_118_code, some .int, 1, 3), (⟨"HotHandModel", "image", "()I"⟩, prog_13_method_119_code, some .int, 1, 0), (⟨"HotHandModel", "back", "(I)Z"⟩, prog_13_method_120_code, some .boolean, 1, 1), (⟨"HotHandModel", "count", "(I)I"⟩, prog_13_method_121_code, some .int, 1, 1), (⟨"java/lang/Integer", "bitCount", "(I)I"⟩, prog_14_method_49_code, some .int, 0, 1), (⟨"java/lang/Math", "abs", "(I)I"⟩, prog_15_method_59_code, some .int, 0, 1), (⟨"java/lang/Math", "abs", "(J)J"⟩, prog_15_method_61_code, some .long, 0, 1), (⟨"java/lang/Math", "max", "(II)I"⟩, prog_15_method_65_code, some .int, 0, 2), (⟨"java/lang/Math", "min", "(II)I"⟩, prog_15_method_69_code, some .int, 0, 2), (⟨"java/lang/String", "length", "()I"⟩, prog_16_method_54_code, some .int, 1, 0), (⟨"java/lang/String", "charAt", "(I)C"⟩, prog_16_method_56_code, some .char, 1, 1), (⟨"java/lang/String", "coder", "()B"⟩, prog_16_method_152_code, some .byte, 1, 0), (⟨"java/lang/String", "isLatin1", "()Z"⟩, prog_16_method_154_code, some .boolean, 1, 0), (⟨"java/lang/String", "checkIndex", "(II)V"⟩, prog_16_method_155_code, none, 0, 2), (⟨"java/lang/StringLatin1", "charAt", "([BI)C"⟩, prog_17_method_2_code, some .char, 0, 2), (⟨"java/util/Arrays", "fill", "([JJ)V"⟩, prog_20_method_101_code, none, 0, 2), (⟨"jdk/internal/util/Preconditions", "checkIndex", "(IILjava/util/function/BiFunction;)I"⟩, prog_21_method_11_code, some .int, 0, 3), (⟨"HotHandLaw", "law", "([I)Z"⟩, code, some .boolean, 0, 1)]
def pg_y (m : Nat) : my_T := pg_Y.getD m default_my
set_option maxRecDepth 100000 in
theorem my_math : Cond.initialized "java/lang/Math" ∈ lw_g := lw_at (i := 122) rfl
set_option maxRecDepth 100000 in
theorem my_ok : ∀ m : Nat, 2 ≤ m → m < 285 → m ≠ 284 → ¬ (272 ≤ m ∧ m ≤ 275) → my_P (pg_l m) (pg_y m)
  | 0, h, _, _, _ => absurd h (by decide)
  | 1, h, _, _, _ => absurd h (by decide)
  | 2, _, _, _, _ => my_2
  | 3, _, _, _, _ => my_3
  | 4, _, _, _, _ => my_4
  | 5, _, _, _, _ => my_5
  | 6, _, _, _, _ => my_6
  | 7, _, _, _, _ => my_7
  | 8, _, _, _, _ => my_8
  | 9, _, _, _, _ => my_9
  | 10, _, _, _, _ => my_10
  | 11, _, _, _, _ => my_11
  | 12, _, _, _, _ => my_12
  | 13, _, _, _, _ => my_13
  | 14, _, _, _, _ => my_14
  | 15, _, _, _, _ => my_15
  | 16, _, _, _, _ => my_16
  | 17, _, _, _, _ => my_17
  | 18, _, _, _, _ => my_18
  | 19, _, _, _, _ => my_19
  | 20, _, _, _, _ => my_20
  | 21, _, _, _, _ => my_21
  | 22, _, _, _, _ => my_22
  | 23, _, _, _, _ => my_23
  | 24, _, _, _, _ => my_24
  | 25, _, _, _, _ => my_25
  | 26, _, _, _, _ => my_26
  | 27, _, _, _, _ => my_27
  | 28, _, _, _, _ => my_28
  | 29, _, _, _, _ => my_29
  | 30, _, _, _, _ => my_30
  | 31, _, _, _, _ => my_31
  | 32, _, _, _, _ => my_32
  | 33, _, _, _, _ => my_33
  | 34, _, _, _, _ => my_34
  | 35, _, _, _, _ => my_35
  | 36, _, _, _, _ => my_36
  | 37, _, _, _, _ => my_37
  | 38, _, _, _, _ => my_38
  | 39, _, _, _, _ => my_39
  | 40, _, _, _, _ => my_40
  | 41, _, _, _, _ => my_41
  | 42, _, _, _, _ => my_42
  | 43, _, _, _, _ => my_43
  | 44, _, _, _, _ => my_44
  | 45, _, _, _, _ => my_45
  | 46, _, _, _, _ => my_46
  | 47, _, _, _, _ => my_47
  | 48, _, _, _, _ => my_48
  | 49, _, _, _, _ => my_49
  | 50, _, _, _, _ => my_50
  | 51, _, _, _, _ => my_51
  | 52, _, _, _, _ => my_52
  | 53, _, _, _, _ => my_53
  | 54, _, _, _, _ => my_54
  | 55, _, _, _, _ => my_55
  | 56, _, _, _, _ => my_56
  | 57, _, _, _, _ => my_57
  | 58, _, _, _, _ => my_58
  | 59, _, _, _, _ => my_59
  | 60, _, _, _, _ => my_60
  | 61, _, _, _, _ => my_61
  | 62, _, _, _, _ => my_62
  | 63, _, _, _, _ => my_63
  | 64, _, _, _, _ => my_64
  | 65, _, _, _, _ => my_65
  | 66, _, _, _, _ => my_66
  | 67, _, _, _, _ => my_67
  | 68, _, _, _, _ => my_68
  | 69, _, _, _, _ => my_69
  | 70, _, _, _, _ => my_70
  | 71, _, _, _, _ => my_71
  | 72, _, _, _, _ => my_72
  | 73, _, _, _, _ => my_73
  | 74, _, _, _, _ => my_74
  | 75, _, _, _, _ => my_75
  | 76, _, _, _, _ => my_76
  | 77, _, _, _, _ => my_77
  | 78, _, _, _, _ => my_78
  | 79, _, _, _, _ => my_79
  | 80, _, _, _, _ => my_80
  | 81, _, _, _, _ => my_81
  | 82, _, _, _, _ => my_82
  | 83, _, _, _, _ => my_83
  | 84, _, _, _, _ => my_84
  | 85, _, _, _, _ => my_85
  | 86, _, _, _, _ => my_86
  | 87, _, _, _, _ => my_87
  | 88, _, _, _, _ => my_88
  | 89, _, _, _, _ => my_89
  | 90, _, _, _, _ => my_90
  | 91, _, _, _, _ => my_91
  | 92, _, _, _, _ => my_92
  | 93, _, _, _, _ => my_93
  | 94, _, _, _, _ => my_94
  | 95, _, _, _, _ => my_95
  | 96, _, _, _, _ => my_96
  | 97, _, _, _, _ => my_97
  | 98, _, _, _, _ => my_98
  | 99, _, _, _, _ => my_99
  | 100, _, _, _, _ => my_100
  | 101, _, _, _, _ => my_101
  | 102, _, _, _, _ => my_102
  | 103, _, _, _, _ => my_103
  | 104, _, _, _, _ => my_104
  | 105, _, _, _, _ => my_105
  | 106, _, _, _, _ => my_106
  | 107, _, _, _, _ => my_107
  | 108, _, _, _, _ => my_108
  | 109, _, _, _, _ => my_109
  | 110, _, _, _, _ => my_110
  | 111, _, _, _, _ => my_111
  | 112, _, _, _, _ => my_112
  | 113, _, _, _, _ => my_113
  | 114, _, _, _, _ => my_114
  | 115, _, _, _, _ => my_115
  | 116, _, _, _, _ => my_116
  | 117, _, _, _, _ => my_117
  | 118, _, _, _, _ => my_118
  | 119, _, _, _, _ => my_119
  | 120, _, _, _, _ => my_120
  | 121, _, _, _, _ => my_121
  | 122, _, _, _, _ => my_122
  | 123, _, _, _, _ => my_123
  | 124, _, _, _, _ => my_124
  | 125, _, _, _, _ => my_125
  | 126, _, _, _, _ => my_126
  | 127, _, _, _, _ => my_127
  | 128, _, _, _, _ => my_128
  | 129, _, _, _, _ => my_129
  | 130, _, _, _, _ => my_130
  | 131, _, _, _, _ => my_131
  | 132, _, _, _, _ => my_132
  | 133, _, _, _, _ => my_133
  | 134, _, _, _, _ => my_134
  | 135, _, _, _, _ => my_135
  | 136, _, _, _, _ => my_136
  | 137, _, _, _, _ => my_137
  | 138, _, _, _, _ => my_138
  | 139, _, _, _, _ => my_139
  | 140, _, _, _, _ => my_140
  | 141, _, _, _, _ => my_141
  | 142, _, _, _, _ => my_142
  | 143, _, _, _, _ => my_143
  | 144, _, _, _, _ => my_144
  | 145, _, _, _, _ => my_145
  | 146, _, _, _, _ => my_146
  | 147, _, _, _, _ => my_147
  | 148, _, _, _, _ => my_148
  | 149, _, _, _, _ => my_149
  | 150, _, _, _, _ => my_150
  | 151, _, _, _, _ => my_151
  | 152, _, _, _, _ => my_152
  | 153, _, _, _, _ => my_153
  | 154, _, _, _, _ => my_154
  | 155, _, _, _, _ => my_155
  | 156, _, _, _, _ => my_156
  | 157, _, _, _, _ => my_157
  | 158, _, _, _, _ => my_158
  | 159, _, _, _, _ => my_159
  | 160, _, _, _, _ => my_160
  | 161, _, _, _, _ => my_161
  | 162, _, _, _, _ => my_162
  | 163, _, _, _, _ => my_163
  | 164, _, _, _, _ => my_164
  | 165, _, _, _, _ => my_165
  | 166, _, _, _, _ => my_166
  | 167, _, _, _, _ => my_167
  | 168, _, _, _, _ => my_168
  | 169, _, _, _, _ => my_169
  | 170, _, _, _, _ => my_170
  | 171, _, _, _, _ => my_171
  | 172, _, _, _, _ => my_172
  | 173, _, _, _, _ => my_173
  | 174, _, _, _, _ => my_174
  | 175, _, _, _, _ => my_175
  | 176, _, _, _, _ => my_176
  | 177, _, _, _, _ => my_177
  | 178, _, _, _, _ => my_178
  | 179, _, _, _, _ => my_179
  | 180, _, _, _, _ => my_180
  | 181, _, _, _, _ => my_181
  | 182, _, _, _, _ => my_182
  | 183, _, _, _, _ => my_183
  | 184, _, _, _, _ => my_184
  | 185, _, _, _, _ => my_185
  | 186, _, _, _, _ => my_186
  | 187, _, _, _, _ => my_187
  | 188, _, _, _, _ => my_188
  | 189, _, _, _, _ => my_189
  | 190, _, _, _, _ => my_190
  | 191, _, _, _, _ => my_191
  | 192, _, _, _, _ => my_192
  | 193, _, _, _, _ => my_193
  | 194, _, _, _, _ => my_194
  | 195, _, _, _, _ => my_195
  | 196, _, _, _, _ => my_196
  | 197, _, _, _, _ => my_197
  | 198, _, _, _, _ => my_198
  | 199, _, _, _, _ => my_199
  | 200, _, _, _, _ => my_200
  | 201, _, _, _, _ => my_201
  | 202, _, _, _, _ => my_202
  | 203, _, _, _, _ => my_203
  | 204, _, _, _, _ => my_204
  | 205, _, _, _, _ => my_205
  | 206, _, _, _, _ => my_206
  | 207, _, _, _, _ => my_207
  | 208, _, _, _, _ => my_208
  | 209, _, _, _, _ => my_209
  | 210, _, _, _, _ => my_210
  | 211, _, _, _, _ => my_211
  | 212, _, _, _, _ => my_212
  | 213, _, _, _, _ => my_213
  | 214, _, _, _, _ => my_214
  | 215, _, _, _, _ => my_215
  | 216, _, _, _, _ => my_216
  | 217, _, _, _, _ => my_217
  | 218, _, _, _, _ => my_218
  | 219, _, _, _, _ => my_219
  | 220, _, _, _, _ => my_220
  | 221, _, _, _, _ => my_221
  | 222, _, _, _, _ => my_222
  | 223, _, _, _, _ => my_223
  | 224, _, _, _, _ => my_224
  | 225, _, _, _, _ => my_225
  | 226, _, _, _, _ => my_226
  | 227, _, _, _, _ => my_227
  | 228, _, _, _, _ => my_228
  | 229, _, _, _, _ => my_229
  | 230, _, _, _, _ => my_230
  | 231, _, _, _, _ => my_231
  | 232, _, _, _, _ => my_232
  | 233, _, _, _, _ => my_233
  | 234, _, _, _, _ => my_234
  | 235, _, _, _, _ => my_235
  | 236, _, _, _, _ => my_236
  | 237, _, _, _, _ => my_237
  | 238, _, _, _, _ => my_238
  | 239, _, _, _, _ => my_239
  | 240, _, _, _, _ => my_240
  | 241, _, _, _, _ => my_241
  | 242, _, _, _, _ => my_242
  | 243, _, _, _, _ => my_243
  | 244, _, _, _, _ => my_244
  | 245, _, _, _, _ => my_245
  | 246, _, _, _, _ => my_246
  | 247, _, _, _, _ => my_247
  | 248, _, _, _, _ => my_248
  | 249, _, _, _, _ => my_249
  | 250, _, _, _, _ => my_250
  | 251, _, _, _, _ => my_251
  | 252, _, _, _, _ => my_252
  | 253, _, _, _, _ => my_253
  | 254, _, _, _, _ => my_254
  | 255, _, _, _, _ => my_255
  | 256, _, _, _, _ => my_256
  | 257, _, _, _, _ => my_257
  | 258, _, _, _, _ => my_258
  | 259, _, _, _, _ => my_259
  | 260, _, _, _, _ => my_260
  | 261, _, _, _, _ => my_261
  | 262, _, _, _, _ => my_262
  | 263, _, _, _, _ => my_263
  | 264, _, _, _, _ => my_264
  | 265, _, _, _, _ => my_265
  | 266, _, _, _, _ => my_266
  | 267, _, _, _, _ => my_267
  | 268, _, _, _, _ => my_268
  | 269, _, _, _, _ => my_269
  | 270, _, _, _, _ => my_270
  | 271, _, _, _, _ => my_271
  | 272, _, _, _, h => absurd (by decide) h
  | 273, _, _, _, h => absurd (by decide) h
  | 274, _, _, _, h => absurd (by decide) h
  | 275, _, _, _, h => absurd (by decide) h
  | 276, _, _, _, _ => my_276
  | 277, _, _, _, _ => my_277
  | 278, _, _, _, _ => my_278
  | 279, _, _, _, _ => my_279
  | 280, _, _, _, _ => my_280
  | 281, _, _, _, _ => my_281
  | 282, _, _, _, _ => my_282
  | 283, _, _, _, _ => my_283
  | 284, _, _, h, _ => absurd rfl h
  | n + 285, _, h, _, _ => absurd h (by omega)
