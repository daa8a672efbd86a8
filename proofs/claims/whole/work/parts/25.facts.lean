/-! facts of the classes and of the field references, by program -/
/-- words that a call's warming keeps -/
def ck_w (w : Cond) : Bool := match w with
  | .methodLinkNest _ _ _ _ => true
  | .fieldLinkNest _ _ _ _ _ _ => true
  | .arrayOver (.object _) => true
  | w => goodWord w
def lw_g : List Cond := lw_tbl.filter ck_w
theorem lw_at {i : Nat} {w : Cond} (h : lw_tbl[i]? = some w) (hk : ck_w w = true := by rfl) : w ∈ lw_g := List.mem_filter.mpr ⟨List.mem_of_getElem? h, hk⟩
theorem lw_ing {ws : List Cond} (h : ∀ w ∈ ws, w ∈ lw_tbl) (hk : ws.all ck_w = true) : ∀ w ∈ ws, w ∈ lw_g := fun w hw => List.mem_filter.mpr ⟨h w hw, List.all_eq_true.mp hk w hw⟩
def cl_P (ci : Nat) (q : vw_C) : Prop := (∀ w ∈ u_ws q.1 q.2.1 q.2.2, w ∈ lw_g) ∧ (∃ ty : Nat → FieldType, ∀ k, k < q.2.2 → parseFieldDescriptor (q.2.1 k).2.2.1 = some (ty k)) ∧ (∀ a, a < q.2.2 → ∀ b, b < q.2.2 → a ≠ b → (q.2.1 a).2.1 ≠ (q.2.1 b).2.1) ∧ Cond.instantiable q.1 q.2.2 ∈ lw_g ∧ Cond.initialized q.1 ∈ lw_g ∧ q.2.2 = (hh_FY.getD ci []).length
theorem cl_0 : cl_P 0 (RX0, TX0, 7) := ⟨lw_ing inX0 (by decide +kernel), ⟨tyX0, tyX0_ok⟩, nmX0, lw_at (i := 240) rfl, lw_at (i := 111) rfl, rfl⟩
theorem cl_1 : cl_P 1 (RX1, TX1, 8) := ⟨lw_ing inX1 (by decide +kernel), ⟨tyX1, tyX1_ok⟩, nmX1, lw_at (i := 135) rfl, lw_at (i := 108) rfl, rfl⟩
theorem cl_2 : cl_P 2 (RX2, TX2, 8) := ⟨lw_ing inX2 (by decide +kernel), ⟨tyX2, tyX2_ok⟩, nmX2, lw_at (i := 336) rfl, lw_at (i := 115) rfl, rfl⟩
theorem cl_3 : cl_P 3 (RX3, TX3, 3) := ⟨lw_ing inX3 (by decide +kernel), ⟨tyX3, tyX3_ok⟩, nmX3, lw_at (i := 281) rfl, lw_at (i := 112) rfl, rfl⟩
theorem cl_4 : cl_P 4 (RX4, TX4, 6) := ⟨lw_ing inX4 (by decide +kernel), ⟨tyX4, tyX4_ok⟩, nmX4, lw_at (i := 373) rfl, lw_at (i := 116) rfl, rfl⟩
theorem cl_5 : cl_P 5 (RX5, TX5, 6) := ⟨lw_ing inX5 (by decide +kernel), ⟨tyX5, tyX5_ok⟩, nmX5, lw_at (i := 213) rfl, lw_at (i := 110) rfl, rfl⟩
theorem cl_6 : cl_P 6 (RX6, TX6, 8) := ⟨lw_ing inX6 (by decide +kernel), ⟨tyX6, tyX6_ok⟩, nmX6, lw_at (i := 179) rfl, lw_at (i := 109) rfl, rfl⟩
theorem cl_7 : cl_P 7 (RX7, TX7, 5) := ⟨lw_ing inX7 (by decide +kernel), ⟨tyX7, tyX7_ok⟩, nmX7, lw_at (i := 299) rfl, lw_at (i := 113) rfl, rfl⟩
theorem cl_8 : cl_P 8 (RX8, TX8, 2) := ⟨lw_ing inX8 (by decide +kernel), ⟨tyX8, tyX8_ok⟩, nmX8, lw_at (i := 323) rfl, lw_at (i := 114) rfl, rfl⟩
theorem cl_9 : cl_P 9 (RX10, TX10, 17) := ⟨lw_ing inX10 (by decide +kernel), ⟨tyX10, tyX10_ok⟩, nmX10, lw_at (i := 127) rfl, lw_at (i := 107) rfl, rfl⟩
set_option maxRecDepth 100000 in
theorem cl_10 : cl_P 10 (RX11, TX11, 73) := ⟨lw_ing inX11 (by decide +kernel), ⟨tyX11, tyX11_ok⟩, nmX11, lw_at (i := 1106) rfl, lw_at (i := 117) rfl, rfl⟩
theorem cl_ok : ∀ (ci : Nat) (q : vw_C), vwCl[ci]? = some q → cl_P ci q
  | 0, _, h => (Option.some.inj h) ▸ cl_0
  | 1, _, h => (Option.some.inj h) ▸ cl_1
  | 2, _, h => (Option.some.inj h) ▸ cl_2
  | 3, _, h => (Option.some.inj h) ▸ cl_3
  | 4, _, h => (Option.some.inj h) ▸ cl_4
  | 5, _, h => (Option.some.inj h) ▸ cl_5
  | 6, _, h => (Option.some.inj h) ▸ cl_6
  | 7, _, h => (Option.some.inj h) ▸ cl_7
  | 8, _, h => (Option.some.inj h) ▸ cl_8
  | 9, _, h => (Option.some.inj h) ▸ cl_9
  | 10, _, h => (Option.some.inj h) ▸ cl_10
  | n + 11, q, h => by simp [vwCl] at h
theorem cl_has : ∀ ci : Nat, ci < 11 → ∃ q, vwCl[ci]? = some q
  | 0, _ => ⟨_, rfl⟩
  | 1, _ => ⟨_, rfl⟩
  | 2, _ => ⟨_, rfl⟩
  | 3, _ => ⟨_, rfl⟩
  | 4, _ => ⟨_, rfl⟩
  | 5, _ => ⟨_, rfl⟩
  | 6, _ => ⟨_, rfl⟩
  | 7, _ => ⟨_, rfl⟩
  | 8, _ => ⟨_, rfl⟩
  | 9, _ => ⟨_, rfl⟩
  | 10, _ => ⟨_, rfl⟩
  | n + 11, h => by omega
def cl_ty (c : Nat) (t : String × String × String × Bool) : Bool := match c with
  | 0 => decide (parseFieldDescriptor t.2.2.1 = some .int) && !t.2.2.2
  | 1 => decide (parseFieldDescriptor t.2.2.1 = some .long) && !t.2.2.2
  | 4 => decide (parseFieldDescriptor t.2.2.1 = some .boolean) && !t.2.2.2
  | 2 => (match parseFieldDescriptor t.2.2.1 with
    | some (.object _) => true
    | _ => false) && !t.2.2.2
  | 3 => (match parseFieldDescriptor t.2.2.1 with
    | some (.object _) => true
    | some (.array _) => true
    | _ => false) && t.2.2.2
  | _ => false
theorem cl_t0 : ∀ j, j < 7 → cl_ty (hh_ft 0 j) (TX0 j) = true := by decide +kernel
theorem cl_t1 : ∀ j, j < 8 → cl_ty (hh_ft 1 j) (TX1 j) = true := by decide +kernel
theorem cl_t2 : ∀ j, j < 8 → cl_ty (hh_ft 2 j) (TX2 j) = true := by decide +kernel
theorem cl_t3 : ∀ j, j < 3 → cl_ty (hh_ft 3 j) (TX3 j) = true := by decide +kernel
theorem cl_t4 : ∀ j, j < 6 → cl_ty (hh_ft 4 j) (TX4 j) = true := by decide +kernel
theorem cl_t5 : ∀ j, j < 6 → cl_ty (hh_ft 5 j) (TX5 j) = true := by decide +kernel
theorem cl_t6 : ∀ j, j < 8 → cl_ty (hh_ft 6 j) (TX6 j) = true := by decide +kernel
theorem cl_t7 : ∀ j, j < 5 → cl_ty (hh_ft 7 j) (TX7 j) = true := by decide +kernel
theorem cl_t8 : ∀ j, j < 2 → cl_ty (hh_ft 8 j) (TX8 j) = true := by decide +kernel
theorem cl_t9 : ∀ j, j < 17 → cl_ty (hh_ft 9 j) (TX10 j) = true := by decide +kernel
theorem cl_t10 : ∀ j, j < 73 → cl_ty (hh_ft 10 j) (TX11 j) = true := by decide +kernel
theorem cl_tok : ∀ (ci : Nat) (q : vw_C), vwCl[ci]? = some q → ∀ j, j < q.2.2 → cl_ty (hh_ft ci j) (q.2.1 j) = true
  | 0, _, h => (Option.some.inj h) ▸ cl_t0
  | 1, _, h => (Option.some.inj h) ▸ cl_t1
  | 2, _, h => (Option.some.inj h) ▸ cl_t2
  | 3, _, h => (Option.some.inj h) ▸ cl_t3
  | 4, _, h => (Option.some.inj h) ▸ cl_t4
  | 5, _, h => (Option.some.inj h) ▸ cl_t5
  | 6, _, h => (Option.some.inj h) ▸ cl_t6
  | 7, _, h => (Option.some.inj h) ▸ cl_t7
  | 8, _, h => (Option.some.inj h) ▸ cl_t8
  | 9, _, h => (Option.some.inj h) ▸ cl_t9
  | 10, _, h => (Option.some.inj h) ▸ cl_t10
  | n + 11, q, h => by simp [vwCl] at h
def fr_P (f : String × Nat × Nat × Nat) : Prop := (∃ q, vwCl[f.2.2.1]? = some q ∧ f.2.2.2 < q.2.2 ∧ Cond.fieldLink f.1 f.2.1 (q.2.1 f.2.2.2).1 (q.2.1 f.2.2.2).2.1 (q.2.1 f.2.2.2).2.2.1 ∈ lw_g) ∨ (f.2.2.1 = 70 ∧ f.2.2.2 = 0 ∧ Cond.fieldLink f.1 f.2.1 "java/lang/String" "value" "[B" ∈ lw_g) ∨ (f.2.2.1 = 70 ∧ f.2.2.2 = 1 ∧ Cond.fieldLink f.1 f.2.1 "java/lang/String" "coder" "B" ∈ lw_g)
theorem fr_0 : fr_P ("HotHand$Asked", 7, 0, 0) := Or.inl ⟨_, rfl, by decide, lw_at (i := 245) rfl⟩
theorem fr_1 : fr_P ("HotHand$Asked", 13, 0, 1) := Or.inl ⟨_, rfl, by decide, lw_at (i := 248) rfl⟩
theorem fr_2 : fr_P ("HotHand$Asked", 16, 0, 2) := Or.inl ⟨_, rfl, by decide, lw_at (i := 250) rfl⟩
theorem fr_3 : fr_P ("HotHand$Asked", 19, 0, 3) := Or.inl ⟨_, rfl, by decide, lw_at (i := 253) rfl⟩
theorem fr_4 : fr_P ("HotHand$Asked", 22, 0, 4) := Or.inl ⟨_, rfl, by decide, lw_at (i := 254) rfl⟩
theorem fr_5 : fr_P ("HotHand$Asked", 25, 0, 5) := Or.inl ⟨_, rfl, by decide, lw_at (i := 256) rfl⟩
theorem fr_6 : fr_P ("HotHand$Asked", 28, 0, 6) := Or.inl ⟨_, rfl, by decide, lw_at (i := 260) rfl⟩
theorem fr_7 : fr_P ("HotHand$Court", 9, 1, 0) := Or.inl ⟨_, rfl, by decide, lw_at (i := 140) rfl⟩
theorem fr_8 : fr_P ("HotHand$Court", 15, 1, 1) := Or.inl ⟨_, rfl, by decide, lw_at (i := 142) rfl⟩
theorem fr_9 : fr_P ("HotHand$Court", 18, 1, 2) := Or.inl ⟨_, rfl, by decide, lw_at (i := 145) rfl⟩
theorem fr_10 : fr_P ("HotHand$Court", 22, 1, 3) := Or.inl ⟨_, rfl, by decide, lw_at (i := 147) rfl⟩
theorem fr_11 : fr_P ("HotHand$Court", 26, 1, 4) := Or.inl ⟨_, rfl, by decide, lw_at (i := 149) rfl⟩
theorem fr_12 : fr_P ("HotHand$Court", 29, 1, 5) := Or.inl ⟨_, rfl, by decide, lw_at (i := 152) rfl⟩
theorem fr_13 : fr_P ("HotHand$Court", 32, 1, 6) := Or.inl ⟨_, rfl, by decide, lw_at (i := 155) rfl⟩
theorem fr_14 : fr_P ("HotHand$Court", 36, 1, 7) := Or.inl ⟨_, rfl, by decide, lw_at (i := 156) rfl⟩
theorem fr_15 : fr_P ("HotHand$Court", 47, 0, 5) := Or.inl ⟨_, rfl, by decide, lw_at (i := 258) rfl⟩
theorem fr_16 : fr_P ("HotHand$Court", 52, 0, 6) := Or.inl ⟨_, rfl, by decide, lw_at (i := 263) rfl⟩
theorem fr_17 : fr_P ("HotHand$Game", 9, 2, 0) := Or.inl ⟨_, rfl, by decide, lw_at (i := 346) rfl⟩
theorem fr_18 : fr_P ("HotHand$Game", 18, 2, 1) := Or.inl ⟨_, rfl, by decide, lw_at (i := 348) rfl⟩
theorem fr_19 : fr_P ("HotHand$Game", 22, 2, 2) := Or.inl ⟨_, rfl, by decide, lw_at (i := 349) rfl⟩
theorem fr_20 : fr_P ("HotHand$Game", 25, 2, 3) := Or.inl ⟨_, rfl, by decide, lw_at (i := 350) rfl⟩
theorem fr_21 : fr_P ("HotHand$Game", 28, 2, 4) := Or.inl ⟨_, rfl, by decide, lw_at (i := 351) rfl⟩
theorem fr_22 : fr_P ("HotHand$Game", 33, 2, 5) := Or.inl ⟨_, rfl, by decide, lw_at (i := 352) rfl⟩
theorem fr_23 : fr_P ("HotHand$Game", 37, 2, 6) := Or.inl ⟨_, rfl, by decide, lw_at (i := 353) rfl⟩
theorem fr_24 : fr_P ("HotHand$Game", 40, 2, 7) := Or.inl ⟨_, rfl, by decide, lw_at (i := 354) rfl⟩
theorem fr_25 : fr_P ("HotHand$Game", 48, 0, 0) := Or.inl ⟨_, rfl, by decide, lw_at (i := 246) rfl⟩
theorem fr_26 : fr_P ("HotHand$Game", 55, 0, 6) := Or.inl ⟨_, rfl, by decide, lw_at (i := 261) rfl⟩
theorem fr_27 : fr_P ("HotHand$Leaning", 9, 3, 0) := Or.inl ⟨_, rfl, by decide, lw_at (i := 286) rfl⟩
theorem fr_28 : fr_P ("HotHand$Leaning", 15, 3, 1) := Or.inl ⟨_, rfl, by decide, lw_at (i := 288) rfl⟩
theorem fr_29 : fr_P ("HotHand$Leaning", 18, 3, 2) := Or.inl ⟨_, rfl, by decide, lw_at (i := 290) rfl⟩
theorem fr_30 : fr_P ("HotHand$Measure", 9, 4, 0) := Or.inl ⟨_, rfl, by decide, lw_at (i := 378) rfl⟩
theorem fr_31 : fr_P ("HotHand$Measure", 15, 4, 1) := Or.inl ⟨_, rfl, by decide, lw_at (i := 379) rfl⟩
theorem fr_32 : fr_P ("HotHand$Measure", 19, 4, 2) := Or.inl ⟨_, rfl, by decide, lw_at (i := 380) rfl⟩
theorem fr_33 : fr_P ("HotHand$Measure", 22, 4, 3) := Or.inl ⟨_, rfl, by decide, lw_at (i := 381) rfl⟩
theorem fr_34 : fr_P ("HotHand$Measure", 26, 4, 4) := Or.inl ⟨_, rfl, by decide, lw_at (i := 382) rfl⟩
theorem fr_35 : fr_P ("HotHand$Measure", 29, 4, 5) := Or.inl ⟨_, rfl, by decide, lw_at (i := 383) rfl⟩
theorem fr_36 : fr_P ("HotHand$Reader", 9, 5, 0) := Or.inl ⟨_, rfl, by decide, lw_at (i := 218) rfl⟩
theorem fr_37 : fr_P ("HotHand$Reader", 15, 5, 1) := Or.inl ⟨_, rfl, by decide, lw_at (i := 220) rfl⟩
theorem fr_38 : fr_P ("HotHand$Reader", 19, 5, 2) := Or.inl ⟨_, rfl, by decide, lw_at (i := 221) rfl⟩
theorem fr_39 : fr_P ("HotHand$Reader", 23, 5, 3) := Or.inl ⟨_, rfl, by decide, lw_at (i := 222) rfl⟩
theorem fr_40 : fr_P ("HotHand$Reader", 26, 5, 4) := Or.inl ⟨_, rfl, by decide, lw_at (i := 223) rfl⟩
theorem fr_41 : fr_P ("HotHand$Reader", 29, 5, 5) := Or.inl ⟨_, rfl, by decide, lw_at (i := 224) rfl⟩
theorem fr_42 : fr_P ("HotHand$Rules", 9, 6, 0) := Or.inl ⟨_, rfl, by decide, lw_at (i := 184) rfl⟩
theorem fr_43 : fr_P ("HotHand$Rules", 15, 6, 1) := Or.inl ⟨_, rfl, by decide, lw_at (i := 186) rfl⟩
theorem fr_44 : fr_P ("HotHand$Rules", 18, 6, 2) := Or.inl ⟨_, rfl, by decide, lw_at (i := 187) rfl⟩
theorem fr_45 : fr_P ("HotHand$Rules", 21, 6, 3) := Or.inl ⟨_, rfl, by decide, lw_at (i := 188) rfl⟩
theorem fr_46 : fr_P ("HotHand$Rules", 24, 6, 4) := Or.inl ⟨_, rfl, by decide, lw_at (i := 189) rfl⟩
theorem fr_47 : fr_P ("HotHand$Rules", 28, 6, 5) := Or.inl ⟨_, rfl, by decide, lw_at (i := 190) rfl⟩
theorem fr_48 : fr_P ("HotHand$Rules", 31, 6, 6) := Or.inl ⟨_, rfl, by decide, lw_at (i := 191) rfl⟩
theorem fr_49 : fr_P ("HotHand$Rules", 34, 6, 7) := Or.inl ⟨_, rfl, by decide, lw_at (i := 192) rfl⟩
theorem fr_50 : fr_P ("HotHand$Rules", 39, 0, 5) := Or.inl ⟨_, rfl, by decide, lw_at (i := 257) rfl⟩
theorem fr_51 : fr_P ("HotHand$Rules", 44, 0, 6) := Or.inl ⟨_, rfl, by decide, lw_at (i := 262) rfl⟩
theorem fr_52 : fr_P ("HotHand$Rules", 64, 0, 2) := Or.inl ⟨_, rfl, by decide, lw_at (i := 251) rfl⟩
theorem fr_53 : fr_P ("HotHand$Shuffles", 9, 7, 0) := Or.inl ⟨_, rfl, by decide, lw_at (i := 304) rfl⟩
theorem fr_54 : fr_P ("HotHand$Shuffles", 15, 7, 1) := Or.inl ⟨_, rfl, by decide, lw_at (i := 306) rfl⟩
theorem fr_55 : fr_P ("HotHand$Shuffles", 19, 7, 2) := Or.inl ⟨_, rfl, by decide, lw_at (i := 308) rfl⟩
theorem fr_56 : fr_P ("HotHand$Shuffles", 23, 7, 3) := Or.inl ⟨_, rfl, by decide, lw_at (i := 309) rfl⟩
theorem fr_57 : fr_P ("HotHand$Shuffles", 26, 7, 4) := Or.inl ⟨_, rfl, by decide, lw_at (i := 310) rfl⟩
theorem fr_58 : fr_P ("HotHand$Shuffles", 29, 1, 1) := Or.inl ⟨_, rfl, by decide, lw_at (i := 143) rfl⟩
theorem fr_59 : fr_P ("HotHand$Shuffles", 38, 1, 5) := Or.inl ⟨_, rfl, by decide, lw_at (i := 153) rfl⟩
theorem fr_60 : fr_P ("HotHand$Shuffles", 42, 1, 4) := Or.inl ⟨_, rfl, by decide, lw_at (i := 150) rfl⟩
theorem fr_61 : fr_P ("HotHand$Trial", 9, 8, 0) := Or.inl ⟨_, rfl, by decide, lw_at (i := 328) rfl⟩
theorem fr_62 : fr_P ("HotHand$Trial", 15, 8, 1) := Or.inl ⟨_, rfl, by decide, lw_at (i := 329) rfl⟩
theorem fr_63 : fr_P ("HotHand", 10, 9, 0) := Or.inl ⟨_, rfl, by decide, lw_at (i := 397) rfl⟩
theorem fr_64 : fr_P ("HotHand", 16, 9, 1) := Or.inl ⟨_, rfl, by decide, lw_at (i := 398) rfl⟩
theorem fr_65 : fr_P ("HotHand", 20, 9, 2) := Or.inl ⟨_, rfl, by decide, lw_at (i := 399) rfl⟩
theorem fr_66 : fr_P ("HotHand", 26, 9, 3) := Or.inl ⟨_, rfl, by decide, lw_at (i := 400) rfl⟩
theorem fr_67 : fr_P ("HotHand", 30, 9, 4) := Or.inl ⟨_, rfl, by decide, lw_at (i := 401) rfl⟩
theorem fr_68 : fr_P ("HotHand", 34, 9, 5) := Or.inl ⟨_, rfl, by decide, lw_at (i := 402) rfl⟩
theorem fr_69 : fr_P ("HotHand", 40, 9, 6) := Or.inl ⟨_, rfl, by decide, lw_at (i := 403) rfl⟩
theorem fr_70 : fr_P ("HotHand", 44, 9, 7) := Or.inl ⟨_, rfl, by decide, lw_at (i := 404) rfl⟩
theorem fr_71 : fr_P ("HotHand", 50, 9, 8) := Or.inl ⟨_, rfl, by decide, lw_at (i := 405) rfl⟩
theorem fr_72 : fr_P ("HotHand", 54, 9, 9) := Or.inl ⟨_, rfl, by decide, lw_at (i := 406) rfl⟩
theorem fr_73 : fr_P ("HotHand", 60, 9, 10) := Or.inl ⟨_, rfl, by decide, lw_at (i := 407) rfl⟩
theorem fr_74 : fr_P ("HotHand", 67, 9, 11) := Or.inl ⟨_, rfl, by decide, lw_at (i := 408) rfl⟩
theorem fr_75 : fr_P ("HotHand", 74, 9, 12) := Or.inl ⟨_, rfl, by decide, lw_at (i := 409) rfl⟩
theorem fr_76 : fr_P ("HotHand", 81, 9, 13) := Or.inl ⟨_, rfl, by decide, lw_at (i := 410) rfl⟩
theorem fr_77 : fr_P ("HotHand", 88, 9, 14) := Or.inl ⟨_, rfl, by decide, lw_at (i := 411) rfl⟩
theorem fr_78 : fr_P ("HotHand", 92, 9, 15) := Or.inl ⟨_, rfl, by decide, lw_at (i := 412) rfl⟩
theorem fr_79 : fr_P ("HotHand", 96, 9, 16) := Or.inl ⟨_, rfl, by decide, lw_at (i := 413) rfl⟩
theorem fr_80 : fr_P ("HotHand", 101, 5, 0) := Or.inl ⟨_, rfl, by decide, lw_at (i := 219) rfl⟩
theorem fr_81 : fr_P ("HotHand", 123, 6, 0) := Or.inl ⟨_, rfl, by decide, lw_at (i := 185) rfl⟩
theorem fr_82 : fr_P ("HotHand", 137, 1, 0) := Or.inl ⟨_, rfl, by decide, lw_at (i := 141) rfl⟩
theorem fr_83 : fr_P ("HotHand", 141, 1, 2) := Or.inl ⟨_, rfl, by decide, lw_at (i := 146) rfl⟩
theorem fr_84 : fr_P ("HotHand", 145, 1, 1) := Or.inl ⟨_, rfl, by decide, lw_at (i := 144) rfl⟩
theorem fr_85 : fr_P ("HotHand", 159, 1, 4) := Or.inl ⟨_, rfl, by decide, lw_at (i := 151) rfl⟩
theorem fr_86 : fr_P ("HotHand", 190, 0, 5) := Or.inl ⟨_, rfl, by decide, lw_at (i := 259) rfl⟩
theorem fr_87 : fr_P ("HotHand", 193, 0, 6) := Or.inl ⟨_, rfl, by decide, lw_at (i := 264) rfl⟩
theorem fr_88 : fr_P ("HotHand", 217, 0, 4) := Or.inl ⟨_, rfl, by decide, lw_at (i := 255) rfl⟩
theorem fr_89 : fr_P ("HotHand", 214, 0, 1) := Or.inl ⟨_, rfl, by decide, lw_at (i := 249) rfl⟩
theorem fr_90 : fr_P ("HotHand", 211, 0, 0) := Or.inl ⟨_, rfl, by decide, lw_at (i := 247) rfl⟩
theorem fr_91 : fr_P ("HotHand", 208, 0, 2) := Or.inl ⟨_, rfl, by decide, lw_at (i := 252) rfl⟩
theorem fr_92 : fr_P ("HotHand", 223, 1, 5) := Or.inl ⟨_, rfl, by decide, lw_at (i := 154) rfl⟩
theorem fr_93 : fr_P ("HotHand", 220, 1, 3) := Or.inl ⟨_, rfl, by decide, lw_at (i := 148) rfl⟩
theorem fr_94 : fr_P ("HotHand", 270, 3, 0) := Or.inl ⟨_, rfl, by decide, lw_at (i := 287) rfl⟩
theorem fr_95 : fr_P ("HotHand", 275, 3, 1) := Or.inl ⟨_, rfl, by decide, lw_at (i := 289) rfl⟩
theorem fr_96 : fr_P ("HotHand", 300, 7, 0) := Or.inl ⟨_, rfl, by decide, lw_at (i := 305) rfl⟩
theorem fr_97 : fr_P ("HotHand", 303, 7, 1) := Or.inl ⟨_, rfl, by decide, lw_at (i := 307) rfl⟩
theorem fr_98 : fr_P ("HotHand", 383, 2, 0) := Or.inl ⟨_, rfl, by decide, lw_at (i := 347) rfl⟩
set_option maxRecDepth 100000 in
theorem fr_99 : fr_P ("HotHandModel", 7, 10, 4) := Or.inl ⟨_, rfl, by decide, lw_at (i := 1115) rfl⟩
set_option maxRecDepth 100000 in
theorem fr_100 : fr_P ("HotHandModel", 13, 10, 5) := Or.inl ⟨_, rfl, by decide, lw_at (i := 1116) rfl⟩
set_option maxRecDepth 100000 in
theorem fr_101 : fr_P ("HotHandModel", 17, 10, 6) := Or.inl ⟨_, rfl, by decide, lw_at (i := 1117) rfl⟩
set_option maxRecDepth 100000 in
theorem fr_102 : fr_P ("HotHandModel", 20, 10, 7) := Or.inl ⟨_, rfl, by decide, lw_at (i := 1118) rfl⟩
set_option maxRecDepth 100000 in
theorem fr_103 : fr_P ("HotHandModel", 23, 10, 8) := Or.inl ⟨_, rfl, by decide, lw_at (i := 1119) rfl⟩
set_option maxRecDepth 100000 in
theorem fr_104 : fr_P ("HotHandModel", 26, 10, 9) := Or.inl ⟨_, rfl, by decide, lw_at (i := 1120) rfl⟩
set_option maxRecDepth 100000 in
theorem fr_105 : fr_P ("HotHandModel", 29, 10, 17) := Or.inl ⟨_, rfl, by decide, lw_at (i := 1128) rfl⟩
set_option maxRecDepth 100000 in
theorem fr_106 : fr_P ("HotHandModel", 33, 10, 18) := Or.inl ⟨_, rfl, by decide, lw_at (i := 1129) rfl⟩
set_option maxRecDepth 100000 in
theorem fr_107 : fr_P ("HotHandModel", 36, 10, 19) := Or.inl ⟨_, rfl, by decide, lw_at (i := 1130) rfl⟩
set_option maxRecDepth 100000 in
theorem fr_108 : fr_P ("HotHandModel", 39, 10, 20) := Or.inl ⟨_, rfl, by decide, lw_at (i := 1131) rfl⟩
set_option maxRecDepth 100000 in
theorem fr_109 : fr_P ("HotHandModel", 42, 10, 21) := Or.inl ⟨_, rfl, by decide, lw_at (i := 1132) rfl⟩
set_option maxRecDepth 100000 in
theorem fr_110 : fr_P ("HotHandModel", 45, 10, 22) := Or.inl ⟨_, rfl, by decide, lw_at (i := 1133) rfl⟩
set_option maxRecDepth 100000 in
theorem fr_111 : fr_P ("HotHandModel", 48, 10, 23) := Or.inl ⟨_, rfl, by decide, lw_at (i := 1134) rfl⟩
set_option maxRecDepth 100000 in
theorem fr_112 : fr_P ("HotHandModel", 51, 10, 24) := Or.inl ⟨_, rfl, by decide, lw_at (i := 1135) rfl⟩
set_option maxRecDepth 100000 in
theorem fr_113 : fr_P ("HotHandModel", 54, 10, 25) := Or.inl ⟨_, rfl, by decide, lw_at (i := 1136) rfl⟩
set_option maxRecDepth 100000 in
theorem fr_114 : fr_P ("HotHandModel", 57, 10, 26) := Or.inl ⟨_, rfl, by decide, lw_at (i := 1137) rfl⟩
set_option maxRecDepth 100000 in
theorem fr_115 : fr_P ("HotHandModel", 60, 10, 27) := Or.inl ⟨_, rfl, by decide, lw_at (i := 1138) rfl⟩
set_option maxRecDepth 100000 in
theorem fr_116 : fr_P ("HotHandModel", 63, 10, 28) := Or.inl ⟨_, rfl, by decide, lw_at (i := 1139) rfl⟩
set_option maxRecDepth 100000 in
theorem fr_117 : fr_P ("HotHandModel", 66, 10, 29) := Or.inl ⟨_, rfl, by decide, lw_at (i := 1140) rfl⟩
set_option maxRecDepth 100000 in
theorem fr_118 : fr_P ("HotHandModel", 70, 10, 30) := Or.inl ⟨_, rfl, by decide, lw_at (i := 1141) rfl⟩
set_option maxRecDepth 100000 in
theorem fr_119 : fr_P ("HotHandModel", 74, 10, 31) := Or.inl ⟨_, rfl, by decide, lw_at (i := 1142) rfl⟩
set_option maxRecDepth 100000 in
theorem fr_120 : fr_P ("HotHandModel", 77, 10, 34) := Or.inl ⟨_, rfl, by decide, lw_at (i := 1145) rfl⟩
set_option maxRecDepth 100000 in
theorem fr_121 : fr_P ("HotHandModel", 80, 10, 35) := Or.inl ⟨_, rfl, by decide, lw_at (i := 1146) rfl⟩
set_option maxRecDepth 100000 in
theorem fr_122 : fr_P ("HotHandModel", 83, 10, 36) := Or.inl ⟨_, rfl, by decide, lw_at (i := 1147) rfl⟩
set_option maxRecDepth 100000 in
theorem fr_123 : fr_P ("HotHandModel", 86, 10, 37) := Or.inl ⟨_, rfl, by decide, lw_at (i := 1148) rfl⟩
set_option maxRecDepth 100000 in
theorem fr_124 : fr_P ("HotHandModel", 89, 10, 38) := Or.inl ⟨_, rfl, by decide, lw_at (i := 1149) rfl⟩
set_option maxRecDepth 100000 in
theorem fr_125 : fr_P ("HotHandModel", 92, 10, 39) := Or.inl ⟨_, rfl, by decide, lw_at (i := 1150) rfl⟩
set_option maxRecDepth 100000 in
theorem fr_126 : fr_P ("HotHandModel", 95, 10, 47) := Or.inl ⟨_, rfl, by decide, lw_at (i := 1158) rfl⟩
set_option maxRecDepth 100000 in
theorem fr_127 : fr_P ("HotHandModel", 99, 10, 48) := Or.inl ⟨_, rfl, by decide, lw_at (i := 1159) rfl⟩
set_option maxRecDepth 100000 in
theorem fr_128 : fr_P ("HotHandModel", 102, 10, 49) := Or.inl ⟨_, rfl, by decide, lw_at (i := 1160) rfl⟩
set_option maxRecDepth 100000 in
theorem fr_129 : fr_P ("HotHandModel", 105, 10, 54) := Or.inl ⟨_, rfl, by decide, lw_at (i := 1165) rfl⟩
set_option maxRecDepth 100000 in
theorem fr_130 : fr_P ("HotHandModel", 108, 10, 55) := Or.inl ⟨_, rfl, by decide, lw_at (i := 1166) rfl⟩
set_option maxRecDepth 100000 in
theorem fr_131 : fr_P ("HotHandModel", 111, 10, 56) := Or.inl ⟨_, rfl, by decide, lw_at (i := 1167) rfl⟩
set_option maxRecDepth 100000 in
theorem fr_132 : fr_P ("HotHandModel", 114, 10, 57) := Or.inl ⟨_, rfl, by decide, lw_at (i := 1168) rfl⟩
set_option maxRecDepth 100000 in
theorem fr_133 : fr_P ("HotHandModel", 117, 10, 58) := Or.inl ⟨_, rfl, by decide, lw_at (i := 1169) rfl⟩
set_option maxRecDepth 100000 in
theorem fr_134 : fr_P ("HotHandModel", 120, 10, 59) := Or.inl ⟨_, rfl, by decide, lw_at (i := 1170) rfl⟩
set_option maxRecDepth 100000 in
theorem fr_135 : fr_P ("HotHandModel", 123, 10, 60) := Or.inl ⟨_, rfl, by decide, lw_at (i := 1171) rfl⟩
set_option maxRecDepth 100000 in
theorem fr_136 : fr_P ("HotHandModel", 126, 10, 63) := Or.inl ⟨_, rfl, by decide, lw_at (i := 1174) rfl⟩
set_option maxRecDepth 100000 in
theorem fr_137 : fr_P ("HotHandModel", 129, 10, 64) := Or.inl ⟨_, rfl, by decide, lw_at (i := 1175) rfl⟩
set_option maxRecDepth 100000 in
theorem fr_138 : fr_P ("HotHandModel", 132, 10, 66) := Or.inl ⟨_, rfl, by decide, lw_at (i := 1177) rfl⟩
set_option maxRecDepth 100000 in
theorem fr_139 : fr_P ("HotHandModel", 135, 10, 67) := Or.inl ⟨_, rfl, by decide, lw_at (i := 1178) rfl⟩
set_option maxRecDepth 100000 in
theorem fr_140 : fr_P ("HotHandModel", 138, 10, 68) := Or.inl ⟨_, rfl, by decide, lw_at (i := 1179) rfl⟩
set_option maxRecDepth 100000 in
theorem fr_141 : fr_P ("HotHandModel", 141, 10, 71) := Or.inl ⟨_, rfl, by decide, lw_at (i := 1182) rfl⟩
set_option maxRecDepth 100000 in
theorem fr_142 : fr_P ("HotHandModel", 144, 10, 72) := Or.inl ⟨_, rfl, by decide, lw_at (i := 1183) rfl⟩
set_option maxRecDepth 100000 in
theorem fr_143 : fr_P ("HotHandModel", 157, 10, 0) := Or.inl ⟨_, rfl, by decide, lw_at (i := 1111) rfl⟩
set_option maxRecDepth 100000 in
theorem fr_144 : fr_P ("HotHandModel", 160, 10, 1) := Or.inl ⟨_, rfl, by decide, lw_at (i := 1112) rfl⟩
set_option maxRecDepth 100000 in
theorem fr_145 : fr_P ("HotHandModel", 163, 10, 2) := Or.inl ⟨_, rfl, by decide, lw_at (i := 1113) rfl⟩
set_option maxRecDepth 100000 in
theorem fr_146 : fr_P ("HotHandModel", 170, 10, 3) := Or.inl ⟨_, rfl, by decide, lw_at (i := 1114) rfl⟩
set_option maxRecDepth 100000 in
theorem fr_147 : fr_P ("HotHandModel", 185, 10, 10) := Or.inl ⟨_, rfl, by decide, lw_at (i := 1121) rfl⟩
set_option maxRecDepth 100000 in
theorem fr_148 : fr_P ("HotHandModel", 192, 10, 12) := Or.inl ⟨_, rfl, by decide, lw_at (i := 1123) rfl⟩
set_option maxRecDepth 100000 in
theorem fr_149 : fr_P ("HotHandModel", 195, 10, 11) := Or.inl ⟨_, rfl, by decide, lw_at (i := 1122) rfl⟩
set_option maxRecDepth 100000 in
theorem fr_150 : fr_P ("HotHandModel", 201, 10, 32) := Or.inl ⟨_, rfl, by decide, lw_at (i := 1143) rfl⟩
set_option maxRecDepth 100000 in
theorem fr_151 : fr_P ("HotHandModel", 208, 10, 33) := Or.inl ⟨_, rfl, by decide, lw_at (i := 1144) rfl⟩
set_option maxRecDepth 100000 in
theorem fr_152 : fr_P ("HotHandModel", 225, 10, 14) := Or.inl ⟨_, rfl, by decide, lw_at (i := 1125) rfl⟩
set_option maxRecDepth 100000 in
theorem fr_153 : fr_P ("HotHandModel", 228, 10, 13) := Or.inl ⟨_, rfl, by decide, lw_at (i := 1124) rfl⟩
set_option maxRecDepth 100000 in
theorem fr_154 : fr_P ("HotHandModel", 285, 10, 15) := Or.inl ⟨_, rfl, by decide, lw_at (i := 1126) rfl⟩
set_option maxRecDepth 100000 in
theorem fr_155 : fr_P ("HotHandModel", 388, 10, 16) := Or.inl ⟨_, rfl, by decide, lw_at (i := 1127) rfl⟩
set_option maxRecDepth 100000 in
theorem fr_156 : fr_P ("HotHandModel", 394, 10, 40) := Or.inl ⟨_, rfl, by decide, lw_at (i := 1151) rfl⟩
set_option maxRecDepth 100000 in
theorem fr_157 : fr_P ("HotHandModel", 397, 10, 41) := Or.inl ⟨_, rfl, by decide, lw_at (i := 1152) rfl⟩
set_option maxRecDepth 100000 in
theorem fr_158 : fr_P ("HotHandModel", 409, 10, 42) := Or.inl ⟨_, rfl, by decide, lw_at (i := 1153) rfl⟩
set_option maxRecDepth 100000 in
theorem fr_159 : fr_P ("HotHandModel", 446, 10, 43) := Or.inl ⟨_, rfl, by decide, lw_at (i := 1154) rfl⟩
set_option maxRecDepth 100000 in
theorem fr_160 : fr_P ("HotHandModel", 449, 10, 44) := Or.inl ⟨_, rfl, by decide, lw_at (i := 1155) rfl⟩
set_option maxRecDepth 100000 in
theorem fr_161 : fr_P ("HotHandModel", 456, 10, 45) := Or.inl ⟨_, rfl, by decide, lw_at (i := 1156) rfl⟩
set_option maxRecDepth 100000 in
theorem fr_162 : fr_P ("HotHandModel", 459, 10, 46) := Or.inl ⟨_, rfl, by decide, lw_at (i := 1157) rfl⟩
set_option maxRecDepth 100000 in
theorem fr_163 : fr_P ("HotHandModel", 478, 10, 50) := Or.inl ⟨_, rfl, by decide, lw_at (i := 1161) rfl⟩
set_option maxRecDepth 100000 in
theorem fr_164 : fr_P ("HotHandModel", 483, 10, 51) := Or.inl ⟨_, rfl, by decide, lw_at (i := 1162) rfl⟩
set_option maxRecDepth 100000 in
theorem fr_165 : fr_P ("HotHandModel", 486, 10, 52) := Or.inl ⟨_, rfl, by decide, lw_at (i := 1163) rfl⟩
set_option maxRecDepth 100000 in
theorem fr_166 : fr_P ("HotHandModel", 489, 10, 53) := Or.inl ⟨_, rfl, by decide, lw_at (i := 1164) rfl⟩
set_option maxRecDepth 100000 in
theorem fr_167 : fr_P ("HotHandModel", 528, 10, 61) := Or.inl ⟨_, rfl, by decide, lw_at (i := 1172) rfl⟩
set_option maxRecDepth 100000 in
theorem fr_168 : fr_P ("HotHandModel", 531, 10, 62) := Or.inl ⟨_, rfl, by decide, lw_at (i := 1173) rfl⟩
set_option maxRecDepth 100000 in
theorem fr_169 : fr_P ("HotHandModel", 537, 10, 65) := Or.inl ⟨_, rfl, by decide, lw_at (i := 1176) rfl⟩
set_option maxRecDepth 100000 in
theorem fr_170 : fr_P ("HotHandModel", 559, 10, 69) := Or.inl ⟨_, rfl, by decide, lw_at (i := 1180) rfl⟩
set_option maxRecDepth 100000 in
theorem fr_171 : fr_P ("HotHandModel", 569, 10, 70) := Or.inl ⟨_, rfl, by decide, lw_at (i := 1181) rfl⟩
set_option maxRecDepth 100000 in
theorem fr_172 : fr_P ("java/lang/String", 9, 70, 0) := Or.inr (Or.inl ⟨rfl, rfl, lw_at (i := 1837) rfl⟩)
set_option maxRecDepth 100000 in
theorem fr_173 : fr_P ("java/lang/String", 15, 70, 1) := Or.inr (Or.inr ⟨rfl, rfl, lw_at (i := 1838) rfl⟩)
def pg_F : List (String × Nat × Nat × Nat) := [("HotHand$Asked", 7, 0, 0), ("HotHand$Asked", 13, 0, 1), ("HotHand$Asked", 16, 0, 2), ("HotHand$Asked", 19, 0, 3), ("HotHand$Asked", 22, 0, 4), ("HotHand$Asked", 25, 0, 5), ("HotHand$Asked", 28, 0, 6), ("HotHand$Court", 9, 1, 0), ("HotHand$Court", 15, 1, 1), ("HotHand$Court", 18, 1, 2), ("HotHand$Court", 22, 1, 3), ("HotHand$Court", 26, 1, 4), ("HotHand$Court", 29, 1, 5), ("HotHand$Court", 32, 1, 6), ("HotHand$Court", 36, 1, 7), ("HotHand$Court", 47, 0, 5), ("HotHand$Court", 52, 0, 6), ("HotHand$Game", 9, 2, 0), ("HotHand$Game", 18, 2, 1), ("HotHand$Game", 22, 2, 2), ("HotHand$Game", 25, 2, 3), ("HotHand$Game", 28, 2, 4), ("HotHand$Game", 33, 2, 5), ("HotHand$Game", 37, 2, 6), ("HotHand$Game", 40, 2, 7), ("HotHand$Game", 48, 0, 0), ("HotHand$Game", 55, 0, 6), ("HotHand$Leaning", 9, 3, 0), ("HotHand$Leaning", 15, 3, 1), ("HotHand$Leaning", 18, 3, 2), ("HotHand$Measure", 9, 4, 0), ("HotHand$Measure", 15, 4, 1), ("HotHand$Measure", 19, 4, 2), ("HotHand$Measure", 22, 4, 3), ("HotHand$Measure", 26, 4, 4), ("HotHand$Measure", 29, 4, 5), ("HotHand$Reader", 9, 5, 0), ("HotHand$Reader", 15, 5, 1), ("HotHand$Reader", 19, 5, 2), ("HotHand$Reader", 23, 5, 3), ("HotHand$Reader", 26, 5, 4), ("HotHand$Reader", 29, 5, 5), ("HotHand$Rules", 9, 6, 0), ("HotHand$Rules", 15, 6, 1), ("HotHand$Rules", 18, 6, 2), ("HotHand$Rules", 21, 6, 3), ("HotHand$Rules", 24, 6, 4), ("HotHand$Rules", 28, 6, 5), ("HotHand$Rules", 31, 6, 6), ("HotHand$Rules", 34, 6, 7), ("HotHand$Rules", 39, 0, 5), ("HotHand$Rules", 44, 0, 6), ("HotHand$Rules", 64, 0, 2), ("HotHand$Shuffles", 9, 7, 0), ("HotHand$Shuffles", 15, 7, 1), ("HotHand$Shuffles", 19, 7, 2), ("HotHand$Shuffles", 23, 7, 3), ("HotHand$Shuffles", 26, 7, 4), ("HotHand$Shuffles", 29, 1, 1), ("HotHand$Shuffles", 38, 1, 5), ("HotHand$Shuffles", 42, 1, 4), ("HotHand$Trial", 9, 8, 0), ("HotHand$Trial", 15, 8, 1), ("HotHand", 10, 9, 0), ("HotHand", 16, 9, 1), ("HotHand", 20, 9, 2), ("HotHand", 26, 9, 3), ("HotHand", 30, 9, 4), ("HotHand", 34, 9, 5), ("HotHand", 40, 9, 6), ("HotHand", 44, 9, 7), ("HotHand", 50, 9, 8), ("HotHand", 54, 9, 9), ("HotHand", 60, 9, 10), ("HotHand", 67, 9, 11), ("HotHand", 74, 9, 12), ("HotHand", 81, 9, 13), ("HotHand", 88, 9, 14), ("HotHand", 92, 9, 15), ("HotHand", 96, 9, 16), ("HotHand", 101, 5, 0), ("HotHand", 123, 6, 0), ("HotHand", 137, 1, 0), ("HotHand", 141, 1, 2), ("HotHand", 145, 1, 1), ("HotHand", 159, 1, 4), ("HotHand", 190, 0, 5), ("HotHand", 193, 0, 6), ("HotHand", 217, 0, 4), ("HotHand", 214, 0, 1), ("HotHand", 211, 0, 0), ("HotHand", 208, 0, 2), ("HotHand", 223, 1, 5), ("HotHand", 220, 1, 3), ("HotHand", 270, 3, 0), ("HotHand", 275, 3, 1), ("HotHand", 300, 7, 0), ("HotHand", 303, 7, 1), ("HotHand", 383, 2, 0), ("HotHandModel", 7, 10, 4), ("HotHandModel", 13, 10, 5), ("HotHandModel", 17, 10, 6), ("HotHandModel", 20, 10, 7), ("HotHandModel", 23, 10, 8), ("HotHandModel", 26, 10, 9), ("HotHandModel", 29, 10, 17), ("HotHandModel", 33, 10, 18), ("HotHandModel", 36, 10, 19), ("HotHandModel", 39, 10, 20), ("HotHandModel", 42, 10, 21), ("HotHandModel", 45, 10, 22), ("HotHandModel", 48, 10, 23), ("HotHandModel", 51, 10, 24), ("HotHandModel", 54, 10, 25), ("HotHandModel", 57, 10, 26), ("HotHandModel", 60, 10, 27), ("HotHandModel", 63, 10, 28), ("HotHandModel", 66, 10, 29), ("HotHandModel", 70, 10, 30), ("HotHandModel", 74, 10, 31), ("HotHandModel", 77, 10, 34), ("HotHandModel", 80, 10, 35), ("HotHandModel", 83, 10, 36), ("HotHandModel", 86, 10, 37), ("HotHandModel", 89, 10, 38), ("HotHandModel", 92, 10, 39), ("HotHandModel", 95, 10, 47), ("HotHandModel", 99, 10, 48), ("HotHandModel", 102, 10, 49), ("HotHandModel", 105, 10, 54), ("HotHandModel", 108, 10, 55), ("HotHandModel", 111, 10, 56), ("HotHandModel", 114, 10, 57), ("HotHandModel", 117, 10, 58), ("HotHandModel", 120, 10, 59), ("HotHandModel", 123, 10, 60), ("HotHandModel", 126, 10, 63), ("HotHandModel", 129, 10, 64), ("HotHandModel", 132, 10, 66), ("HotHandModel", 135, 10, 67), ("HotHandModel", 138, 10, 68), ("HotHandModel", 141, 10, 71), ("HotHandModel", 144, 10, 72), ("HotHandModel", 157, 10, 0), ("HotHandModel", 160, 10, 1), ("HotHandModel", 163, 10, 2), ("HotHandModel", 170, 10, 3), ("HotHandModel", 185, 10, 10), ("HotHandModel", 192, 10, 12), ("HotHandModel", 195, 10, 11), ("HotHandModel", 201, 10, 32), ("HotHandModel", 208, 10, 33), ("HotHandModel", 225, 10, 14), ("HotHandModel", 228, 10, 13), ("HotHandModel", 285, 10, 15), ("HotHandModel", 388, 10, 16), ("HotHandModel", 394, 10, 40), ("HotHandModel", 397, 10, 41), ("HotHandModel", 409, 10, 42), ("HotHandModel", 446, 10, 43), ("HotHandModel", 449, 10, 44), ("HotHandModel", 456, 10, 45), ("HotHandModel", 459, 10, 46), ("HotHandModel", 478, 10, 50), ("HotHandModel", 483, 10, 51), ("HotHandModel", 486, 10, 52), ("HotHandModel", 489, 10, 53), ("HotHandModel", 528, 10, 61), ("HotHandModel", 531, 10, 62), ("HotHandModel", 537, 10, 65), ("HotHandModel", 559, 10, 69), ("HotHandModel", 569, 10, 70), ("java/lang/String", 9, 70, 0), ("java/lang/String", 15, 70, 1)]
set_option maxRecDepth 100000 in
theorem fr_ok : ∀ (n : Nat) (f : String × Nat × Nat × Nat), pg_F[n]? = some f → fr_P f
  | 0, _, h => (Option.some.inj h) ▸ fr_0
  | 1, _, h => (Option.some.inj h) ▸ fr_1
  | 2, _, h => (Option.some.inj h) ▸ fr_2
  | 3, _, h => (Option.some.inj h) ▸ fr_3
  | 4, _, h => (Option.some.inj h) ▸ fr_4
  | 5, _, h => (Option.some.inj h) ▸ fr_5
  | 6, _, h => (Option.some.inj h) ▸ fr_6
  | 7, _, h => (Option.some.inj h) ▸ fr_7
  | 8, _, h => (Option.some.inj h) ▸ fr_8
  | 9, _, h => (Option.some.inj h) ▸ fr_9
  | 10, _, h => (Option.some.inj h) ▸ fr_10
  | 11, _, h => (Option.some.inj h) ▸ fr_11
  | 12, _, h => (Option.some.inj h) ▸ fr_12
  | 13, _, h => (Option.some.inj h) ▸ fr_13
  | 14, _, h => (Option.some.inj h) ▸ fr_14
  | 15, _, h => (Option.some.inj h) ▸ fr_15
  | 16, _, h => (Option.some.inj h) ▸ fr_16
  | 17, _, h => (Option.some.inj h) ▸ fr_17
  | 18, _, h => (Option.some.inj h) ▸ fr_18
  | 19, _, h => (Option.some.inj h) ▸ fr_19
  | 20, _, h => (Option.some.inj h) ▸ fr_20
  | 21, _, h => (Option.some.inj h) ▸ fr_21
  | 22, _, h => (Option.some.inj h) ▸ fr_22
  | 23, _, h => (Option.some.inj h) ▸ fr_23
  | 24, _, h => (Option.some.inj h) ▸ fr_24
  | 25, _, h => (Option.some.inj h) ▸ fr_25
  | 26, _, h => (Option.some.inj h) ▸ fr_26
  | 27, _, h => (Option.some.inj h) ▸ fr_27
  | 28, _, h => (Option.some.inj h) ▸ fr_28
  | 29, _, h => (Option.some.inj h) ▸ fr_29
  | 30, _, h => (Option.some.inj h) ▸ fr_30
  | 31, _, h => (Option.some.inj h) ▸ fr_31
  | 32, _, h => (Option.some.inj h) ▸ fr_32
  | 33, _, h => (Option.some.inj h) ▸ fr_33
  | 34, _, h => (Option.some.inj h) ▸ fr_34
  | 35, _, h => (Option.some.inj h) ▸ fr_35
  | 36, _, h => (Option.some.inj h) ▸ fr_36
  | 37, _, h => (Option.some.inj h) ▸ fr_37
  | 38, _, h => (Option.some.inj h) ▸ fr_38
  | 39, _, h => (Option.some.inj h) ▸ fr_39
  | 40, _, h => (Option.some.inj h) ▸ fr_40
  | 41, _, h => (Option.some.inj h) ▸ fr_41
  | 42, _, h => (Option.some.inj h) ▸ fr_42
  | 43, _, h => (Option.some.inj h) ▸ fr_43
  | 44, _, h => (Option.some.inj h) ▸ fr_44
  | 45, _, h => (Option.some.inj h) ▸ fr_45
  | 46, _, h => (Option.some.inj h) ▸ fr_46
  | 47, _, h => (Option.some.inj h) ▸ fr_47
  | 48, _, h => (Option.some.inj h) ▸ fr_48
  | 49, _, h => (Option.some.inj h) ▸ fr_49
  | 50, _, h => (Option.some.inj h) ▸ fr_50
  | 51, _, h => (Option.some.inj h) ▸ fr_51
  | 52, _, h => (Option.some.inj h) ▸ fr_52
  | 53, _, h => (Option.some.inj h) ▸ fr_53
  | 54, _, h => (Option.some.inj h) ▸ fr_54
  | 55, _, h => (Option.some.inj h) ▸ fr_55
  | 56, _, h => (Option.some.inj h) ▸ fr_56
  | 57, _, h => (Option.some.inj h) ▸ fr_57
  | 58, _, h => (Option.some.inj h) ▸ fr_58
  | 59, _, h => (Option.some.inj h) ▸ fr_59
  | 60, _, h => (Option.some.inj h) ▸ fr_60
  | 61, _, h => (Option.some.inj h) ▸ fr_61
  | 62, _, h => (Option.some.inj h) ▸ fr_62
  | 63, _, h => (Option.some.inj h) ▸ fr_63
  | 64, _, h => (Option.some.inj h) ▸ fr_64
  | 65, _, h => (Option.some.inj h) ▸ fr_65
  | 66, _, h => (Option.some.inj h) ▸ fr_66
  | 67, _, h => (Option.some.inj h) ▸ fr_67
  | 68, _, h => (Option.some.inj h) ▸ fr_68
  | 69, _, h => (Option.some.inj h) ▸ fr_69
  | 70, _, h => (Option.some.inj h) ▸ fr_70
  | 71, _, h => (Option.some.inj h) ▸ fr_71
  | 72, _, h => (Option.some.inj h) ▸ fr_72
  | 73, _, h => (Option.some.inj h) ▸ fr_73
  | 74, _, h => (Option.some.inj h) ▸ fr_74
  | 75, _, h => (Option.some.inj h) ▸ fr_75
  | 76, _, h => (Option.some.inj h) ▸ fr_76
  | 77, _, h => (Option.some.inj h) ▸ fr_77
  | 78, _, h => (Option.some.inj h) ▸ fr_78
  | 79, _, h => (Option.some.inj h) ▸ fr_79
  | 80, _, h => (Option.some.inj h) ▸ fr_80
  | 81, _, h => (Option.some.inj h) ▸ fr_81
  | 82, _, h => (Option.some.inj h) ▸ fr_82
  | 83, _, h => (Option.some.inj h) ▸ fr_83
  | 84, _, h => (Option.some.inj h) ▸ fr_84
  | 85, _, h => (Option.some.inj h) ▸ fr_85
  | 86, _, h => (Option.some.inj h) ▸ fr_86
  | 87, _, h => (Option.some.inj h) ▸ fr_87
  | 88, _, h => (Option.some.inj h) ▸ fr_88
  | 89, _, h => (Option.some.inj h) ▸ fr_89
  | 90, _, h => (Option.some.inj h) ▸ fr_90
  | 91, _, h => (Option.some.inj h) ▸ fr_91
  | 92, _, h => (Option.some.inj h) ▸ fr_92
  | 93, _, h => (Option.some.inj h) ▸ fr_93
  | 94, _, h => (Option.some.inj h) ▸ fr_94
  | 95, _, h => (Option.some.inj h) ▸ fr_95
  | 96, _, h => (Option.some.inj h) ▸ fr_96
  | 97, _, h => (Option.some.inj h) ▸ fr_97
  | 98, _, h => (Option.some.inj h) ▸ fr_98
  | 99, _, h => (Option.some.inj h) ▸ fr_99
  | 100, _, h => (Option.some.inj h) ▸ fr_100
  | 101, _, h => (Option.some.inj h) ▸ fr_101
  | 102, _, h => (Option.some.inj h) ▸ fr_102
  | 103, _, h => (Option.some.inj h) ▸ fr_103
  | 104, _, h => (Option.some.inj h) ▸ fr_104
  | 105, _, h => (Option.some.inj h) ▸ fr_105
  | 106, _, h => (Option.some.inj h) ▸ fr_106
  | 107, _, h => (Option.some.inj h) ▸ fr_107
  | 108, _, h => (Option.some.inj h) ▸ fr_108
  | 109, _, h => (Option.some.inj h) ▸ fr_109
  | 110, _, h => (Option.some.inj h) ▸ fr_110
  | 111, _, h => (Option.some.inj h) ▸ fr_111
  | 112, _, h => (Option.some.inj h) ▸ fr_112
  | 113, _, h => (Option.some.inj h) ▸ fr_113
  | 114, _, h => (Option.some.inj h) ▸ fr_114
  | 115, _, h => (Option.some.inj h) ▸ fr_115
  | 116, _, h => (Option.some.inj h) ▸ fr_116
  | 117, _, h => (Option.some.inj h) ▸ fr_117
  | 118, _, h => (Option.some.inj h) ▸ fr_118
  | 119, _, h => (Option.some.inj h) ▸ fr_119
  | 120, _, h => (Option.some.inj h) ▸ fr_120
  | 121, _, h => (Option.some.inj h) ▸ fr_121
  | 122, _, h => (Option.some.inj h) ▸ fr_122
  | 123, _, h => (Option.some.inj h) ▸ fr_123
  | 124, _, h => (Option.some.inj h) ▸ fr_124
  | 125, _, h => (Option.some.inj h) ▸ fr_125
  | 126, _, h => (Option.some.inj h) ▸ fr_126
  | 127, _, h => (Option.some.inj h) ▸ fr_127
  | 128, _, h => (Option.some.inj h) ▸ fr_128
  | 129, _, h => (Option.some.inj h) ▸ fr_129
  | 130, _, h => (Option.some.inj h) ▸ fr_130
  | 131, _, h => (Option.some.inj h) ▸ fr_131
  | 132, _, h => (Option.some.inj h) ▸ fr_132
  | 133, _, h => (Option.some.inj h) ▸ fr_133
  | 134, _, h => (Option.some.inj h) ▸ fr_134
  | 135, _, h => (Option.some.inj h) ▸ fr_135
  | 136, _, h => (Option.some.inj h) ▸ fr_136
  | 137, _, h => (Option.some.inj h) ▸ fr_137
  | 138, _, h => (Option.some.inj h) ▸ fr_138
  | 139, _, h => (Option.some.inj h) ▸ fr_139
  | 140, _, h => (Option.some.inj h) ▸ fr_140
  | 141, _, h => (Option.some.inj h) ▸ fr_141
  | 142, _, h => (Option.some.inj h) ▸ fr_142
  | 143, _, h => (Option.some.inj h) ▸ fr_143
  | 144, _, h => (Option.some.inj h) ▸ fr_144
  | 145, _, h => (Option.some.inj h) ▸ fr_145
  | 146, _, h => (Option.some.inj h) ▸ fr_146
  | 147, _, h => (Option.some.inj h) ▸ fr_147
  | 148, _, h => (Option.some.inj h) ▸ fr_148
  | 149, _, h => (Option.some.inj h) ▸ fr_149
  | 150, _, h => (Option.some.inj h) ▸ fr_150
  | 151, _, h => (Option.some.inj h) ▸ fr_151
  | 152, _, h => (Option.some.inj h) ▸ fr_152
  | 153, _, h => (Option.some.inj h) ▸ fr_153
  | 154, _, h => (Option.some.inj h) ▸ fr_154
  | 155, _, h => (Option.some.inj h) ▸ fr_155
  | 156, _, h => (Option.some.inj h) ▸ fr_156
  | 157, _, h => (Option.some.inj h) ▸ fr_157
  | 158, _, h => (Option.some.inj h) ▸ fr_158
  | 159, _, h => (Option.some.inj h) ▸ fr_159
  | 160, _, h => (Option.some.inj h) ▸ fr_160
  | 161, _, h => (Option.some.inj h) ▸ fr_161
  | 162, _, h => (Option.some.inj h) ▸ fr_162
  | 163, _, h => (Option.some.inj h) ▸ fr_163
  | 164, _, h => (Option.some.inj h) ▸ fr_164
  | 165, _, h => (Option.some.inj h) ▸ fr_165
  | 166, _, h => (Option.some.inj h) ▸ fr_166
  | 167, _, h => (Option.some.inj h) ▸ fr_167
  | 168, _, h => (Option.some.inj h) ▸ fr_168
  | 169, _, h => (Option.some.inj h) ▸ fr_169
  | 170, _, h => (Option.some.inj h) ▸ fr_170
  | 171, _, h => (Option.some.inj h) ▸ fr_171
  | 172, _, h => (Option.some.inj h) ▸ fr_172
  | 173, _, h => (Option.some.inj h) ▸ fr_173
  | n + 174, f, h => absurd (h.symm.trans (List.getElem?_eq_none (Nat.le_add_left 174 n))) (fun z => by cases z)
