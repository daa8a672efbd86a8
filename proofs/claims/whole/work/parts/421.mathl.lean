/-! the links of calls to Math -/
def mm_P (f : Nat × Nat × Nat) : Prop := Cond.methodLink (cn_n f.1) f.2.1 (pg_y f.2.2).1 ∈ lw_g
set_option maxRecDepth 100000 in
theorem mm_0 : mm_P (1, 65, 274) := lw_at (i := 1084) rfl
set_option maxRecDepth 100000 in
theorem mm_1 : mm_P (2, 58, 275) := lw_at (i := 1047) rfl
set_option maxRecDepth 100000 in
theorem mm_2 : mm_P (3, 22, 274) := lw_at (i := 830) rfl
set_option maxRecDepth 100000 in
theorem mm_3 : mm_P (6, 51, 275) := lw_at (i := 734) rfl
set_option maxRecDepth 100000 in
theorem mm_4 : mm_P (6, 57, 274) := lw_at (i := 737) rfl
set_option maxRecDepth 100000 in
theorem mm_5 : mm_P (7, 67, 274) := lw_at (i := 878) rfl
set_option maxRecDepth 100000 in
theorem mm_6 : mm_P (8, 35, 275) := lw_at (i := 901) rfl
set_option maxRecDepth 100000 in
theorem mm_7 : mm_P (8, 41, 274) := lw_at (i := 902) rfl
set_option maxRecDepth 100000 in
theorem mm_8 : mm_P (9, 341, 272) := lw_at (i := 974) rfl
set_option maxRecDepth 100000 in
theorem mm_9 : mm_P (9, 399, 274) := lw_at (i := 1075) rfl
set_option maxRecDepth 100000 in
theorem mm_10 : mm_P (9, 405, 275) := lw_at (i := 1085) rfl
set_option maxRecDepth 100000 in
theorem mm_11 : mm_P (9, 412, 273) := lw_at (i := 796) rfl
set_option maxRecDepth 100000 in
theorem mm_12 : mm_P (10, 147, 273) := lw_at (i := 1617) rfl
set_option maxRecDepth 100000 in
theorem mm_13 : mm_P (10, 315, 275) := lw_at (i := 1533) rfl
set_option maxRecDepth 100000 in
theorem mm_14 : mm_P (10, 319, 274) := lw_at (i := 1534) rfl
set_option maxRecDepth 100000 in
theorem mm_15 : mm_P (10, 540, 272) := lw_at (i := 1764) rfl
def pg_mm : List (Nat × Nat × Nat) := [(1, 65, 274), (2, 58, 275), (3, 22, 274), (6, 51, 275), (6, 57, 274), (7, 67, 274), (8, 35, 275), (8, 41, 274), (9, 341, 272), (9, 399, 274), (9, 405, 275), (9, 412, 273), (10, 147, 273), (10, 315, 275), (10, 319, 274), (10, 540, 272)]
theorem mm_at : ∀ (n : Nat) (f : Nat × Nat × Nat), pg_mm[n]? = some f → mm_P f
  | 0, _, h => (Option.some.inj h) ▸ mm_0
  | 1, _, h => (Option.some.inj h) ▸ mm_1
  | 2, _, h => (Option.some.inj h) ▸ mm_2
  | 3, _, h => (Option.some.inj h) ▸ mm_3
  | 4, _, h => (Option.some.inj h) ▸ mm_4
  | 5, _, h => (Option.some.inj h) ▸ mm_5
  | 6, _, h => (Option.some.inj h) ▸ mm_6
  | 7, _, h => (Option.some.inj h) ▸ mm_7
  | 8, _, h => (Option.some.inj h) ▸ mm_8
  | 9, _, h => (Option.some.inj h) ▸ mm_9
  | 10, _, h => (Option.some.inj h) ▸ mm_10
  | 11, _, h => (Option.some.inj h) ▸ mm_11
  | 12, _, h => (Option.some.inj h) ▸ mm_12
  | 13, _, h => (Option.some.inj h) ▸ mm_13
  | 14, _, h => (Option.some.inj h) ▸ mm_14
  | 15, _, h => (Option.some.inj h) ▸ mm_15
  | n + 16, f, h => absurd (h.symm.trans (List.getElem?_eq_none (Nat.le_add_left 16 n))) (fun z => by cases z)
set_option maxRecDepth 100000 in
theorem mm_in : ∀ f ∈ pg_mr, 272 ≤ f.2.2 ∧ f.2.2 ≤ 275 → f ∈ pg_mm := by decide +kernel
theorem mm_ok {f : Nat × Nat × Nat} (h : f ∈ pg_mr) (h2 : 272 ≤ f.2.2 ∧ f.2.2 ≤ 275) : mm_P f := by
  obtain ⟨n, hn⟩ := List.getElem?_of_mem (mm_in f h h2)
  exact mm_at n f hn
set_option maxRecDepth 100000 in
theorem mc_272 : Cond.code Lib.Math.abs.name Lib.Math.abs.code 1 (some .int) ∈ lw_g ∧ Cond.static Lib.Math.abs.name ∈ lw_g ∧ (pg_y 272).1 = Lib.Math.abs.name := ⟨lw_at (i := 976) rfl, lw_at (i := 975) rfl, rfl⟩
set_option maxRecDepth 100000 in
theorem mc_273 : Cond.code Lib.MathLoose.abs_long.x Lib.MathLoose.abs_long.code 2 (some .long) ∈ lw_g ∧ Cond.static Lib.MathLoose.abs_long.x ∈ lw_g ∧ (pg_y 273).1 = Lib.MathLoose.abs_long.x := ⟨lw_at (i := 798) rfl, lw_at (i := 797) rfl, rfl⟩
set_option maxRecDepth 100000 in
theorem mc_274 : Cond.code Lib.Math.max.name Lib.Math.max.code 2 (some .int) ∈ lw_g ∧ Cond.static Lib.Math.max.name ∈ lw_g ∧ (pg_y 274).1 = Lib.Math.max.name := ⟨lw_at (i := 739) rfl, lw_at (i := 738) rfl, rfl⟩
set_option maxRecDepth 100000 in
theorem mc_275 : Cond.code Lib.Math.min.name Lib.Math.min.code 2 (some .int) ∈ lw_g ∧ Cond.static Lib.Math.min.name ∈ lw_g ∧ (pg_y 275).1 = Lib.Math.min.name := ⟨lw_at (i := 736) rfl, lw_at (i := 735) rfl, rfl⟩
