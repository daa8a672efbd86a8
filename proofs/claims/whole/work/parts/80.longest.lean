/-! the longest run, in both -/
section
variable {L : Nat} {s : hh_Sv}
theorem md_longestIn_ok {x n o : Nat} (hx : x < 16777216) (hn : n ≤ 24) (ho : o = 0 ∨ o = 1) : md_longestIn L (x : Int) (n : Int) (o : Int) s = ok L ((mx (ob x o) n : Nat) : Int) s := by
  rw [md_longestIn_eq]
  have key : ∀ (j i : Nat), i + j = n → md_longestIn_b1 L (x : Int) (n : Int) (o : Int) ((mx (ob x o) i : Nat) : Int) ((rl (ob x o) i : Nat) : Int) (i : Int) s = ok L ((mx (ob x o) n : Nat) : Int) s := by
    intro j
    induction j with
    | zero =>
      intro i e
      rw [Nat.add_zero] at e
      subst e
      rw [md_longestIn_b1_eq, if_neg (by omega)]
    | succ j ih =>
      intro i e
      have hb := bt_01 x i
      have hm := mx_le (f := ob x o) i
      have hr := rl_le (f := ob x o) i
      have hr2 := rl_le (f := ob x o) (i + 1)
      have b3 : ∀ k : Int, k = ((rl (ob x o) (i + 1) : Nat) : Int) → md_longestIn_b3 L (x : Int) (n : Int) (o : Int) ((mx (ob x o) i : Nat) : Int) (i : Int) k s = ok L ((mx (ob x o) n : Nat) : Int) s := fun k hk => by
        rw [md_longestIn_b3_eq, hk, jma_max_ok ⟨by omega, by omega⟩ ⟨by omega, by omega⟩, ok_bind]
        dsimp only
        have e5 : (if ((mx (ob x o) i : Nat) : Int) < ((rl (ob x o) (i + 1) : Nat) : Int) then ((rl (ob x o) (i + 1) : Nat) : Int) else ((mx (ob x o) i : Nat) : Int)) = ((mx (ob x o) (i + 1) : Nat) : Int) := by
          rw [mx]
          have : Nat.max (mx (ob x o) i) (rl (ob x o) (i + 1)) = max (mx (ob x o) i) (rl (ob x o) (i + 1)) := rfl
          rw [this]
          split <;> omega
        rw [e5]
        exact ih (i + 1) (by omega)
      rw [md_longestIn_b1_eq, if_pos (by rw [w32_id (by omega) (by omega), w32_id (by omega) (by omega)]; omega), md_isOf_ok hx rfl (by omega), ok_bind]
      dsimp only
      rw [w32_id (by omega) (by omega), w32_id (by omega) (by omega)]
      by_cases q : bt x i = o
      · rw [if_pos (by omega)]
        refine b3 _ ?_
        rw [rl, if_pos ((ob_bt ho).mpr q)]
        omega
      · rw [if_neg (by omega)]
        refine b3 _ ?_
        rw [rl, if_neg (fun z => q ((ob_bt ho).mp z))]
        rfl
  exact key n 0 (by omega)
/-- what is left behind j steps -/
def lfb (y : Nat) : Nat → Nat
  | 0 => y
  | j + 1 => lfb y j &&& (lfb y j * 2 ^ 1)
theorem lfb_tb {x n o : Nat} (hx : x < 2 ^ n) : ∀ (j k : Nat), (lfb (obt x n o) j).testBit k = (decide (k < n) && decide (j + 1 ≤ rl (ob x o) (k + 1)))
  | 0, k => by
    rw [lfb, obt_tb hx]
    congr 1
    rw [rl]
    cases ob x o k
    · simp
    · simp
  | j + 1, k => by
    rw [lfb, Nat.testBit_and, Nat.testBit_mul_two_pow, lfb_tb hx j k, lfb_tb hx j (k - 1)]
    by_cases hk : k < n
    · rw [decide_eq_true hk, decide_eq_true (show k - 1 < n by omega), Bool.true_and, Bool.true_and, Bool.true_and]
      by_cases h1 : 1 ≤ k
      · rw [decide_eq_true h1, Bool.true_and, show k - 1 + 1 = k by omega, rl]
        by_cases e : ob x o k = true
        · rw [if_pos e]
          rw [Bool.eq_iff_iff, Bool.and_eq_true, decide_eq_true_eq, decide_eq_true_eq, decide_eq_true_eq]
          omega
        · rw [if_neg e]
          rw [Bool.eq_iff_iff, Bool.and_eq_true, decide_eq_true_eq, decide_eq_true_eq, decide_eq_true_eq]
          omega
      · have : k = 0 := by omega
        subst this
        have := rl_le (f := ob x o) (0 + 1)
        rw [decide_eq_false (show ¬ 1 ≤ 0 by decide), Bool.false_and, Bool.and_false, decide_eq_false (by omega)]
    · rw [decide_eq_false hk, Bool.false_and, Bool.false_and, Bool.false_and]
theorem lfb_0 {x n o j : Nat} (hx : x < 2 ^ n) : lfb (obt x n o) j = 0 ↔ mx (ob x o) n ≤ j := by
  constructor
  · intro h
    apply Classical.byContradiction
    intro hn
    obtain ⟨k, h1, h2⟩ := (mx_iff (f := ob x o) (m := j + 1) (by omega) n).mp (by omega)
    have := lfb_tb (o := o) hx j k
    rw [h, Nat.zero_testBit, decide_eq_true h1, decide_eq_true h2] at this
    cases this
  · intro h
    apply Nat.eq_of_testBit_eq
    intro k
    rw [lfb_tb hx, Nat.zero_testBit]
    by_cases hk : k < n
    · have : ¬ j + 1 ≤ rl (ob x o) (k + 1) := fun q => by
        have := (mx_iff (f := ob x o) (m := j + 1) (by omega) n).mpr ⟨k, hk, q⟩
        omega
      rw [decide_eq_false this, Bool.and_false]
    · rw [decide_eq_false hk, Bool.false_and]
theorem hx_longestOf_ok {x n o : Nat} (hx : x < 2 ^ n) (hn : n ≤ 24) : hx_longestOf L ((obt x n o : Nat) : Int) s = ok L ((mx (ob x o) n : Nat) : Int) s := by
  rw [hx_longestOf_eq]
  have h2 := p2_24 hn
  have h3 := obt_lt (o := o) hx
  have hl : ∀ j, lfb (obt x n o) j < 16777216 := fun j => by
    induction j with
    | zero => rw [lfb]; omega
    | succ j ih => rw [lfb]; exact Nat.lt_of_le_of_lt Nat.and_le_left ih
  have hm := mx_le (f := ob x o) n
  have key : ∀ (k j : Nat), j + k = mx (ob x o) n → hx_longestOf_b1 L (j : Int) ((lfb (obt x n o) j : Nat) : Int) s = ok L ((mx (ob x o) n : Nat) : Int) s := by
    intro k
    induction k with
    | zero =>
      intro j e
      have hj := hl j
      rw [hx_longestOf_b1_eq, if_pos (by rw [w32_id (by omega) (by omega), (lfb_0 (o := o) hx).mpr (show mx (ob x o) n ≤ j by omega)]; rfl), show j = mx (ob x o) n by omega]
    | succ k ih =>
      intro j e
      have hj := hl j
      have hne : lfb (obt x n o) j ≠ 0 := fun q => by have := (lfb_0 (o := o) hx).mp q; omega
      have e1 : iShl ((lfb (obt x n o) j : Nat) : Int) 1 = ((lfb (obt x n o) j * 2 ^ 1 : Nat) : Int) := by rw [iShl_id (b := 1) (k := 1) rfl (by decide), Int.natCast_mul]; rfl
      rw [hx_longestOf_b1_eq, if_neg (by rw [w32_id (by omega) (by omega)]; omega), if_pos (by rw [w32_id (by omega) (by omega)]; omega), e1, bAnd_nat (by omega) (by omega)]
      exact ih (j + 1) (by omega)
  exact key (mx (ob x o) n) 0 (by omega)
end
