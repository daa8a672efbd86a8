/-! terms of a measure, in both: runs, pairs, longest -/
def gRun (x k : Nat) : Bool := decide (k = 0) || (x.testBit k != x.testBit (k - 1))
def gPair (x o p k : Nat) : Bool := decide (1 ≤ k) && (ob x o (k - 1) && ob x p k)
/-- the longest run within the first n -/
def mx (f : Nat → Bool) : Nat → Nat
  | 0 => 0
  | k + 1 => Nat.max (mx f k) (rl f (k + 1))
theorem mx_le {f : Nat → Bool} : ∀ n, mx f n ≤ n
  | 0 => Nat.le_refl _
  | k + 1 => by
    rw [mx]
    exact Nat.max_le.mpr ⟨Nat.le_succ_of_le (mx_le k), rl_le (k + 1)⟩
theorem mx_iff {f : Nat → Bool} {m : Nat} (hm : 1 ≤ m) : ∀ n, m ≤ mx f n ↔ ∃ k, k < n ∧ m ≤ rl f (k + 1)
  | 0 => ⟨fun h => by rw [mx] at h; omega, fun ⟨k, h, _⟩ => by omega⟩
  | n + 1 => by
    rw [mx]
    have e : m ≤ Nat.max (mx f n) (rl f (n + 1)) ↔ m ≤ mx f n ∨ m ≤ rl f (n + 1) := by
      rw [show Nat.max (mx f n) (rl f (n + 1)) = max (mx f n) (rl f (n + 1)) from rfl]
      omega
    rw [e, mx_iff hm n]
    constructor
    · rintro (⟨k, h1, h2⟩ | h)
      · exact ⟨k, by omega, h2⟩
      · exact ⟨n, by omega, h⟩
    · rintro ⟨k, h1, h2⟩
      by_cases e2 : k = n
      · subst e2
        exact Or.inr h2
      · exact Or.inl ⟨k, by omega, h2⟩
section
variable {L : Nat} {s : hh_Sv}
theorem bt_ne {x k : Nat} : (bt x k = bt x (k - 1)) ↔ (x.testBit k != x.testBit (k - 1)) = false := by
  rw [← tb_bt, ← tb_bt]
  cases x.testBit k <;> cases x.testBit (k - 1) <;> simp
theorem md_runsIn_ok {x n : Nat} (hx : x < 16777216) (hn : 1 ≤ n ∧ n ≤ 24) : md_runsIn L (x : Int) (n : Int) s = ok L ((cnt (gRun x) n : Nat) : Int) s := by
  rw [md_runsIn_eq]
  have key : ∀ (j i : Nat), 1 ≤ i → i + j = n → md_runsIn_b1 L (x : Int) (n : Int) ((cnt (gRun x) i : Nat) : Int) (i : Int) s = ok L ((cnt (gRun x) n : Nat) : Int) s := by
    intro j
    induction j with
    | zero =>
      intro i h1 e
      rw [Nat.add_zero] at e
      subst e
      rw [md_runsIn_b1_eq, if_neg (by omega)]
    | succ j ih =>
      intro i h1 e
      have hb := bt_01 x i
      have hb2 := bt_01 x (i - 1)
      have ec : cnt (gRun x) (i + 1) = cnt (gRun x) i + (gRun x i).toNat := rfl
      have b3 : ∀ k : Nat, (k = 0 ∨ k = 1) → (gRun x i).toNat = k → md_runsIn_b3 L (x : Int) (n : Int) (i : Int) ((cnt (gRun x) i : Nat) : Int) (k : Int) s = ok L ((cnt (gRun x) n : Nat) : Int) s := fun k hk ek => by
        rw [md_runsIn_b3_eq, md_one_ok hk, ok_bind]
        have := ih (i + 1) (by omega) (by omega)
        rw [ec, ek] at this
        exact this
      rw [md_runsIn_b1_eq, if_pos (by rw [w32_id (by omega) (by omega), w32_id (by omega) (by omega)]; omega), md_isOf_ok hx rfl (by omega), ok_bind]
      dsimp only
      rw [md_isOf_ok (k := i - 1) hx (by omega) (by omega), ok_bind]
      dsimp only
      rw [w32_id (by omega) (by omega), w32_id (by omega) (by omega)]
      by_cases q : bt x i = bt x (i - 1)
      · rw [if_pos (by omega)]
        refine b3 0 (Or.inl rfl) ?_
        unfold gRun
        rw [decide_eq_false (by omega), bt_ne.mp q]
        rfl
      · rw [if_neg (by omega)]
        refine b3 1 (Or.inr rfl) ?_
        unfold gRun
        cases e4 : (x.testBit i != x.testBit (i - 1))
        · exact absurd (bt_ne.mpr e4) q
        · rw [Bool.or_true]
          rfl
  have k1 := key (n - 1) 1 (by decide) (by omega)
  rw [show cnt (gRun x) 1 = 1 by simp [cnt, gRun]] at k1
  exact k1
theorem runs_tb {x n : Nat} (hn : 1 ≤ n) (k : Nat) : ((((x ^^^ (x * 2 ^ 1)) &&& (2 ^ n - 1)) ||| 1).testBit k) = (decide (k < n) && gRun x k) := by
  rw [Nat.testBit_or, Nat.testBit_and, Nat.testBit_xor, Nat.testBit_mul_two_pow, Nat.testBit_two_pow_sub_one]
  unfold gRun
  by_cases e : k = 0
  · subst e
    rw [Nat.testBit_one_zero, Bool.or_true, decide_eq_true (show 0 < n by omega)]
    rfl
  · have t1 : Nat.testBit 1 k = false := by
      rw [Bool.eq_false_iff]
      exact fun q => e (Nat.testBit_one_eq_true_iff_self_eq_zero.mp q)
    rw [decide_eq_false e, t1, decide_eq_true (show 1 ≤ k by omega)]
    cases decide (k < n) <;> cases x.testBit k <;> cases x.testBit (k - 1) <;> rfl
theorem hx_runs {x n : Nat} (hx : x < 2 ^ n) (hn : 1 ≤ n ∧ n ≤ 24) : jin_bitCount L (bOr (bAnd (bXor (x : Int) (iShl (x : Int) 1)) ((iShl 1 (n : Int)) - 1)) 1) s = ok L ((cnt (gRun x) n : Nat) : Int) s := by
  have hp := p2_24 hn.2
  have hp1 := Nat.two_pow_pos n
  have e1 : iShl (x : Int) 1 = ((x * 2 ^ 1 : Nat) : Int) := by rw [iShl_id (b := 1) (k := 1) rfl (by decide), Int.natCast_mul]; rfl
  have hxx : x ^^^ (x * 2 ^ 1) < 2 ^ 26 := Nat.xor_lt_two_pow (n := 26) (by omega) (by omega)
  have ha : (x ^^^ (x * 2 ^ 1)) &&& (2 ^ n - 1) < 2 ^ 26 := Nat.lt_of_le_of_lt Nat.and_le_left hxx
  have ho : ((x ^^^ (x * 2 ^ 1)) &&& (2 ^ n - 1)) ||| 1 < 2 ^ 26 := Nat.or_lt_two_pow (n := 26) ha (by decide)
  have e2 : bOr (((x ^^^ (x * 2 ^ 1)) &&& (2 ^ n - 1) : Nat) : Int) 1 = ((((x ^^^ (x * 2 ^ 1)) &&& (2 ^ n - 1)) ||| 1 : Nat) : Int) := bOr_nat (b := 1) (by omega) (by decide)
  rw [e1, sh1 hn.2, bXor_nat (by omega) (by omega), bAnd_nat (by omega) (by omega), e2, jin_bitCount_ok L (by omega), pcf_tb (by omega) (runs_tb hn.1)]
theorem md_pairsIn_ok {x n o p : Nat} (hx : x < 16777216) (hn : 1 ≤ n ∧ n ≤ 24) (ho : o = 0 ∨ o = 1) (hp : p = 0 ∨ p = 1) : md_pairsIn L (x : Int) (n : Int) (o : Int) (p : Int) s = ok L ((cnt (gPair x o p) n : Nat) : Int) s := by
  rw [md_pairsIn_eq]
  have key : ∀ (j i : Nat), 1 ≤ i → i + j = n → md_pairsIn_b1 L (x : Int) (n : Int) (o : Int) (p : Int) ((cnt (gPair x o p) i : Nat) : Int) (i : Int) s = ok L ((cnt (gPair x o p) n : Nat) : Int) s := by
    intro j
    induction j with
    | zero =>
      intro i h1 e
      rw [Nat.add_zero] at e
      subst e
      rw [md_pairsIn_b1_eq, if_neg (by omega)]
    | succ j ih =>
      intro i h1 e
      have hb := bt_01 x i
      have hb2 := bt_01 x (i - 1)
      have ec : cnt (gPair x o p) (i + 1) = cnt (gPair x o p) i + (gPair x o p i).toNat := rfl
      have b3 : ∀ k : Nat, (k = 0 ∨ k = 1) → (gPair x o p i).toNat = k → md_pairsIn_b3 L (x : Int) (n : Int) (o : Int) (p : Int) (i : Int) ((cnt (gPair x o p) i : Nat) : Int) (k : Int) s = ok L ((cnt (gPair x o p) n : Nat) : Int) s := fun k hk ek => by
        rw [md_pairsIn_b3_eq, md_one_ok hk, ok_bind]
        have := ih (i + 1) (by omega) (by omega)
        rw [ec, ek] at this
        exact this
      have b2 : (gPair x o p i).toNat = 0 → md_pairsIn_b2 L (x : Int) (n : Int) (o : Int) (p : Int) (i : Int) ((cnt (gPair x o p) i : Nat) : Int) s = ok L ((cnt (gPair x o p) n : Nat) : Int) s := fun ek => by
        rw [md_pairsIn_b2_eq]
        exact b3 0 (Or.inl rfl) ek
      rw [md_pairsIn_b1_eq, if_pos (by rw [w32_id (by omega) (by omega), w32_id (by omega) (by omega)]; omega), md_isOf_ok (k := i - 1) hx (by omega) (by omega), ok_bind]
      dsimp only
      rw [w32_id (i := ((bt x (i - 1) : Nat) : Int)) (by omega) (by omega), w32_id (i := (o : Int)) (by omega) (by omega)]
      by_cases q : bt x (i - 1) = o
      · rw [if_pos (by omega), md_isOf_ok hx rfl (by omega), ok_bind]
        dsimp only
        rw [w32_id (i := ((bt x i : Nat) : Int)) (by omega) (by omega), w32_id (i := (p : Int)) (by omega) (by omega)]
        by_cases q2 : bt x i = p
        · rw [if_pos (by omega)]
          refine b3 1 (Or.inr rfl) ?_
          unfold gPair
          rw [decide_eq_true h1, (ob_bt ho).mpr q, (ob_bt hp).mpr q2]
          rfl
        · rw [if_neg (by omega)]
          refine b2 ?_
          unfold gPair
          cases e4 : ob x p i
          · rw [Bool.and_false, Bool.and_false]; rfl
          · exact absurd ((ob_bt hp).mp e4) q2
      · rw [if_neg (by omega)]
        refine b2 ?_
        unfold gPair
        cases e4 : ob x o (i - 1)
        · rw [Bool.false_and, Bool.and_false]; rfl
        · exact absurd ((ob_bt ho).mp e4) q
  have k1 := key (n - 1) 1 (by decide) (by omega)
  rw [show cnt (gPair x o p) 1 = 0 by simp [cnt, gPair]] at k1
  exact k1
theorem hx_pairs {x n o p : Nat} (hx : x < 2 ^ n) (hn : n ≤ 24) : jin_bitCount L (bAnd (iShl ((obt x n o : Nat) : Int) 1) ((obt x n p : Nat) : Int)) s = ok L ((cnt (gPair x o p) n : Nat) : Int) s := by
  have h2 := p2_24 hn
  have h3 := obt_lt (o := o) hx
  have h4 := obt_lt (o := p) hx
  have e1 : iShl ((obt x n o : Nat) : Int) 1 = ((obt x n o * 2 ^ 1 : Nat) : Int) := by rw [iShl_id (b := 1) (k := 1) rfl (by decide), Int.natCast_mul]; rfl
  rw [e1, bAnd_nat (by omega) (by omega), jin_bitCount_ok L (Nat.lt_of_le_of_lt Nat.and_le_right (by omega)), pcf_tb (n := n) (f := gPair x o p) (by omega) (fun k => ?_)]
  rw [Nat.testBit_and, Nat.testBit_mul_two_pow, obt_tb hx, obt_tb hx]
  unfold gPair
  by_cases hk : k < n
  · rw [decide_eq_true hk, decide_eq_true (show k - 1 < n by omega)]
    cases decide (1 ≤ k) <;> cases ob x o (k - 1) <;> cases ob x p k <;> rfl
  · rw [decide_eq_false hk]
    simp
end
