/-! a row's bits, as the class looks at them -/
theorem tb_bt (h k : Nat) : (h.testBit k).toNat = bt h k := by
  unfold bt
  exact Nat.toNat_testBit h k
theorem pcf_last (n x : Nat) : pcf (n + 1) x = pcf n x + bt x n := by
  rw [pcf_add 0 n 1 x]
  rfl
/-- bits counted one by one -/
def cnt (f : Nat → Bool) : Nat → Nat
  | 0 => 0
  | n + 1 => cnt f n + (f n).toNat
theorem cnt_congr {f g : Nat → Bool} : ∀ {n : Nat}, (∀ k, k < n → f k = g k) → cnt f n = cnt g n
  | 0, _ => rfl
  | n + 1, h => by rw [cnt, cnt, cnt_congr (fun k hk => h k (by omega)), h n (by omega)]
theorem cnt_le {f : Nat → Bool} : ∀ n : Nat, cnt f n ≤ n
  | 0 => Nat.le_refl _
  | n + 1 => by
    rw [cnt]
    have := cnt_le (f := f) n
    have := Bool.toNat_le (f n)
    omega
theorem pcf_cnt (x : Nat) : ∀ n : Nat, pcf n x = cnt (fun k => x.testBit k) n
  | 0 => rfl
  | n + 1 => by rw [pcf_last, cnt, pcf_cnt x n, tb_bt]
theorem lt_of_tb {x n : Nat} (h : ∀ k, n ≤ k → x.testBit k = false) : x < 2 ^ n := Nat.lt_pow_two_of_testBit x (fun i hi => h i hi)
theorem pcf_tb {x n : Nat} {f : Nat → Bool} (hn : n ≤ 32) (h : ∀ k, x.testBit k = (decide (k < n) && f k)) : pcf 32 x = cnt f n := by
  have hx : x < 2 ^ n := lt_of_tb (fun k hk => by rw [h, decide_eq_false (by omega), Bool.false_and])
  rw [pcf_big hx hn, pcf_cnt]
  exact cnt_congr (fun k hk => by rw [h, decide_eq_true hk, Bool.true_and])
/-- the bits that are as asked: hits (1) or misses (0) -/
def ob (h o : Nat) (k : Nat) : Bool := h.testBit k == decide (o = 1)
def obt (h n o : Nat) : Nat := if o = 1 then h else 2 ^ n - (h + 1)
theorem obt_tb {h n o : Nat} (hh : h < 2 ^ n) (k : Nat) : (obt h n o).testBit k = (decide (k < n) && ob h o k) := by
  unfold obt ob
  by_cases e : o = 1
  · rw [if_pos e, decide_eq_true e]
    by_cases hk : k < n
    · rw [decide_eq_true hk]
      simp
    · rw [decide_eq_false hk, Bool.false_and]
      exact Nat.testBit_lt_two_pow (Nat.lt_of_lt_of_le hh (Nat.pow_le_pow_right (by decide) (by omega)))
  · rw [if_neg e, decide_eq_false e, Nat.testBit_two_pow_sub_succ hh]
    simp
theorem obt_lt {h n o : Nat} (hh : h < 2 ^ n) : obt h n o < 2 ^ n := by
  unfold obt
  split
  · exact hh
  · omega
theorem p2_24 {n : Nat} (h : n ≤ 24) : 2 ^ n ≤ 16777216 := Nat.pow_le_pow_right (n := 2) (j := 24) (by decide) h
theorem p2_c (n : Nat) : ((2 ^ n : Nat) : Int) = 2 ^ n := by rw [Int.natCast_pow]; rfl
theorem bnot_and {h n : Nat} (hh : h < 2 ^ n) (hn : n ≤ 24) : bAnd (bXor (h : Int) (-1)) (((2 ^ n - 1 : Nat) : Int)) = ((2 ^ n - (h + 1) : Nat) : Int) := by
  have hp := p2_24 hn
  unfold bAnd bXor
  rw [opq_eq, opq_eq, BitVec.ofInt_toInt, b_of (by omega), b_of (a := 2 ^ n - 1) (by omega)]
  refine b_to ?_ (by omega)
  apply Nat.eq_of_testBit_eq
  intro i
  rw [Nat.testBit_two_pow_sub_succ hh, BitVec.testBit_toNat, BitVec.getLsbD_and, BitVec.getLsbD_xor, BitVec.getLsbD_ofNat, BitVec.getLsbD_ofNat, Nat.testBit_two_pow_sub_one]
  have e : (BitVec.ofInt 64 (-1)).getLsbD i = decide (i < 64) := by
    rw [show BitVec.ofInt 64 (-1) = BitVec.allOnes 64 from rfl, BitVec.getLsbD_allOnes]
  rw [e]
  by_cases h1 : i < n
  · rw [decide_eq_true (show i < 64 by omega), decide_eq_true h1]
    cases h.testBit i <;> rfl
  · rw [decide_eq_false h1]
    simp
section
variable {L : Nat} {s : hh_Sv}
theorem sh1 {n : Nat} (hn : n ≤ 24) : iShl 1 (n : Int) - 1 = ((2 ^ n - 1 : Nat) : Int) := by
  have := Nat.two_pow_pos n
  rw [iShl_id rfl (by omega), Int.one_mul, ← p2_c]
  omega
theorem hx_ofBits_ok {h n o : Nat} (hh : h < 2 ^ n) (hn : n ≤ 24) (ho : o = 0 ∨ o = 1) : hx_ofBits L (h : Int) (n : Int) (o : Int) s = ok L ((obt h n o : Nat) : Int) s := by
  rw [hx_ofBits_eq]
  unfold obt
  rcases ho with rfl | rfl
  · rw [if_pos (show w32 ((0 : Nat) : Int) = 0 from w32_0), if_neg (by decide), sh1 hn, bnot_and hh hn]
  · rw [if_neg (show ¬ w32 ((1 : Nat) : Int) = 0 by rw [w32_id (by decide) (by decide)]; decide), if_pos rfl]
/-- how many in a row, just ahead of k, are as asked -/
def rl (f : Nat → Bool) : Nat → Nat
  | 0 => 0
  | k + 1 => if f k = true then rl f k + 1 else 0
theorem rl_le {f : Nat → Bool} : ∀ k, rl f k ≤ k
  | 0 => Nat.le_refl _
  | k + 1 => by
    rw [rl]
    have := rl_le (f := f) k
    split <;> omega
theorem rl_iff {f : Nat → Bool} : ∀ (k m : Nat), m ≤ rl f k ↔ m ≤ k ∧ ∀ i, 1 ≤ i → i ≤ m → f (k - i) = true
  | 0, m => by
    rw [rl]
    constructor
    · intro h
      exact ⟨h, fun i h1 h2 => by omega⟩
    · exact fun h => h.1
  | k + 1, 0 => ⟨fun _ => ⟨Nat.zero_le _, fun i h1 h2 => by omega⟩, fun _ => Nat.zero_le _⟩
  | k + 1, m + 1 => by
    rw [rl]
    have ih := rl_iff (f := f) k m
    by_cases e : f k = true
    · rw [if_pos e]
      constructor
      · intro h
        have h1 := ih.mp (by omega)
        refine ⟨by omega, fun i i1 i2 => ?_⟩
        by_cases ei : i = 1
        · subst ei
          exact e
        · have := h1.2 (i - 1) (by omega) (by omega)
          rw [show k - (i - 1) = k + 1 - i by omega] at this
          exact this
      · intro h
        have : m ≤ rl f k := ih.mpr ⟨by omega, fun i i1 i2 => by
          have := h.2 (i + 1) (by omega) (by omega)
          rw [show k + 1 - (i + 1) = k - i by omega] at this
          exact this⟩
        omega
    · rw [if_neg e]
      constructor
      · intro h
        omega
      · intro h
        exact absurd (h.2 1 (by omega) (by omega)) e
theorem rl_congr {f g : Nat → Bool} : ∀ {k : Nat}, (∀ i, i < k → f i = g i) → rl f k = rl g k
  | 0, _ => rfl
  | k + 1, h => by rw [rl, rl, h k (by omega), rl_congr (fun i hi => h i (by omega))]
/-- the bits just behind m that are as asked -/
def bhb (h n o : Nat) : Nat → Nat
  | 0 => 2 ^ n - 1
  | m + 1 => bhb h n o m &&& (obt h n o * 2 ^ (m + 1))
theorem bhb_tb {h n o : Nat} (hh : h < 2 ^ n) : ∀ (m k : Nat), (bhb h n o m).testBit k = (decide (k < n) && decide (m ≤ rl (ob h o) k))
  | 0, k => by
    rw [bhb, Nat.testBit_two_pow_sub_one]
    simp
  | m + 1, k => by
    rw [bhb, Nat.testBit_and, bhb_tb hh m k, Nat.testBit_mul_two_pow, obt_tb hh]
    by_cases hk : k < n
    · rw [decide_eq_true hk, Bool.true_and, Bool.true_and, decide_eq_true (show k - (m + 1) < n by omega), Bool.true_and]
      rw [Bool.eq_iff_iff, Bool.and_eq_true, Bool.and_eq_true, decide_eq_true_eq, decide_eq_true_eq, decide_eq_true_eq, rl_iff, rl_iff]
      constructor
      · rintro ⟨⟨a1, a2⟩, a3, a4⟩
        refine ⟨a3, fun i i1 i2 => ?_⟩
        by_cases ei : i = m + 1
        · subst ei
          exact a4
        · exact a2 i i1 (by omega)
      · rintro ⟨a1, a2⟩
        exact ⟨⟨by omega, fun i i1 i2 => a2 i i1 (by omega)⟩, a1, a2 (m + 1) (by omega) (Nat.le_refl _)⟩
    · rw [decide_eq_false hk, Bool.false_and, Bool.false_and, Bool.false_and]
theorem bhb_lt {h n o m : Nat} : bhb h n o m < 2 ^ n := by
  have := Nat.two_pow_pos n
  cases m with
  | zero => rw [bhb]; omega
  | succ m =>
    rw [bhb]
    exact Nat.lt_of_le_of_lt Nat.and_le_left bhb_lt
theorem hx_behindBits_ok {h n o m : Nat} (hh : h < 2 ^ n) (hn : n ≤ 24) (ho : o = 0 ∨ o = 1) (hm : m ≤ 5) : hx_behindBits L (h : Int) (n : Int) (o : Int) (m : Int) s = ok L ((bhb h n o m : Nat) : Int) s := by
  rw [hx_behindBits_eq, hx_ofBits_ok hh hn ho, ok_bind, sh1 hn]
  dsimp only
  have hp := p2_24 hn
  have ho2 := obt_lt (o := o) hh
  have key : ∀ (j i : Nat), i + j = m → hx_behindBits_b1 L (m : Int) ((obt h n o : Nat) : Int) ((bhb h n o i : Nat) : Int) ((i : Int) + 1) s = ok L ((bhb h n o m : Nat) : Int) s := by
    intro j
    induction j with
    | zero =>
      intro i e
      rw [Nat.add_zero] at e
      subst e
      rw [hx_behindBits_b1_eq, if_pos (by rw [w32_id (by omega) (by omega), w32_id (by omega) (by omega)]; omega)]
    | succ j ih =>
      intro i e
      rw [hx_behindBits_b1_eq, if_neg (by rw [w32_id (by omega) (by omega), w32_id (by omega) (by omega)]; omega)]
      have hb := bhb_lt (h := h) (n := n) (o := o) (m := i)
      have h2 : 2 ^ (i + 1) ≤ 2 ^ 6 := Nat.pow_le_pow_right (by decide) (by omega)
      have h3 : obt h n o * 2 ^ (i + 1) ≤ 16777216 * 64 := Nat.mul_le_mul (by omega) h2
      have e1 : iShl ((obt h n o : Nat) : Int) ((i : Int) + 1) = ((obt h n o * 2 ^ (i + 1) : Nat) : Int) := by
        rw [iShl_id (k := i + 1) (by omega) (by omega), Int.natCast_mul, p2_c]
      have e2 : bAnd ((bhb h n o i : Nat) : Int) ((obt h n o * 2 ^ (i + 1) : Nat) : Int) = ((bhb h n o (i + 1) : Nat) : Int) := by
        rw [bAnd_nat (by omega) (by omega)]
        rfl
      rw [e1, e2]
      exact ih (i + 1) (by omega)
  exact key m 0 (by omega)
end
