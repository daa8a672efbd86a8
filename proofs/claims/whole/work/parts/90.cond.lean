/-! a condition, in both: answers as bits against a pile -/
/-- one comparison -/
def cmpv (v : Nat → Int) (c : Cd) : Bool := if c.1 = 0 then decide (v c.2.1 < (c.2.2 : Int)) else if c.1 = 1 then decide ((c.2.2 : Int) < v c.2.1) else decide (v c.2.1 = (c.2.2 : Int))
def stp (v : Nat → Int) (c : Cd) (st : List Bool) : List Bool :=
  if c.1 ≤ 2 then cmpv v c :: st else if c.1 = 5 then (match st with | b :: r => (!b) :: r | [] => []) else (match st with | x :: y :: r => (if c.1 = 3 then (y || x) else (y && x)) :: r | r => r)
def stps (v : Nat → Int) : List Cd → List Bool → List Bool
  | [], st => st
  | c :: l, st => stps v l (stp v c st)
/-- does a rule's condition hold -/
def rtr (v : Nat → Int) (l : List Cd) : Bool := match stps v l [] with | b :: _ => b | [] => true
def enc : List Bool → Nat
  | [] => 1
  | b :: st => 2 * enc st + b.toNat
theorem enc_lt : ∀ st : List Bool, enc st < 2 ^ (st.length + 1)
  | [] => by decide
  | b :: st => by
    have := enc_lt st
    have := Bool.toNat_le b
    rw [enc, List.length_cons, Nat.pow_succ]
    omega
theorem stp_len {v : Nat → Int} {c : Cd} {st : List Bool} {l : List Cd} {m : Nat} (hc : c.1 ≤ 5) (h : cd_d (c :: l) st.length = some m) : cd_d l (stp v c st).length = some m ∧ (c.1 ≤ 2 → st.length < 40) ∧ (c.1 = 5 → ∃ b r, st = b :: r) ∧ (2 < c.1 → c.1 ≠ 5 → ∃ x y r, st = x :: y :: r) := by
  rw [cd_d] at h
  unfold stp
  by_cases h1 : c.1 ≤ 2
  · rw [if_pos h1] at h ⊢
    by_cases h2 : st.length < 40
    · rw [if_pos h2] at h
      exact ⟨h, fun _ => h2, fun q => by omega, fun q => by omega⟩
    · rw [if_neg h2] at h
      cases h
  · rw [if_neg h1] at h ⊢
    by_cases h3 : c.1 = 5
    · rw [if_pos h3] at h ⊢
      cases st with
      | nil =>
        rw [if_neg (by decide)] at h
        cases h
      | cons b r =>
        rw [if_pos (by rw [List.length_cons]; omega)] at h
        exact ⟨h, fun q => absurd q h1, fun _ => ⟨b, r, rfl⟩, fun _ q => absurd h3 q⟩
    · rw [if_neg h3] at h ⊢
      cases st with
      | nil =>
        rw [if_neg (by decide)] at h
        cases h
      | cons x r =>
        cases r with
        | nil =>
          rw [if_neg (by simp)] at h
          cases h
        | cons y r =>
          rw [if_pos (by rw [List.length_cons, List.length_cons]; omega)] at h
          exact ⟨h, fun q => absurd q h1, fun q => absurd q h3, fun _ _ => ⟨x, y, r, rfl⟩⟩
theorem stps_len {v : Nat → Int} : ∀ {l : List Cd} {st : List Bool} {m : Nat}, (∀ c ∈ l, cd_ok c) → cd_d l st.length = some m → (stps v l st).length = m
  | [], st, m, _, h => by
    rw [cd_d] at h
    exact Option.some.inj h
  | c :: l, st, m, hc, h => by
    rw [stps]
    exact stps_len (fun c' h' => hc c' (List.mem_cons_of_mem _ h')) (stp_len (v := v) (hc c List.mem_cons_self).1 h).1
/-! the bits' steps -/
theorem e_xor {b : Bool} {e : Nat} (he : e < 4398046511104) : bXor ((2 * e + b.toNat : Nat) : Int) 1 = ((2 * e + (!b).toNat : Nat) : Int) := by
  have hb := Bool.toNat_le b
  have q : bXor ((2 * e + b.toNat : Nat) : Int) ((1 : Nat) : Int) = (((2 * e + b.toNat) ^^^ 1 : Nat) : Int) := bXor_nat (by omega) (by decide)
  have r : (2 * e + b.toNat) ^^^ 1 = 2 * e + (!b).toNat := by
    apply Nat.eq_of_testBit_eq
    intro i
    have h2 : (1 : Nat) < 2 ^ 1 := by decide
    cases b
    · rw [Nat.testBit_xor]
      show ((2 ^ 1 * e + 0).testBit i ^^ (1 : Nat).testBit i) = (2 ^ 1 * e + 1).testBit i
      rw [Nat.testBit_two_pow_mul_add _ (by decide), Nat.testBit_two_pow_mul_add _ (by decide)]
      by_cases hi : i < 1
      · rw [if_pos hi, if_pos hi, Nat.zero_testBit, Bool.false_xor]
      · rw [if_neg hi, if_neg hi, show Nat.testBit 1 i = false by rw [Bool.eq_false_iff]; exact fun q => hi (by rw [Nat.testBit_one_eq_true_iff_self_eq_zero.mp q]; decide), Bool.xor_false]
    · rw [Nat.testBit_xor]
      show ((2 ^ 1 * e + 1).testBit i ^^ (1 : Nat).testBit i) = (2 ^ 1 * e + 0).testBit i
      rw [Nat.testBit_two_pow_mul_add _ (by decide), Nat.testBit_two_pow_mul_add _ (by decide)]
      by_cases hi : i < 1
      · rw [if_pos hi, if_pos hi, Nat.zero_testBit, Bool.xor_self]
      · rw [if_neg hi, if_neg hi, show Nat.testBit 1 i = false by rw [Bool.eq_false_iff]; exact fun q => hi (by rw [Nat.testBit_one_eq_true_iff_self_eq_zero.mp q]; decide), Bool.xor_false]
  rw [r] at q
  exact q
theorem e_or1 {x : Bool} {e : Nat} : (2 * e) ||| x.toNat = 2 * e + x.toNat := by
  have h := Nat.two_pow_add_eq_or_of_lt (i := 1) (b := x.toNat) (by have := Bool.toNat_le x; omega) e
  rw [Nat.pow_one] at h
  exact h.symm
theorem e_and1 {x : Bool} {e : Nat} : (2 * e + x.toNat) &&& 1 = x.toNat := by
  have := Bool.toNat_le x
  rw [and_1]
  omega
theorem e_or {x y : Bool} {e : Nat} (he : e < 1099511627776) : bOr (lUshr ((2 * (2 * e + y.toNat) + x.toNat : Nat) : Int) 1) (bAnd ((2 * (2 * e + y.toNat) + x.toNat : Nat) : Int) 1) = ((2 * e + (y || x).toNat : Nat) : Int) := by
  have hx := Bool.toNat_le x
  have hy := Bool.toNat_le y
  have a1 : bAnd ((2 * (2 * e + y.toNat) + x.toNat : Nat) : Int) ((1 : Nat) : Int) = (((2 * (2 * e + y.toNat) + x.toNat) &&& 1 : Nat) : Int) := bAnd_nat (by omega) (by decide)
  rw [e_and1] at a1
  have a1 : bAnd ((2 * (2 * e + y.toNat) + x.toNat : Nat) : Int) 1 = ((x.toNat : Nat) : Int) := a1
  rw [a1, lUshr_nat (b := 1) (k := 1) (by omega) rfl (by decide), show (2 * (2 * e + y.toNat) + x.toNat) / 2 ^ 1 = 2 * e + y.toNat by omega, bOr_nat (by omega) (by omega)]
  congr 1
  cases x <;> cases y
  · exact Nat.or_zero _
  · exact Nat.or_zero _
  · exact e_or1 (x := true)
  · show (2 * e + 1) ||| 1 = 2 * e + 1
    have : (2 * e + 1) = (2 * e) ||| 1 := (e_or1 (x := true)).symm
    rw [this, Nat.or_assoc, Nat.or_self]
theorem e_and {x y : Bool} {e : Nat} (he : e < 1099511627776) : bAnd (lUshr ((2 * (2 * e + y.toNat) + x.toNat : Nat) : Int) 1) (bOr ((2 * (2 * e + y.toNat) + x.toNat : Nat) : Int) (-2)) = ((2 * e + (y && x).toNat : Nat) : Int) := by
  have hx := Bool.toNat_le x
  have hy := Bool.toNat_le y
  have hyx := Bool.toNat_le (y && x)
  rw [lUshr_nat (b := 1) (k := 1) (by omega) rfl (by decide), show (2 * (2 * e + y.toNat) + x.toNat) / 2 ^ 1 = 2 * e + y.toNat by omega]
  unfold bAnd bOr
  rw [opq_eq, opq_eq, BitVec.ofInt_toInt, b_of (by omega), b_of (by omega)]
  refine b_to ?_ (by omega)
  apply Nat.eq_of_testBit_eq
  intro i
  rw [BitVec.testBit_toNat, BitVec.getLsbD_and, BitVec.getLsbD_or, BitVec.getLsbD_ofNat, BitVec.getLsbD_ofNat]
  have e2 : (BitVec.ofInt 64 (-2)).getLsbD i = (decide (i < 64) && decide (1 ≤ i)) := by
    rw [show BitVec.ofInt 64 (-2) = BitVec.allOnes 64 <<< 1 from rfl, BitVec.getLsbD_shiftLeft, BitVec.getLsbD_allOnes]
    by_cases h1 : i < 64
    · rw [decide_eq_true h1]
      by_cases h2 : 1 ≤ i
      · rw [decide_eq_true h2, decide_eq_false (show ¬ i < 1 by omega), decide_eq_true (show i - 1 < 64 by omega)]
        rfl
      · rw [decide_eq_false h2, decide_eq_true (show i < 1 by omega)]
        rfl
    · rw [decide_eq_false h1]
      rfl
  rw [e2]
  have t1 : ∀ (b : Bool) (k : Nat), (2 * e + b.toNat).testBit k = if k < 1 then b else e.testBit (k - 1) := fun b k => by
    have := Nat.testBit_two_pow_mul_add e (b := b.toNat) (i := 1) (by have := Bool.toNat_le b; omega) k
    rw [Nat.pow_one] at this
    rw [this]
    by_cases hk : k < 1
    · rw [if_pos hk, if_pos hk, show k = 0 by omega]
      cases b <;> rfl
    · rw [if_neg hk, if_neg hk]
  have hbig : ∀ b : Bool, 64 ≤ i → (2 * e + b.toNat).testBit i = false := fun b hi => Nat.testBit_lt_two_pow (Nat.lt_of_lt_of_le (show 2 * e + b.toNat < 2 ^ 64 by have := Bool.toNat_le b; omega) (Nat.pow_le_pow_right (by decide) hi))
  by_cases h1 : i < 64
  · rw [decide_eq_true h1, Bool.true_and, Bool.true_and, Bool.true_and]
    by_cases h2 : 1 ≤ i
    · rw [decide_eq_true h2, Bool.or_true, Bool.and_true, t1, t1, if_neg (by omega), if_neg (by omega)]
    · rw [decide_eq_false h2, Bool.or_false, t1, t1, if_pos (by omega), if_pos (by omega)]
      have := Nat.testBit_two_pow_mul_add (2 * e + y.toNat) (b := x.toNat) (i := 1) (by omega) i
      rw [Nat.pow_one, if_pos (by omega), show i = 0 by omega] at this
      rw [show i = 0 by omega, this]
      cases x <;> cases y <;> rfl
  · rw [decide_eq_false h1, Bool.false_and, Bool.false_and, hbig _ (by omega)]
theorem e_push {b : Bool} {e : Nat} (he : e < 4398046511104) : bOr (lShl (e : Int) 1) ((b.toNat : Nat) : Int) = ((2 * e + b.toNat : Nat) : Int) := by
  have hb := Bool.toNat_le b
  rw [lShl_id (b := 1) (k := 1) rfl (by decide), show (e : Int) * 2 ^ 1 = ((2 * e : Nat) : Int) by omega, bOr_nat (by omega) (by omega), e_or1]
