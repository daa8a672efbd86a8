/-! numbers in range, bits, writes -/
theorem w32_n {x : Int} (h1 : 0 ≤ x) (h2 : x < 2147483648) : w32 x = x := w32_id (by omega) h2
theorem w64_n {x : Int} (h1 : 0 ≤ x) (h2 : x < 9223372036854775808) : w64 x = x := w64_id (by omega) h2
/-- an int's numbers -/
def I32 (x : Int) : Prop := -2147483648 ≤ x ∧ x < 2147483648
theorem I32.w {x : Int} (h : I32 x) : w32 x = x := w32_id h.1 h.2
theorem w32_I32 (x : Int) : I32 (w32 x) := by
  rw [w32_def]
  have h1 := @Int.le_bmod x 4294967296 (by decide)
  have h2 := @Int.bmod_lt x 4294967296 (by decide)
  constructor <;> omega
theorem w64_w64 (x : Int) : w64 (w64 x) = w64 x := by
  rw [w64_def, w64_def]
  exact Int.bmod_bmod
theorem lCmp_id {a b : Int} : lCmp a b = if w64 a < w64 b then -1 else if w64 a = w64 b then 0 else 1 := opq_eq _
theorem lCmp_w {a b : Int} : w32 (lCmp a b) = lCmp a b := by
  rw [lCmp_id]
  split
  · exact w32_id (by decide) (by decide)
  · split
    · exact w32_id (by decide) (by decide)
    · exact w32_id (by decide) (by decide)
theorem lCmp_lt {a b : Int} : w32 (lCmp a b) < 0 ↔ w64 a < w64 b := by
  rw [lCmp_w, lCmp_id]
  split
  next h => exact ⟨fun _ => h, fun _ => by decide⟩
  next h =>
    split
    · exact ⟨fun q => absurd q (by decide), fun q => absurd q h⟩
    · exact ⟨fun q => absurd q (by decide), fun q => absurd q h⟩
theorem lCmp_gt {a b : Int} : 0 < w32 (lCmp a b) ↔ w64 b < w64 a := by
  rw [lCmp_w, lCmp_id]
  split
  next h => exact ⟨fun q => absurd q (by decide), fun q => by omega⟩
  next h =>
    split
    next h2 => exact ⟨fun q => absurd q (by decide), fun q => by omega⟩
    next h2 => exact ⟨fun _ => by omega, fun _ => by decide⟩
theorem lCmp_eq {a b : Int} : w32 (lCmp a b) = 0 ↔ w64 a = w64 b := by
  rw [lCmp_w, lCmp_id]
  split
  next h => exact ⟨fun q => absurd q (by decide), fun q => by omega⟩
  next h =>
    split
    next h2 => exact ⟨fun _ => h2, fun _ => rfl⟩
    next h2 => exact ⟨fun q => absurd q (by decide), fun q => absurd q h2⟩
theorem b_of {a : Nat} (h : a < 9223372036854775808) : (BitVec.ofInt 64 (a : Int)) = BitVec.ofNat 64 a := BitVec.ofInt_natCast 64 a
theorem b_to {x : BitVec 64} {n : Nat} (h : x.toNat = n) (hn : n < 9223372036854775808) : x.toInt = (n : Int) := by
  rw [BitVec.toInt_eq_toNat_of_lt (by omega), h]
theorem bAnd_nat {a b : Nat} (ha : a < 9223372036854775808) (hb : b < 9223372036854775808) : bAnd (a : Int) (b : Int) = ((a &&& b : Nat) : Int) := by
  unfold bAnd
  rw [opq_eq, b_of ha, b_of hb]
  refine b_to ?_ (Nat.lt_of_le_of_lt Nat.and_le_left ha)
  rw [BitVec.toNat_and, BitVec.toNat_ofNat, BitVec.toNat_ofNat, Nat.mod_eq_of_lt (by omega), Nat.mod_eq_of_lt (by omega)]
theorem bOr_nat {a b : Nat} (ha : a < 9223372036854775808) (hb : b < 9223372036854775808) : bOr (a : Int) (b : Int) = ((a ||| b : Nat) : Int) := by
  unfold bOr
  rw [opq_eq, b_of ha, b_of hb]
  refine b_to ?_ (Nat.or_lt_two_pow (n := 63) ha hb)
  rw [BitVec.toNat_or, BitVec.toNat_ofNat, BitVec.toNat_ofNat, Nat.mod_eq_of_lt (by omega), Nat.mod_eq_of_lt (by omega)]
theorem bXor_nat {a b : Nat} (ha : a < 9223372036854775808) (hb : b < 9223372036854775808) : bXor (a : Int) (b : Int) = ((a ^^^ b : Nat) : Int) := by
  unfold bXor
  rw [opq_eq, b_of ha, b_of hb]
  refine b_to ?_ (Nat.xor_lt_two_pow (n := 63) ha hb)
  rw [BitVec.toNat_xor, BitVec.toNat_ofNat, BitVec.toNat_ofNat, Nat.mod_eq_of_lt (by omega), Nat.mod_eq_of_lt (by omega)]
theorem iShl_id {a b : Int} {k : Nat} (h : b = (k : Int)) (hk : k < 32) : iShl a b = a * 2 ^ k := by
  unfold iShl
  rw [opq_eq, h, show ((k : Int) % 32).toNat = k by omega]
theorem lShl_id {a b : Int} {k : Nat} (h : b = (k : Int)) (hk : k < 64) : lShl a b = a * 2 ^ k := by
  unfold lShl
  rw [opq_eq, h, show ((k : Int) % 64).toNat = k by omega]
theorem iShr_id {a b : Int} {k : Nat} (ha : I32 a) (h : b = (k : Int)) (hk : k < 32) : iShr a b = a / 2 ^ k := by
  unfold iShr
  rw [opq_eq, h, show ((k : Int) % 32).toNat = k by omega, ha.w]
theorem iShr_nat {a : Nat} {b : Int} {k : Nat} (ha : a < 2147483648) (h : b = (k : Int)) (hk : k < 32) : iShr (a : Int) b = ((a / 2 ^ k : Nat) : Int) := by
  rw [iShr_id ⟨by omega, by omega⟩ h hk]
  rw [Int.natCast_ediv, Int.natCast_pow]
  rfl
theorem lUshr_nat {a : Nat} {b : Int} {k : Nat} (ha : a < 9223372036854775808) (h : b = (k : Int)) (hk : k < 64) : lUshr (a : Int) b = ((a / 2 ^ k : Nat) : Int) := by
  unfold lUshr
  rw [opq_eq, h, show ((k : Int) % 64).toNat = k by omega, show ((a : Int) % 18446744073709551616) = (a : Int) by omega]
  rw [Int.natCast_ediv, Int.natCast_pow]
  rfl
theorem iUshr_nat {a : Nat} {b : Int} {k : Nat} (ha : a < 4294967296) (h : b = (k : Int)) (hk : k < 32) : iUshr (a : Int) b = ((a / 2 ^ k : Nat) : Int) := by
  unfold iUshr
  rw [opq_eq, h, show ((k : Int) % 32).toNat = k by omega, show ((a : Int) % 4294967296) = (a : Int) by omega]
  rw [Int.natCast_ediv, Int.natCast_pow]
  rfl
/-- the bit k of h, as a number -/
def bt (h k : Nat) : Nat := h / 2 ^ k % 2
theorem bt_01 (h k : Nat) : bt h k = 0 ∨ bt h k = 1 := by unfold bt; omega
theorem bt_tb (h k : Nat) : (bt h k = 1) ↔ h.testBit k = true := by
  unfold bt
  rw [Nat.testBit_eq_decide_div_mod_eq, decide_eq_true_eq]
theorem and_1 (x : Nat) : x &&& 1 = x % 2 := Nat.and_one_is_mod x
theorem bit_at {h : Nat} {b : Int} {k : Nat} (hh : h < 2147483648) (hb : b = (k : Int)) (hk : k < 32) : bAnd (iShr (h : Int) b) 1 = ((bt h k : Nat) : Int) := by
  rw [iShr_nat hh hb hk]
  have e : bAnd ((h / 2 ^ k : Nat) : Int) ((1 : Nat) : Int) = (((h / 2 ^ k) &&& 1 : Nat) : Int) := bAnd_nat (Nat.lt_of_le_of_lt (Nat.div_le_self _ _) (by omega)) (by decide)
  rw [and_1] at e
  exact e
/-! writes -/
theorem up_s {s : hh_Sv} {k j : Nat} {v : Int} : up s k j v k j = v := by unfold up; rw [if_pos ⟨rfl, rfl⟩]
theorem up_k {s : hh_Sv} {k j a b : Nat} {v : Int} (h : a ≠ k) : up s k j v a b = s a b := by unfold up; rw [if_neg (fun q => h q.1)]
theorem up_j {s : hh_Sv} {k j a b : Nat} {v : Int} (h : b ≠ j) : up s k j v a b = s a b := by unfold up; rw [if_neg (fun q => h q.2)]
theorem ok_bind {L : Nat} {v : Int} {s : hh_Sv} {f : hh_Rs → Option hh_Rs} : (ok L v s).bind f = f (v, (SHc L, s)) := rfl
/-- a test's answer -/
def zb (p : Prop) [Decidable p] : Int := if p then 1 else 0
theorem zb_1 {p : Prop} [Decidable p] (h : p) : zb p = 1 := if_pos h
theorem zb_0 {p : Prop} [Decidable p] (h : ¬ p) : zb p = 0 := if_neg h
theorem zb_01 {p : Prop} [Decidable p] : zb p = 0 ∨ zb p = 1 := by
  unfold zb
  split
  · exact Or.inr rfl
  · exact Or.inl rfl
theorem w32_0' : w32 0 = 0 := w32_0
theorem w32_1 : w32 1 = 1 := w32_id (by decide) (by decide)
theorem zb_w {p : Prop} [Decidable p] : w32 (zb p) = 0 ↔ ¬ p := by
  unfold zb
  split
  next h => rw [w32_1]; exact ⟨fun q => absurd q (by decide), fun q => absurd h q⟩
  next h => rw [w32_0]; exact ⟨fun _ => h, fun _ => rfl⟩
