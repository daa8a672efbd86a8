/-! the lowest bit; the first of a kind, in both -/
theorem low_split {y k : Nat} (hk : y.testBit k = true) (hl : ∀ i, i < k → y.testBit i = false) : ∃ a, y = 2 ^ (k + 1) * a + 2 ^ k := by
  refine ⟨y / 2 ^ (k + 1), ?_⟩
  have e : y % 2 ^ (k + 1) = 2 ^ k := by
    apply Nat.eq_of_testBit_eq
    intro i
    rw [Nat.testBit_mod_two_pow, Nat.testBit_two_pow]
    by_cases h1 : i < k
    · rw [hl i h1, Bool.and_false, decide_eq_false (by omega)]
    · by_cases h2 : i = k
      · subst h2
        rw [hk, decide_eq_true (by omega), decide_eq_true rfl]
        rfl
      · rw [decide_eq_false (show ¬ i < k + 1 by omega), decide_eq_false (by omega), Bool.false_and]
  have := Nat.div_add_mod y (2 ^ (k + 1))
  omega
theorem low_bit {y k : Nat} (hy : y < 9223372036854775808) (hk : y.testBit k = true) (hl : ∀ i, i < k → y.testBit i = false) : y &&& (2 ^ 64 - y) = 2 ^ k := by
  obtain ⟨a, ha⟩ := low_split hk hl
  have hp := Nat.two_pow_pos k
  have hp2 : 2 ^ (k + 1) = 2 * 2 ^ k := by rw [Nat.pow_succ]; omega
  have e1 : y - 1 = 2 ^ (k + 1) * a + (2 ^ k - 1) := by omega
  have e2 : 2 ^ 64 - y = 2 ^ 64 - ((y - 1) + 1) := by omega
  have hk63 : k < 64 := by
    apply Classical.byContradiction
    intro hn
    have : 2 ^ 64 ≤ 2 ^ k := Nat.pow_le_pow_right (by decide) (by omega)
    omega
  apply Nat.eq_of_testBit_eq
  intro i
  rw [Nat.testBit_and, e2, Nat.testBit_two_pow_sub_succ (by omega), e1, Nat.testBit_two_pow_mul_add _ (show 2 ^ k - 1 < 2 ^ (k + 1) by omega), Nat.testBit_two_pow_sub_one, Nat.testBit_two_pow]
  by_cases h1 : i < k
  · rw [hl i h1, Bool.false_and, decide_eq_false (by omega)]
  · by_cases h2 : i = k
    · subst h2
      rw [hk, if_pos (by omega), decide_eq_false h1, decide_eq_true hk63, decide_eq_true rfl]
      rfl
    · rw [if_neg (by omega), decide_eq_false (show ¬ k = i by omega), ha, Nat.testBit_two_pow_mul_add _ (show 2 ^ k < 2 ^ (k + 1) by omega), if_neg (by omega)]
      cases a.testBit (i - (k + 1)) <;> cases decide (i < 64) <;> rfl
theorem bAnd_neg {y k : Nat} (h0 : 0 < y) (hy : y < 9223372036854775808) (hk : y.testBit k = true) (hl : ∀ i, i < k → y.testBit i = false) : bAnd (y : Int) (-(y : Int)) = ((2 ^ k : Nat) : Int) := by
  have hlb := low_bit hy hk hl
  have hle : 2 ^ k ≤ y := by rw [← hlb]; exact Nat.and_le_left
  unfold bAnd
  rw [opq_eq, b_of hy]
  refine b_to ?_ (by omega)
  rw [BitVec.toNat_and, BitVec.toNat_ofNat, Nat.mod_eq_of_lt (by omega), BitVec.toNat_ofInt, ← hlb]
  congr 1
  omega
/-- at which place, from 1 on, the first stands; 0 without -/
def fz (f : Nat → Bool) : Nat → Nat
  | 0 => 0
  | n + 1 => if fz f n = 0 then (if f n = true then n + 1 else 0) else fz f n
theorem fz_le {f : Nat → Bool} : ∀ n, fz f n ≤ n
  | 0 => Nat.le_refl _
  | n + 1 => by
    rw [fz]
    have := fz_le (f := f) n
    split
    · split <;> omega
    · omega
theorem fz_0 {f : Nat → Bool} : ∀ n, fz f n = 0 ↔ ∀ k, k < n → f k = false
  | 0 => ⟨fun _ k h => by omega, fun _ => rfl⟩
  | n + 1 => by
    rw [fz]
    have ih := fz_0 (f := f) n
    constructor
    · intro h k hk
      by_cases e : fz f n = 0
      · rw [if_pos e] at h
        by_cases e2 : f n = true
        · rw [if_pos e2] at h
          omega
        · by_cases e3 : k = n
          · subst e3
            cases q : f k
            · rfl
            · exact absurd q e2
          · exact ih.mp e k (by omega)
      · rw [if_neg e] at h
        exact absurd h e
    · intro h
      rw [if_pos (ih.mpr (fun k hk => h k (by omega))), if_neg (by rw [h n (by omega)]; decide)]
theorem fz_at {f : Nat → Bool} {k : Nat} (h0 : fz f k = 0) (hk : f k = true) : ∀ n, k < n → fz f n = k + 1
  | 0, h => by omega
  | n + 1, h => by
    rw [fz]
    by_cases e : k = n
    · subst e
      rw [if_pos h0, if_pos hk]
    · have := fz_at h0 hk n (by omega)
      rw [if_neg (by omega), this]
theorem fz_ex {f : Nat → Bool} : ∀ n, fz f n ≠ 0 → ∃ k, k < n ∧ fz f n = k + 1 ∧ f k = true ∧ ∀ i, i < k → f i = false
  | 0, h => absurd rfl h
  | n + 1, h => by
    rw [fz] at h ⊢
    by_cases e : fz f n = 0
    · rw [if_pos e] at h ⊢
      by_cases e2 : f n = true
      · rw [if_pos e2] at h ⊢
        exact ⟨n, by omega, rfl, e2, (fz_0 n).mp e⟩
      · rw [if_neg e2] at h
        exact absurd rfl h
    · rw [if_neg e] at h ⊢
      obtain ⟨k, h1, h2⟩ := fz_ex n e
      exact ⟨k, by omega, h2⟩
theorem cnt_all : ∀ n, cnt (fun _ => true) n = n
  | 0 => rfl
  | n + 1 => by rw [cnt, cnt_all n]; rfl
theorem pcf_ones {k : Nat} (hk : k ≤ 32) : pcf 32 (2 ^ k - 1) = k := by
  rw [pcf_tb (n := k) (f := fun _ => true) hk (fun i => by rw [Nat.testBit_two_pow_sub_one, Bool.and_true]), cnt_all]
section
variable {L : Nat} {s : hh_Sv}
theorem md_firstIn_ok {x n o : Nat} (hx : x < 16777216) (hn : n ≤ 24) (ho : o = 0 ∨ o = 1) : md_firstIn L (x : Int) (n : Int) (o : Int) s = ok L ((fz (ob x o) n : Nat) : Int) s := by
  rw [md_firstIn_eq]
  have key : ∀ (j i : Nat), i + j = n → fz (ob x o) i = 0 → md_firstIn_b1 L (x : Int) (n : Int) (o : Int) (i : Int) s = ok L ((fz (ob x o) n : Nat) : Int) s := by
    intro j
    induction j with
    | zero =>
      intro i e h0
      rw [Nat.add_zero] at e
      subst e
      rw [md_firstIn_b1_eq, if_neg (by omega), md_firstIn_b2_eq, if_pos rfl, h0]
      rfl
    | succ j ih =>
      intro i e h0
      have hb := bt_01 x i
      rw [md_firstIn_b1_eq, if_pos (by rw [w32_id (by omega) (by omega), w32_id (by omega) (by omega)]; omega), md_isOf_ok hx rfl (by omega), ok_bind]
      dsimp only
      rw [w32_id (by omega) (by omega), w32_id (by omega) (by omega)]
      by_cases q : bt x i = o
      · rw [if_pos (by omega), md_firstIn_b2_eq, if_neg (by rw [w32_id (by omega) (by omega), w32_id (by omega) (by omega)]; omega), fz_at h0 ((ob_bt ho).mpr q) n (by omega)]
        rfl
      · rw [if_neg (by omega)]
        refine ih (i + 1) (by omega) ?_
        rw [fz, if_pos h0, if_neg (fun z => q ((ob_bt ho).mp z))]
  exact key n 0 (by omega) rfl
theorem hx_first {x n o : Nat} {S : Int} (hx : x < 2 ^ n) (hn : n ≤ 24) : (if w32 ((obt x n o : Nat) : Int) = 0 then ok L 0 s else (jin_bitCount L ((bAnd ((obt x n o : Nat) : Int) (-((obt x n o : Nat) : Int))) - 1) s).bind (fun r2 => ok L (S * (w32 (r2.1 + 1))) r2.2.2)) = ok L (S * ((fz (ob x o) n : Nat) : Int)) s := by
  have h2 := p2_24 hn
  have h3 := obt_lt (o := o) hx
  have ht := obt_tb (o := o) hx
  rw [w32_id (by omega) (by omega)]
  by_cases e : fz (ob x o) n = 0
  · have : obt x n o = 0 := by
      apply Nat.eq_of_testBit_eq
      intro k
      rw [ht, Nat.zero_testBit]
      by_cases hk : k < n
      · rw [(fz_0 n).mp e k hk, Bool.and_false]
      · rw [decide_eq_false hk, Bool.false_and]
    rw [if_pos (by omega), e]
    simp
  · obtain ⟨k, k1, k2, k3, k4⟩ := fz_ex n e
    have t1 : (obt x n o).testBit k = true := by rw [ht, decide_eq_true k1, k3]; rfl
    have t2 : ∀ i, i < k → (obt x n o).testBit i = false := fun i hi => by rw [ht, k4 i hi, Bool.and_false]
    have h0 : 0 < obt x n o := by
      rcases Nat.eq_zero_or_pos (obt x n o) with q | q
      · rw [q, Nat.zero_testBit] at t1
        cases t1
      · exact q
    have hp := Nat.two_pow_pos k
    have hp2 : 2 ^ k ≤ 16777216 := p2_24 (by omega)
    rw [if_neg (by omega), bAnd_neg h0 (by omega) t1 t2, show ((2 ^ k : Nat) : Int) - 1 = ((2 ^ k - 1 : Nat) : Int) by omega, jin_bitCount_ok L (by omega), pcf_ones (by omega), ok_bind]
    dsimp only
    rw [w32_id (by omega) (by omega), k2]
    rfl
end
