/-! the next greater number with as many bits -/
theorem pc_split {k a b : Nat} (hk : k ≤ 32) (hb : b < 2 ^ k) : pcf 32 (2 ^ k * a + b) = pcf k b + pcf (32 - k) a := by
  have e := pcf_add 0 k (32 - k) (2 ^ k * a + b)
  rw [show k + (32 - k) = 32 by omega] at e
  rw [e, ← pcf_mod k (2 ^ k * a + b), Nat.mul_add_mod, Nat.mod_eq_of_lt hb, Nat.mul_add_div (Nat.two_pow_pos k), Nat.div_eq_of_lt hb, Nat.add_zero]
theorem pcf_shift {j m a : Nat} : pcf (j + m) (2 ^ j * a) = pcf m a := by
  rw [pcf_add 0, ← pcf_mod j, Nat.mul_mod_right, pcf_zero, Nat.mul_div_cancel_left _ (Nat.two_pow_pos j), Nat.zero_add]
theorem pcf_sum {j m a c : Nat} (hc : c < 2 ^ j) : pcf (j + m) (2 ^ j * a + c) = pcf j c + pcf m a := by
  rw [pcf_add 0, ← pcf_mod j, Nat.mul_add_mod, Nat.mod_eq_of_lt hc, Nat.mul_add_div (Nat.two_pow_pos j), Nat.div_eq_of_lt hc, Nat.add_zero]
theorem pcf_all : ∀ k : Nat, pcf k (2 ^ k - 1) = k
  | 0 => rfl
  | k + 1 => by
    have hp := Nat.two_pow_pos k
    rw [pcf, Nat.pow_succ, show (2 ^ k * 2 - 1) % 2 = 1 by omega, show (2 ^ k * 2 - 1) / 2 = 2 ^ k - 1 by omega, pcf_all k]
    omega
theorem pcf_less : ∀ {k b : Nat}, b < 2 ^ k - 1 → pcf k b < k
  | 0, b, h => by simp at h
  | k + 1, b, h => by
    have hp := Nat.two_pow_pos k
    rw [Nat.pow_succ] at h
    rw [pcf]
    have hl := pcf_le k (b / 2)
    by_cases e : b / 2 < 2 ^ k - 1
    · have := pcf_less e
      omega
    · have : b % 2 = 0 := by omega
      omega
theorem pcf_pos : ∀ {k b : Nat}, b < 2 ^ k → b ≠ 0 → 0 < pcf k b
  | 0, b, h, h0 => by
    rw [Nat.pow_zero] at h
    omega
  | k + 1, b, h, h0 => by
    rw [Nat.pow_succ] at h
    rw [pcf]
    by_cases e : b / 2 = 0
    · omega
    · have := pcf_pos (k := k) (b := b / 2) (by omega) e
      omega
theorem fz_low {y : Nat} (h : y ≠ 0) : ∃ k, y.testBit k = true ∧ ∀ i, i < k → y.testBit i = false := by
  have hy : y < 2 ^ y := Nat.lt_two_pow_self
  by_cases e : fz (fun k => y.testBit k) y = 0
  · exfalso
    apply h
    apply Nat.eq_of_testBit_eq
    intro i
    rw [Nat.zero_testBit]
    by_cases hi : i < y
    · exact (fz_0 y).mp e i hi
    · exact Nat.testBit_lt_two_pow (Nat.lt_of_lt_of_le hy (Nat.pow_le_pow_right (by decide) (by omega)))
  · obtain ⟨k, -, -, h3, h4⟩ := fz_ex y e
    exact ⟨k, h3, h4⟩
/-- a number as its last run of ones shows it -/
theorem run_split {x : Nat} (h : x ≠ 0) : ∃ j m a, x = 2 ^ j * (2 ^ (m + 2) * a + (2 ^ (m + 1) - 1)) ∧ x.testBit j = true ∧ ∀ i, i < j → x.testBit i = false := by
  obtain ⟨j, j1, j2⟩ := fz_low h
  obtain ⟨b, hb⟩ := low_split j1 j2
  have e1 : x = 2 ^ j * (2 * b + 1) := by rw [hb, Nat.mul_add, Nat.pow_succ, Nat.mul_assoc, Nat.mul_one]
  obtain ⟨k, k1, k2⟩ := fz_low (show 2 * b + 2 ≠ 0 by omega)
  have k0 : k ≠ 0 := by
    intro q
    subst q
    rw [Nat.testBit_zero, decide_eq_true_eq] at k1
    omega
  obtain ⟨m, rfl⟩ : ∃ m, k = m + 1 := ⟨k - 1, by omega⟩
  obtain ⟨a, ha⟩ := low_split k1 k2
  refine ⟨j, m, a, ?_, j1, j2⟩
  have hp := Nat.two_pow_pos (m + 1)
  have ha : 2 * b + 2 = 2 ^ (m + 2) * a + 2 ^ (m + 1) := ha
  have e2 : 2 * b + 1 = 2 ^ (m + 2) * a + (2 ^ (m + 1) - 1) := by omega
  rw [e1, e2]
/-- the next one, in the same form -/
def nx (j m a : Nat) : Nat := 2 ^ (j + (m + 1)) * (2 * a + 1) + (2 ^ m - 1)
theorem nx_pw (j m a : Nat) : 2 ^ j * (2 ^ (m + 2) * a + (2 ^ (m + 1) - 1)) = 2 ^ (j + (m + 1)) * (2 * a) + 2 ^ j * (2 ^ (m + 1) - 1) := by
  rw [Nat.mul_add, ← Nat.mul_assoc, ← Nat.pow_add, show j + (m + 2) = j + (m + 1) + 1 by omega, Nat.pow_succ, Nat.mul_assoc]
theorem nx_low {j m : Nat} : 2 ^ j * (2 ^ (m + 1) - 1) + 2 ^ j = 2 ^ (j + (m + 1)) := by
  have hp := Nat.two_pow_pos (m + 1)
  have e : 2 ^ (m + 1) - 1 + 1 = 2 ^ (m + 1) := by omega
  rw [← Nat.mul_succ, Nat.succ_eq_add_one, e, ← Nat.pow_add]
theorem nx_none {j m a x y : Nat} (hx : x = 2 ^ j * (2 ^ (m + 2) * a + (2 ^ (m + 1) - 1))) (hK : j + (m + 1) ≤ 31) (h1 : x < y) (h2 : y < nx j m a) : pcf 32 y ≠ pcf 32 x := by
  have hl := nx_low (j := j) (m := m)
  have hp := Nat.two_pow_pos j
  have hpm := Nat.two_pow_pos m
  have hm1 : 2 ^ (m + 1) = 2 * 2 ^ m := by rw [Nat.pow_succ]; omega
  rw [nx_pw] at hx
  have ex : pcf 32 x = (m + 1) + pcf (32 - (j + (m + 1))) (2 * a) := by
    rw [hx, pc_split (by omega) (by omega), pcf_shift, pcf_all]
  unfold nx at h2
  have hmul : 2 ^ (j + (m + 1)) * (2 * a + 1) = 2 ^ (j + (m + 1)) * (2 * a) + 2 ^ (j + (m + 1)) := by rw [Nat.mul_add, Nat.mul_one]
  have hmle : 2 ^ m ≤ 2 ^ (j + (m + 1)) := Nat.pow_le_pow_right (by decide) (by omega)
  by_cases e : y < 2 ^ (j + (m + 1)) * (2 * a + 1)
  · obtain ⟨c, hc⟩ : ∃ c, y = 2 ^ (j + (m + 1)) * (2 * a) + (2 ^ j * (2 ^ (m + 1) - 1) + c) := ⟨y - (2 ^ (j + (m + 1)) * (2 * a) + 2 ^ j * (2 ^ (m + 1) - 1)), by omega⟩
    have hc0 : c ≠ 0 := by omega
    have hcj : c < 2 ^ j := by omega
    have := pcf_pos hcj hc0
    rw [hc, pc_split (by omega) (by omega), pcf_sum hcj, pcf_all, ex]
    omega
  · obtain ⟨c, hc⟩ : ∃ c, y = 2 ^ (j + (m + 1)) * (2 * a + 1) + c := ⟨y - 2 ^ (j + (m + 1)) * (2 * a + 1), by omega⟩
    have hcm : c < 2 ^ m - 1 := by omega
    have hl2 := pcf_less hcm
    obtain ⟨w, hw⟩ : ∃ w, 32 - (j + (m + 1)) = w + 1 := ⟨32 - (j + (m + 1)) - 1, by omega⟩
    rw [hc, pc_split (by omega) (by omega), pcf_big (n := m) (m := j + (m + 1)) (by omega) (by omega), ex, hw, pcf, pcf, show (2 * a + 1) % 2 = 1 by omega, show (2 * a + 1) / 2 = a by omega, show (2 * a) % 2 = 0 by omega, show (2 * a) / 2 = a by omega]
    omega
theorem nx_pc {j m a x : Nat} (hx : x = 2 ^ j * (2 ^ (m + 2) * a + (2 ^ (m + 1) - 1))) (hK : j + (m + 1) ≤ 31) : pcf 32 (nx j m a) = pcf 32 x ∧ x < nx j m a := by
  have hl := nx_low (j := j) (m := m)
  have hp := Nat.two_pow_pos j
  have hpm := Nat.two_pow_pos m
  have hmle : 2 ^ m ≤ 2 ^ (j + (m + 1)) := Nat.pow_le_pow_right (by decide) (by omega)
  rw [nx_pw] at hx
  have ex : pcf 32 x = (m + 1) + pcf (32 - (j + (m + 1))) (2 * a) := by
    rw [hx, pc_split (by omega) (by omega), pcf_shift, pcf_all]
  obtain ⟨w, hw⟩ : ∃ w, 32 - (j + (m + 1)) = w + 1 := ⟨32 - (j + (m + 1)) - 1, by omega⟩
  have hmul : 2 ^ (j + (m + 1)) * (2 * a + 1) = 2 ^ (j + (m + 1)) * (2 * a) + 2 ^ (j + (m + 1)) := by rw [Nat.mul_add, Nat.mul_one]
  constructor
  · unfold nx
    rw [pc_split (by omega) (by omega), pcf_big (n := m) (m := j + (m + 1)) (by omega) (by omega), pcf_all, ex, hw, pcf, pcf, show (2 * a + 1) % 2 = 1 by omega, show (2 * a + 1) / 2 = a by omega, show (2 * a) % 2 = 0 by omega, show (2 * a) / 2 = a by omega]
    omega
  · unfold nx
    omega
theorem xor_run {j m a : Nat} : (2 ^ j * (2 ^ (m + 2) * a + 2 ^ (m + 1))) ^^^ (2 ^ j * (2 ^ (m + 2) * a + (2 ^ (m + 1) - 1))) = 2 ^ j * (2 ^ (m + 2) - 1) := by
  have hp : 2 ^ (m + 2) = 2 * 2 ^ (m + 1) := by rw [Nat.pow_succ]; omega
  have hp1 := Nat.two_pow_pos (m + 1)
  apply Nat.eq_of_testBit_eq
  intro i
  rw [Nat.testBit_xor, Nat.testBit_two_pow_mul, Nat.testBit_two_pow_mul, Nat.testBit_two_pow_mul, Nat.testBit_two_pow_mul_add _ (show 2 ^ (m + 1) < 2 ^ (m + 2) by omega), Nat.testBit_two_pow_mul_add _ (show 2 ^ (m + 1) - 1 < 2 ^ (m + 2) by omega), Nat.testBit_two_pow_sub_one, Nat.testBit_two_pow_sub_one, Nat.testBit_two_pow]
  by_cases h1 : j ≤ i
  · rw [decide_eq_true h1, Bool.true_and, Bool.true_and, Bool.true_and]
    by_cases h2 : i - j < m + 2
    · rw [if_pos h2, if_pos h2, decide_eq_true h2]
      by_cases h3 : i - j = m + 1
      · rw [decide_eq_true h3.symm, decide_eq_false (by omega)]
        rfl
      · rw [decide_eq_false (fun q => h3 q.symm), decide_eq_true (by omega)]
        rfl
    · rw [if_neg h2, if_neg h2, decide_eq_false h2, Bool.xor_self]
  · rw [decide_eq_false h1, Bool.false_and, Bool.false_and, Bool.false_and]
    rfl
section
variable {L : Nat} {s : hh_Sv}
theorem hx_nextAlike_ok {x j m a : Nat} (hx : x = 2 ^ j * (2 ^ (m + 2) * a + (2 ^ (m + 1) - 1))) (hb : x < 1048576) (t1 : x.testBit j = true) (t2 : ∀ i, i < j → x.testBit i = false) : hx_nextAlike L (x : Int) s = ok L ((nx j m a : Nat) : Int) s ∧ j + (m + 1) ≤ 20 := by
  have h0 : 0 < x := by
    rcases Nat.eq_zero_or_pos x with q | q
    · rw [q, Nat.zero_testBit] at t1
      cases t1
    · exact q
  have hl := nx_low (j := j) (m := m)
  have hp := Nat.two_pow_pos j
  have hpm := Nat.two_pow_pos m
  have hm1 : 2 ^ (m + 1) = 2 * 2 ^ m := by rw [Nat.pow_succ]; omega
  have hx2 := hx
  rw [nx_pw] at hx2
  have hlow := bAnd_neg h0 (by omega) t1 t2
  have hjle : 2 ^ j ≤ x := by
    have := low_bit (y := x) (by omega) t1 t2
    rw [← this]
    exact Nat.and_le_left
  have hK : j + (m + 1) ≤ 20 := by
    apply Classical.byContradiction
    intro hn
    have h20 : 2 ^ 21 ≤ 2 ^ (j + (m + 1)) := Nat.pow_le_pow_right (by decide) (by omega)
    omega
  refine ⟨?_, hK⟩
  have er : x + 2 ^ j = 2 ^ j * (2 ^ (m + 2) * a + 2 ^ (m + 1)) := by
    have hp1 := Nat.two_pow_pos (m + 1)
    have e2 : 2 ^ (m + 2) * a + (2 ^ (m + 1) - 1) + 1 = 2 ^ (m + 2) * a + 2 ^ (m + 1) := by omega
    rw [hx, ← Nat.mul_succ, Nat.succ_eq_add_one, e2]
  have er2 : x + 2 ^ j = 2 ^ (j + (m + 1)) * (2 * a + 1) := by
    rw [er, show 2 ^ (m + 2) * a + 2 ^ (m + 1) = 2 ^ (m + 1) * (2 * a + 1) by rw [Nat.mul_add, Nat.mul_one, ← Nat.mul_assoc, Nat.pow_succ], ← Nat.mul_assoc, ← Nat.pow_add]
  have exr : (x + 2 ^ j) ^^^ x = 2 ^ j * (2 ^ (m + 2) - 1) := by
    rw [er]
    conv => lhs; rhs; rw [hx]
    exact xor_run
  have hmle : 2 ^ m ≤ 2 ^ 20 := Nat.pow_le_pow_right (by decide) (by omega)
  have hxl : (x + 2 ^ j) ^^^ x < 2 ^ 21 := Nat.xor_lt_two_pow (n := 21) (by omega) (by omega)
  have ed : ((x + 2 ^ j) ^^^ x) / 2 ^ 2 / 2 ^ j = 2 ^ m - 1 := by
    have hp2 : 2 ^ (m + 2) = 4 * 2 ^ m := by rw [Nat.pow_succ, Nat.pow_succ]; omega
    rw [exr, Nat.div_div_eq_div_mul, Nat.mul_comm (2 ^ 2), ← Nat.div_div_eq_div_mul, Nat.mul_div_cancel_left _ hp]
    omega
  rw [hx_nextAlike_eq, hlow, w32_id (i := ((2 ^ j : Nat) : Int)) (by omega) (by omega), if_neg (by omega), if_neg (by omega), show (x : Int) + ((2 ^ j : Nat) : Int) = ((x + 2 ^ j : Nat) : Int) by omega, bXor_nat (by omega) (by omega), iUshr_nat (b := 2) (k := 2) (by omega) rfl (by decide)]
  have hdl : ((x + 2 ^ j) ^^^ x) / 2 ^ 2 < 2 ^ 21 := Nat.lt_of_le_of_lt (Nat.div_le_self _ _) hxl
  rw [w32_id (i := ((((x + 2 ^ j) ^^^ x) / 2 ^ 2 : Nat) : Int)) (by omega) (by omega), tDiv_nn (by omega) (by omega), ← Int.natCast_ediv, ed, bOr_nat (by omega) (by omega), er2]
  unfold nx
  rw [Nat.or_comm, ← Nat.two_pow_add_eq_or_of_lt (show 2 ^ m - 1 < 2 ^ (j + (m + 1)) by
    have : 2 ^ m ≤ 2 ^ (j + (m + 1)) := Nat.pow_le_pow_right (by decide) (by omega)
    omega)]
end
