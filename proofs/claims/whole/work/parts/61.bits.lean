/-! how many bits are set: by halves, and as the JDK reckons it -/
def pcf : Nat → Nat → Nat
  | 0, _ => 0
  | n + 1, h => h % 2 + pcf n (h / 2)
theorem pcf_add (h : Nat) : ∀ (m n : Nat) (h : Nat), pcf (m + n) h = pcf m h + pcf n (h / 2 ^ m)
  | 0, n, h => by rw [Nat.zero_add, Nat.pow_zero, Nat.div_one]; simp [pcf]
  | m + 1, n, h => by
    rw [show m + 1 + n = (m + n) + 1 by omega, pcf, pcf_add h m n (h / 2), pcf, Nat.div_div_eq_div_mul, ← Nat.pow_succ']
    exact (Nat.add_assoc _ _ _).symm
theorem pcf_mod : ∀ (n h : Nat), pcf n (h % 2 ^ n) = pcf n h
  | 0, h => rfl
  | n + 1, h => by
    rw [pcf, pcf, ← pcf_mod n (h / 2)]
    congr 1
    · rw [Nat.pow_succ']
      exact Nat.mod_mul_right_mod h 2 (2 ^ n)
    · congr 1
      rw [Nat.pow_succ', Nat.mod_mul_right_div_self]
theorem pcf_le : ∀ (n h : Nat), pcf n h ≤ n
  | 0, h => Nat.le_refl _
  | n + 1, h => by
    rw [pcf]
    have := pcf_le n (h / 2)
    omega
theorem pcf_zero : ∀ n : Nat, pcf n 0 = 0
  | 0 => rfl
  | n + 1 => by rw [pcf, Nat.zero_div, pcf_zero n]
/-- beyond its length a number has no bits -/
theorem pcf_big {n m h : Nat} (h1 : h < 2 ^ n) (h2 : n ≤ m) : pcf m h = pcf n h := by
  obtain ⟨k, rfl⟩ := Nat.exists_eq_add_of_le h2
  rw [pcf_add 0, Nat.div_eq_of_lt h1, pcf_zero, Nat.add_zero]
theorem and_split {p q r t : Nat} (hp : p < 256) (hr : r < 256) : (p + 256 * q) &&& (r + 256 * t) = (p &&& r) + 256 * (q &&& t) := by
  have hpr : p &&& r < 2 ^ 8 := Nat.lt_of_le_of_lt Nat.and_le_left hp
  apply Nat.eq_of_testBit_eq
  intro i
  rw [Nat.testBit_and, show p + 256 * q = 2 ^ 8 * q + p by omega, show r + 256 * t = 2 ^ 8 * t + r by omega, show (p &&& r) + 256 * (q &&& t) = 2 ^ 8 * (q &&& t) + (p &&& r) by omega, Nat.testBit_two_pow_mul_add _ hp, Nat.testBit_two_pow_mul_add _ hr, Nat.testBit_two_pow_mul_add _ hpr]
  split
  · rw [Nat.testBit_and]
  · rw [Nat.testBit_and]
def pb1 (a : Nat) : Nat := a - ((a / 2) &&& 85)
def pb2 (a : Nat) : Nat := (pb1 a &&& 51) + ((pb1 a / 4) &&& 51)
theorem pb1_lt : ∀ a, a < 256 → pb1 a < 256 ∧ (a / 2) &&& 85 ≤ a := by decide +kernel
theorem pb2_lt : ∀ a, a < 256 → pb2 a ≤ 68 ∧ pb2 a % 16 ≤ 4 := by decide +kernel
theorem pb3_eq : ∀ a, a < 256 → (pb2 a + pb2 a / 16) &&& 15 = pcf 8 a := by decide +kernel
theorem pb_a : ∀ a, a < 256 → ∀ b, b < 2 → (a / 2 + 128 * b) &&& 85 = (a / 2) &&& 85 := by decide +kernel
theorem pb_b : ∀ a, a < 256 → ∀ b, b < 4 → (a / 4 + 64 * b) &&& 51 = (a / 4) &&& 51 := by decide +kernel
theorem pb_c : ∀ a, a < 73 → ∀ b, b < 5 → (a + 16 * b) &&& 15 = a &&& 15 := by decide +kernel
theorem ps1 {a b M : Nat} (ha : a < 256) : ((a + 256 * b) / 2) &&& (85 + 256 * M) = ((a / 2) &&& 85) + 256 * ((b / 2) &&& M) := by
  rw [show (a + 256 * b) / 2 = (a / 2 + 128 * (b % 2)) + 256 * (b / 2) by omega, and_split (by omega) (by decide), pb_a a ha _ (by omega)]
theorem ps2 {a b M : Nat} (ha : a < 256) : ((a + 256 * b) / 4) &&& (51 + 256 * M) = ((a / 4) &&& 51) + 256 * ((b / 4) &&& M) := by
  rw [show (a + 256 * b) / 4 = (a / 4 + 64 * (b % 4)) + 256 * (b / 4) by omega, and_split (by omega) (by decide), pb_b a ha _ (by omega)]
theorem ps3 {a b M : Nat} (ha : a ≤ 68) (hb : b % 16 ≤ 4) : ((a + 256 * b) + (a + 256 * b) / 16) &&& (15 + 256 * M) = ((a + a / 16) &&& 15) + 256 * ((b + b / 16) &&& M) := by
  rw [show (a + 256 * b) + (a + 256 * b) / 16 = ((a + a / 16) + 16 * (b % 16)) + 256 * (b + b / 16) by omega, and_split (by omega) (by decide), pb_c (a + a / 16) (by omega) _ (by omega)]
/-- four bytes -/
theorem pc_four (h : Nat) (hh : h < 4294967296) : ∃ a b c d, a < 256 ∧ b < 256 ∧ c < 256 ∧ d < 256 ∧ h = a + 256 * (b + 256 * (c + 256 * d)) ∧ pcf 32 h = pcf 8 a + (pcf 8 b + (pcf 8 c + pcf 8 d)) := by
  refine ⟨h % 256, h / 256 % 256, h / 65536 % 256, h / 16777216, by omega, by omega, by omega, by omega, by omega, ?_⟩
  rw [show (32 : Nat) = 8 + (8 + (8 + 8)) from rfl, pcf_add 0, pcf_add 0, pcf_add 0, ← pcf_mod 8 h, ← pcf_mod 8 (h / 2 ^ 8), ← pcf_mod 8 (h / 2 ^ 8 / 2 ^ 8)]
  rw [Nat.div_div_eq_div_mul, Nat.div_div_eq_div_mul]
theorem pc_fin {p q r t : Nat} (hp : p ≤ 8) (hq : q ≤ 8) (hr : r ≤ 8) (ht : t ≤ 8) : ((p + 256 * (q + 256 * (r + 256 * t))) + (p + 256 * (q + 256 * (r + 256 * t))) / 256 + ((p + 256 * (q + 256 * (r + 256 * t))) + (p + 256 * (q + 256 * (r + 256 * t))) / 256) / 65536) % 64 = p + (q + (r + t)) := by
  have h1 : (p + 256 * (q + 256 * (r + 256 * t))) / 256 = q + 256 * (r + 256 * t) := by omega
  rw [h1]
  have h2 : ((p + 256 * (q + 256 * (r + 256 * t))) + (q + 256 * (r + 256 * t))) / 65536 = (r + t) + 256 * t := by omega
  rw [h2]
  omega
/-- the JDK's way, over whole numbers -/
theorem pc_swar (h : Nat) (hh : h < 4294967296) : ∃ x1 x2 x3 x4 x5 : Nat, x1 + ((h / 2) &&& 1431655765) = h ∧ x2 = (x1 &&& 858993459) + ((x1 / 4) &&& 858993459) ∧ x3 = (x2 + x2 / 16) &&& 252645135 ∧ x4 = x3 + x3 / 256 ∧ x5 = x4 + x4 / 65536 ∧ x5 &&& 63 = pcf 32 h ∧ x1 < 4294967296 ∧ x2 < 4294967296 ∧ x2 + x2 / 16 < 4294967296 ∧ x3 < 4294967296 ∧ x4 < 4294967296 ∧ x5 < 4294967296 := by
  obtain ⟨a, b, c, d, ha, hb, hc, hd, e, ep⟩ := pc_four h hh
  obtain ⟨a1, a2⟩ := pb1_lt a ha
  obtain ⟨b1, b2⟩ := pb1_lt b hb
  obtain ⟨c1, c2⟩ := pb1_lt c hc
  obtain ⟨d1, d2⟩ := pb1_lt d hd
  have e1 : (h / 2) &&& 1431655765 = ((a / 2) &&& 85) + 256 * (((b / 2) &&& 85) + 256 * (((c / 2) &&& 85) + 256 * ((d / 2) &&& 85))) := by
    rw [e, show (1431655765 : Nat) = 85 + 256 * (85 + 256 * (85 + 256 * 85)) from rfl, ps1 ha, ps1 hb, ps1 hc]
  obtain ⟨a3, a4⟩ := pb2_lt a ha
  obtain ⟨b3, b4⟩ := pb2_lt b hb
  obtain ⟨c3, c4⟩ := pb2_lt c hc
  obtain ⟨d3, d4⟩ := pb2_lt d hd
  have e2 : ((pb1 a + 256 * (pb1 b + 256 * (pb1 c + 256 * pb1 d))) &&& 858993459) + (((pb1 a + 256 * (pb1 b + 256 * (pb1 c + 256 * pb1 d))) / 4) &&& 858993459) = pb2 a + 256 * (pb2 b + 256 * (pb2 c + 256 * pb2 d)) := by
    rw [show (858993459 : Nat) = 51 + 256 * (51 + 256 * (51 + 256 * 51)) from rfl, ps2 a1, ps2 b1, ps2 c1, and_split a1 (by decide), and_split b1 (by decide), and_split c1 (by decide)]
    unfold pb2
    omega
  have e3 : ((pb2 a + 256 * (pb2 b + 256 * (pb2 c + 256 * pb2 d))) + (pb2 a + 256 * (pb2 b + 256 * (pb2 c + 256 * pb2 d))) / 16) &&& 252645135 = pcf 8 a + 256 * (pcf 8 b + 256 * (pcf 8 c + 256 * pcf 8 d)) := by
    rw [show (252645135 : Nat) = 15 + 256 * (15 + 256 * (15 + 256 * 15)) from rfl, ps3 a3 (by omega), ps3 b3 (by omega), ps3 c3 d4, pb3_eq a ha, pb3_eq b hb, pb3_eq c hc, pb3_eq d hd]
  have l1 := pcf_le 8 a
  have l2 := pcf_le 8 b
  have l3 := pcf_le 8 c
  have l4 := pcf_le 8 d
  refine ⟨pb1 a + 256 * (pb1 b + 256 * (pb1 c + 256 * pb1 d)), pb2 a + 256 * (pb2 b + 256 * (pb2 c + 256 * pb2 d)), pcf 8 a + 256 * (pcf 8 b + 256 * (pcf 8 c + 256 * pcf 8 d)), _, _, ?_, e2.symm, e3.symm, rfl, rfl, ?_, by omega, by omega, by omega, by omega, by omega, by omega⟩
  · rw [e1]
    unfold pb1
    omega
  · rw [show (63 : Nat) = 2 ^ 6 - 1 from rfl, Nat.and_two_pow_sub_one_eq_mod, ep]
    exact pc_fin l1 l2 l3 l4
theorem jin_bitCount_ok (L : Nat) {h : Nat} (hh : h < 2147483648) (s : hh_Sv) : jin_bitCount L (h : Int) s = ok L ((pcf 32 h : Nat) : Int) s := by
  rw [jin_bitCount_eq]
  obtain ⟨x1, x2, x3, x4, x5, e1, e2, e3, e4, e5, e6, b1, b2, b3, b4, b5, b6⟩ := pc_swar h (by omega)
  have q0 : bAnd (iUshr (h : Int) 1) 1431655765 = (((h / 2) &&& 1431655765 : Nat) : Int) := by
    rw [iUshr_nat (b := 1) (k := 1) (by omega) rfl (by decide)]
    exact bAnd_nat (b := 1431655765) (by omega) (by decide)
  have q1 : (h : Int) - bAnd (iUshr (h : Int) 1) 1431655765 = (x1 : Int) := by rw [q0]; omega
  rw [q1]
  have q2 : bAnd (x1 : Int) 858993459 + bAnd (iUshr (x1 : Int) 2) 858993459 = (x2 : Int) := by
    rw [iUshr_nat (b := 2) (k := 2) b1 rfl (by decide)]
    have r1 : bAnd (x1 : Int) 858993459 = ((x1 &&& 858993459 : Nat) : Int) := bAnd_nat (b := 858993459) (by omega) (by decide)
    have r2 : bAnd ((x1 / 2 ^ 2 : Nat) : Int) 858993459 = (((x1 / 4) &&& 858993459 : Nat) : Int) := bAnd_nat (b := 858993459) (by omega) (by decide)
    rw [r1, r2, e2]
    omega
  rw [q2]
  have q3 : bAnd ((x2 : Int) + iUshr (x2 : Int) 4) 252645135 = (x3 : Int) := by
    rw [iUshr_nat (b := 4) (k := 4) b2 rfl (by decide), show (x2 : Int) + ((x2 / 2 ^ 4 : Nat) : Int) = ((x2 + x2 / 16 : Nat) : Int) by omega, e3]
    exact bAnd_nat (b := 252645135) (by omega) (by decide)
  rw [q3]
  have q4 : (x3 : Int) + iUshr (x3 : Int) 8 = (x4 : Int) := by
    rw [iUshr_nat (b := 8) (k := 8) b4 rfl (by decide), e4]
    omega
  rw [q4]
  have q5 : (x4 : Int) + iUshr (x4 : Int) 16 = (x5 : Int) := by
    rw [iUshr_nat (b := 16) (k := 16) b5 rfl (by decide), e5]
    omega
  rw [q5]
  have q6 : bAnd (x5 : Int) 63 = ((x5 &&& 63 : Nat) : Int) := bAnd_nat (b := 63) (by omega) (by decide)
  rw [q6, e6]
/-- the reference's way -/
theorem md_bits_ok (L : Nat) (s : hh_Sv) : ∀ (n h : Nat) (z : Int), h < 2 ^ n → h < 2147483648 → md_bits_b1 L z (h : Int) s = ok L (z + ((pcf n h : Nat) : Int)) s
  | 0, h, z, h1, h2 => by
    have : h = 0 := by omega
    subst this
    rw [md_bits_b1_eq, if_neg (by rw [w32_n (by omega) (by omega)]; omega)]
    simp [pcf]
  | n + 1, h, z, h1, h2 => by
    rw [md_bits_b1_eq, w32_n (by omega) (by omega)]
    by_cases h0 : 0 < (h : Int)
    · rw [if_pos h0, iShr_nat (b := 1) (k := 1) h2 rfl (by decide)]
      have e : bAnd (h : Int) 1 = ((h % 2 : Nat) : Int) := by
        rw [← and_1]
        exact bAnd_nat (b := 1) (by omega) (by decide)
      rw [e, show h / 2 ^ 1 = h / 2 by omega, md_bits_ok L s n (h / 2) _ (by rw [Nat.pow_succ] at h1; omega) (by omega), pcf]
      congr 1
      omega
    · rw [if_neg h0]
      have : h = 0 := by omega
      subst this
      rw [pcf_zero]
      simp
theorem md_bits_all (L : Nat) {h : Nat} (hh : h < 2147483648) (s : hh_Sv) : md_bits L (h : Int) s = ok L ((pcf 32 h : Nat) : Int) s := by
  rw [md_bits_eq, md_bits_ok L s 32 h 0 (by omega) hh, Int.zero_add]
