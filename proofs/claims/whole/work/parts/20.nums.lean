/-! numbers: a machine's int and long as the class of a whole number -/
theorem w32_def (z : Int) : w32 z = Int.bmod z 4294967296 := opq_eq _
theorem w64_def (z : Int) : w64 z = Int.bmod z 18446744073709551616 := opq_eq _
theorem n_w32 (a : Int) : (Int32.ofInt a).toInt = w32 a := by rw [Int32.toInt_ofInt, w32_def]
theorem n_w64 (a : Int) : (Int64.ofInt a).toInt = w64 a := by rw [Int64.toInt_ofInt, w64_def]
theorem n_of32 (a : Int) : Int32.ofInt (w32 a) = Int32.ofInt a := by rw [← n_w32, Int32.ofInt_toInt]
theorem n_of64 (a : Int) : Int64.ofInt (w64 a) = Int64.ofInt a := by rw [← n_w64, Int64.ofInt_toInt]
theorem n_add (a b : Int) : Int32.ofInt a + Int32.ofInt b = Int32.ofInt (a + b) := (Int32.ofInt_add a b).symm
theorem n_sub (a b : Int) : Int32.ofInt a - Int32.ofInt b = Int32.ofInt (a - b) := (Int32.ofInt_sub a b).symm
theorem n_mul (a b : Int) : Int32.ofInt a * Int32.ofInt b = Int32.ofInt (a * b) := (Int32.ofInt_mul a b).symm
theorem n_neg (a : Int) : -Int32.ofInt a = Int32.ofInt (-a) := (Int32.ofInt_neg a).symm
theorem n_ladd (a b : Int) : Int64.ofInt a + Int64.ofInt b = Int64.ofInt (a + b) := (Int64.ofInt_add a b).symm
theorem n_lsub (a b : Int) : Int64.ofInt a - Int64.ofInt b = Int64.ofInt (a - b) := (Int64.ofInt_sub a b).symm
theorem n_lmul (a b : Int) : Int64.ofInt a * Int64.ofInt b = Int64.ofInt (a * b) := (Int64.ofInt_mul a b).symm
theorem n_lneg (a : Int) : -Int64.ofInt a = Int64.ofInt (-a) := (Int64.ofInt_neg a).symm
theorem n_lt (a b : Int) : Int32.ofInt a < Int32.ofInt b ↔ w32 a < w32 b := by rw [Int32.lt_iff_toInt_lt, n_w32, n_w32]
theorem n_le (a b : Int) : Int32.ofInt a ≤ Int32.ofInt b ↔ ¬ w32 b < w32 a := by rw [Int32.le_iff_toInt_le, n_w32, n_w32]; omega
theorem n_eq (a b : Int) : Int32.ofInt a = Int32.ofInt b ↔ w32 a = w32 b := by rw [← Int32.toInt_inj, n_w32, n_w32]
theorem n_0 : Int32.ofInt 0 = 0 := rfl
theorem w32_0 : w32 0 = 0 := by rw [w32_def]; rfl
theorem n_lt64 (a b : Int) : Int64.ofInt a < Int64.ofInt b ↔ w64 a < w64 b := by rw [Int64.lt_iff_toInt_lt, n_w64, n_w64]
theorem n_eq64 (a b : Int) : Int64.ofInt a = Int64.ofInt b ↔ w64 a = w64 b := by rw [← Int64.toInt_inj, n_w64, n_w64]
theorem n_bv (w : Nat) (a : Int) (h : w ≤ 64) : (BitVec.ofInt 64 a).setWidth w = BitVec.ofInt w a := by
  apply BitVec.eq_of_toInt_eq
  rw [← BitVec.signExtend_eq_setWidth_of_le _ h, BitVec.toInt_signExtend_eq_toInt_bmod_of_le _ h, BitVec.toInt_ofInt, BitVec.toInt_ofInt, Int.bmod_bmod_of_dvd (Nat.pow_dvd_pow 2 h)]
theorem n_bvT (w : Nat) (x : BitVec 64) (h : w ≤ 64) : BitVec.ofInt w x.toInt = x.setWidth w := by
  rw [← n_bv w x.toInt h, BitVec.ofInt_toInt]
theorem n_and (a b : Int) : Int32.ofInt a &&& Int32.ofInt b = Int32.ofInt (bAnd a b) := by
  apply Int32.toBitVec.inj
  rw [Int32.toBitVec_and, Int32.toBitVec_ofInt, Int32.toBitVec_ofInt, Int32.toBitVec_ofInt, bAnd, opq_eq, n_bvT 32 _ (by decide), BitVec.setWidth_and, n_bv 32 _ (by decide), n_bv 32 _ (by decide)]
theorem n_or (a b : Int) : Int32.ofInt a ||| Int32.ofInt b = Int32.ofInt (bOr a b) := by
  apply Int32.toBitVec.inj
  rw [Int32.toBitVec_or, Int32.toBitVec_ofInt, Int32.toBitVec_ofInt, Int32.toBitVec_ofInt, bOr, opq_eq, n_bvT 32 _ (by decide), BitVec.setWidth_or, n_bv 32 _ (by decide), n_bv 32 _ (by decide)]
theorem n_xor (a b : Int) : Int32.ofInt a ^^^ Int32.ofInt b = Int32.ofInt (bXor a b) := by
  apply Int32.toBitVec.inj
  rw [Int32.toBitVec_xor, Int32.toBitVec_ofInt, Int32.toBitVec_ofInt, Int32.toBitVec_ofInt, bXor, opq_eq, n_bvT 32 _ (by decide), BitVec.setWidth_xor, n_bv 32 _ (by decide), n_bv 32 _ (by decide)]
theorem n_land (a b : Int) : Int64.ofInt a &&& Int64.ofInt b = Int64.ofInt (bAnd a b) := by
  apply Int64.toBitVec.inj
  rw [Int64.toBitVec_and, Int64.toBitVec_ofInt, Int64.toBitVec_ofInt, Int64.toBitVec_ofInt, bAnd, opq_eq, BitVec.ofInt_toInt]
theorem n_lor (a b : Int) : Int64.ofInt a ||| Int64.ofInt b = Int64.ofInt (bOr a b) := by
  apply Int64.toBitVec.inj
  rw [Int64.toBitVec_or, Int64.toBitVec_ofInt, Int64.toBitVec_ofInt, Int64.toBitVec_ofInt, bOr, opq_eq, BitVec.ofInt_toInt]
theorem n_lxor (a b : Int) : Int64.ofInt a ^^^ Int64.ofInt b = Int64.ofInt (bXor a b) := by
  apply Int64.toBitVec.inj
  rw [Int64.toBitVec_xor, Int64.toBitVec_ofInt, Int64.toBitVec_ofInt, Int64.toBitVec_ofInt, bXor, opq_eq, BitVec.ofInt_toInt]
theorem n_i2l (a : Int) : (Int32.ofInt a).toInt64 = Int64.ofInt (w32 a) := by rw [← n_w32]; rfl
theorem n_l2i (a : Int) : (Int64.ofInt a).toInt32 = Int32.ofInt a := Int64.toInt32_ofInt
theorem n_i2b (a : Int) : (Int32.ofInt a).toInt8.toInt32 = Int32.ofInt (b8 a) := by
  rw [Int32.toInt8_ofInt, ← Int32.ofInt_int8ToInt, Int8.toInt_ofInt, b8, opq_eq]
theorem n_toNat32 (a : Int) : (Int32.ofInt a).toBitVec.toNat = (a % 4294967296).toNat := by
  rw [Int32.toBitVec_ofInt, BitVec.toNat_ofInt]; rfl
theorem n_toNat64 (a : Int) : (Int64.ofInt a).toBitVec.toNat = (a % 18446744073709551616).toNat := by
  rw [Int64.toBitVec_ofInt, BitVec.toNat_ofInt]; rfl
theorem n_eqN {x : Int32} {z : Int} (h : (x.toBitVec.toNat : Int) = z % 4294967296) : x = Int32.ofInt z := by
  apply Int32.toBitVec.inj
  apply BitVec.eq_of_toNat_eq
  rw [n_toNat32]
  omega
theorem n_eqN64 {x : Int64} {z : Int} (h : (x.toBitVec.toNat : Int) = z % 18446744073709551616) : x = Int64.ofInt z := by
  apply Int64.toBitVec.inj
  apply BitVec.eq_of_toNat_eq
  rw [n_toNat64]
  omega
theorem n_i2c (a : Int) : ((Int32.ofInt a).toUInt32 % 65536).toInt32 = Int32.ofInt (u16 a) := by
  apply n_eqN
  rw [pk_char, pk_tn (by omega), n_toNat32, u16, opq_eq]
  omega
theorem n_sh (b : Int) : Int32.ofInt b &&& 31 = nI (b % 32).toNat := by
  rw [pk_and (Int32.ofInt b) (m := 31) 5 (by decide), n_toNat32]
  congr 1
  omega
theorem n_smod : ∀ j, j < 32 → ((nI j).toBitVec.smod 32).toNat = j := by decide
theorem n_mulm (a c m : Int) (hm : 0 < m) : ((a % m).toNat : Int) * c % m = a * c % m := by
  rw [Int.toNat_of_nonneg (Int.emod_nonneg a (by omega)), Int.mul_emod, Int.emod_emod, ← Int.mul_emod]
theorem n_shl (a b : Int) : Int32.ofInt a <<< (Int32.ofInt b &&& 31) = Int32.ofInt (iShl a b) := by
  apply n_eqN
  have hj : (b % 32).toNat < 32 := by omega
  rw [n_sh, pk_shl (Int32.ofInt a) (nI (b % 32).toNat) (b % 32).toNat (n_smod _ hj), n_toNat32, iShl, opq_eq]
  have h := n_mulm a ((2 : Int) ^ (b % 32).toNat) 4294967296 (by decide)
  rw [← h]
  simp only [Int.natCast_emod, Int.natCast_mul, Int.natCast_pow]
  rfl
theorem n_shr (a b : Int) : Int32.ofInt a >>> (Int32.ofInt b &&& 31) = Int32.ofInt (iShr a b) := by
  have hj : (b % 32).toNat < 32 := by omega
  have h := pk_shr (Int32.ofInt a) (nI (b % 32).toNat) (b % 32).toNat (n_smod _ hj)
  rw [n_sh, ← Int32.ofInt_toInt (Int32.ofInt a >>> nI (b % 32).toNat), h, n_w32, iShr, opq_eq, Int.shiftRight_eq_div_pow]
  simp only [Int.natCast_pow]
  rfl
theorem n_ush : ∀ j, j < 32 → ((nI j).toBitVec % 32#32).toNat = j := by decide
theorem n_ushr (a b : Int) : ((Int32.ofInt a).toUInt32 >>> ((Int32.ofInt b).toUInt32 &&& Int32.toUInt32 31)).toInt32 = Int32.ofInt (iUshr a b) := by
  have hj : (b % 32).toNat < 32 := by omega
  apply n_eqN
  have e : ((Int32.ofInt b).toUInt32 &&& Int32.toUInt32 31).toBitVec = (nI (b % 32).toNat).toBitVec := by rw [← n_sh]; rfl
  rw [pk_ushr (Int32.ofInt a) (Int32.ofInt b) (b % 32).toNat (by rw [e]; exact n_ush _ hj), n_toNat32, iUshr, opq_eq]
  have h0 : 0 ≤ a % 4294967296 := Int.emod_nonneg a (by decide)
  have h1 : a % 4294967296 < 4294967296 := Int.emod_lt_of_pos a (by decide)
  rw [Int.natCast_ediv, Int.toNat_of_nonneg h0, Int.natCast_pow]
  have h2 : (0 : Int) < ((2 : Nat) : Int) ^ (b % 32).toNat := Int.pow_pos (by decide)
  have h3 : 0 ≤ a % 4294967296 / ((2 : Nat) : Int) ^ (b % 32).toNat := Int.ediv_nonneg h0 (by omega)
  have h4 : a % 4294967296 / ((2 : Nat) : Int) ^ (b % 32).toNat ≤ a % 4294967296 := Int.ediv_le_self _ h0
  exact (Int.emod_eq_of_lt h3 (by omega)).symm
theorem n_sh64 (b : Int) : (Int32.ofInt b).toInt64 &&& 63 = Int64.ofInt (b % 64) := by
  apply Int64.toBitVec.inj
  rw [n_i2l, Int64.toBitVec_and, Int64.toBitVec_ofInt, Int64.toBitVec_ofInt]
  apply BitVec.eq_of_toNat_eq
  rw [BitVec.toNat_and, BitVec.toNat_ofInt, BitVec.toNat_ofInt]
  have e : (Int64.toBitVec 63).toNat = 2 ^ 6 - 1 := by decide
  rw [e, Nat.and_two_pow_sub_one_eq_mod, w32_def]
  have h := Int.bmod_emod (x := b) (m := 4294967296)
  have h1 : (↑(2 ^ 64 : Nat) : Int) = 18446744073709551616 := by decide
  rw [h1]
  omega
theorem n_smod64 : ∀ j, j < 64 → ((Int64.ofNat j).toBitVec.smod 64).toNat = j := by decide
theorem n_lshl (a b : Int) : Int64.ofInt a <<< ((Int32.ofInt b).toInt64 &&& 63) = Int64.ofInt (lShl a b) := by
  have hj : (b % 64).toNat < 64 := by omega
  have e : Int64.ofInt (b % 64) = Int64.ofNat (b % 64).toNat := by rw [← Int64.ofInt_eq_ofNat, Int.toNat_of_nonneg (by omega)]
  apply n_eqN64
  rw [n_sh64, e, Int64.toBitVec_shiftLeft, BitVec.shiftLeft_eq', BitVec.toNat_shiftLeft, n_smod64 _ hj, n_toNat64, lShl, opq_eq, Nat.shiftLeft_eq]
  have h := n_mulm a ((2 : Int) ^ (b % 64).toNat) 18446744073709551616 (by decide)
  rw [← h]
  simp only [Int.natCast_emod, Int.natCast_mul, Int.natCast_pow]
  rfl
theorem n_ush64 : ∀ j, j < 64 → ((Int64.ofNat j).toBitVec % 64#64).toNat = j := by decide
theorem n_lushr (a b : Int) : ((Int64.ofInt a).toUInt64 >>> ((Int32.ofInt b).toInt64.toUInt64 &&& Int64.toUInt64 63)).toInt64 = Int64.ofInt (lUshr a b) := by
  have hj : (b % 64).toNat < 64 := by omega
  have e0 : Int64.ofInt (b % 64) = Int64.ofNat (b % 64).toNat := by rw [← Int64.ofInt_eq_ofNat, Int.toNat_of_nonneg (by omega)]
  have e : ((Int32.ofInt b).toInt64.toUInt64 &&& Int64.toUInt64 63).toBitVec = (Int64.ofNat (b % 64).toNat).toBitVec := by rw [← e0, ← n_sh64]; rfl
  apply n_eqN64
  have e1 : ((Int64.ofInt a).toUInt64 >>> ((Int32.ofInt b).toInt64.toUInt64 &&& Int64.toUInt64 63)).toInt64.toBitVec = (Int64.ofInt a).toBitVec >>> (((Int32.ofInt b).toInt64.toUInt64 &&& Int64.toUInt64 63).toBitVec % 64#64) := rfl
  rw [e1, e, BitVec.ushiftRight_eq', BitVec.toNat_ushiftRight, n_ush64 _ hj, n_toNat64, lUshr, opq_eq, Nat.shiftRight_eq_div_pow]
  have h0 : 0 ≤ a % 18446744073709551616 := Int.emod_nonneg a (by decide)
  have h1 : a % 18446744073709551616 < 18446744073709551616 := Int.emod_lt_of_pos a (by decide)
  rw [Int.natCast_ediv, Int.toNat_of_nonneg h0, Int.natCast_pow]
  have h2 : (0 : Int) < ((2 : Nat) : Int) ^ (b % 64).toNat := Int.pow_pos (by decide)
  have h3 : 0 ≤ a % 18446744073709551616 / ((2 : Nat) : Int) ^ (b % 64).toNat := Int.ediv_nonneg h0 (by omega)
  have h4 : a % 18446744073709551616 / ((2 : Nat) : Int) ^ (b % 64).toNat ≤ a % 18446744073709551616 := Int.ediv_le_self _ h0
  exact (Int.emod_eq_of_lt h3 (by omega)).symm
theorem n_div (a b : Int) : Int32.ofInt a / Int32.ofInt b = Int32.ofInt (tDiv (w32 a) (w32 b)) := by
  apply Int32.toInt.inj
  rw [Int32.toInt_div, n_w32, n_w32, n_w32, tDiv, opq_eq, w32_def (Int.tdiv _ _)]
theorem n_rem (a b : Int) : Int32.ofInt a - Int32.ofInt a / Int32.ofInt b * Int32.ofInt b = Int32.ofInt (tMod (w32 a) (w32 b)) := by
  rw [n_div, n_mul, n_sub, tMod, opq_eq, tDiv, opq_eq]
  have h := Int.tmod_def (w32 a) (w32 b)
  rw [h, ← n_sub, ← n_sub, ← n_mul, ← n_mul, n_of32, n_of32, Int32.mul_comm]
theorem n_ldiv (a b : Int) : Int64.ofInt a / Int64.ofInt b = Int64.ofInt (tDiv (w64 a) (w64 b)) := by
  apply Int64.toInt.inj
  rw [Int64.toInt_div, n_w64, n_w64, n_w64, tDiv, opq_eq, w64_def (Int.tdiv _ _)]
theorem n_lrem (a b : Int) : Int64.ofInt a - Int64.ofInt a / Int64.ofInt b * Int64.ofInt b = Int64.ofInt (tMod (w64 a) (w64 b)) := by
  rw [n_ldiv, n_lmul, n_lsub, tMod, opq_eq, tDiv, opq_eq]
  have h := Int.tmod_def (w64 a) (w64 b)
  rw [h, ← n_lsub, ← n_lsub, ← n_lmul, ← n_lmul, n_of64, n_of64, Int64.mul_comm]
theorem n_ne0 {b : Int} (h : ¬ w32 b = 0) : ¬ Int32.ofInt b = 0 := fun e => h ((n_eq b 0).mp e |>.trans w32_0)
theorem w64_0 : w64 0 = 0 := by rw [w64_def]; rfl
theorem n_ne064 {b : Int} (h : ¬ w64 b = 0) : ¬ Int64.ofInt b = 0 := fun e => h ((n_eq64 b 0).mp e |>.trans w64_0)
theorem n_clamp {i : Int} (h0 : 0 ≤ i) (h : i < 2147483648) : (Int32.ofInt i).toNatClampNeg = i.toNat := by
  have e : i = (i.toNat : Int) := (Int.toNat_of_nonneg h0).symm
  have e2 : Int32.ofInt i = nI i.toNat := by rw [e, Int32.ofInt_eq_ofNat]; rfl
  rw [e2, nI_clamp (by omega)]
theorem w32_id {i : Int} (h0 : -2147483648 ≤ i) (h : i < 2147483648) : w32 i = i := by
  rw [w32_def]
  exact Int.bmod_eq_of_le (by omega) (by omega)
theorem w64_id {i : Int} (h0 : -9223372036854775808 ≤ i) (h : i < 9223372036854775808) : w64 i = i := by
  rw [w64_def]
  exact Int.bmod_eq_of_le (by omega) (by omega)
theorem n_in {i : Int} {n : Nat} (h0 : 0 ≤ i) (h : i < n) (hn : n < 2147483648) : vp_in (Int32.ofInt i) n := by
  rw [vp_in_iff, n_w32, w32_id (by omega) (by omega)]
  omega
theorem n_lcmp (a b : Int) : lg_cmp (Int64.ofInt a) (Int64.ofInt b) = Int32.ofInt (lCmp a b) := by
  rw [lCmp, opq_eq, lg_cmp]
  by_cases h : w64 b < w64 a
  · rw [if_pos ((n_lt64 b a).mpr h), if_neg (by omega), if_neg (by omega)]; rfl
  · rw [if_neg (fun z => h ((n_lt64 b a).mp z))]
    by_cases h2 : w64 a = w64 b
    · rw [if_pos ((n_eq64 a b).mpr h2), if_neg (by omega), if_pos h2]; rfl
    · rw [if_neg (fun z => h2 ((n_eq64 a b).mp z)), if_pos (by omega)]; rfl
