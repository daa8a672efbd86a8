/-! fractions in lowest terms: Euclid within a hundred steps -/
def fbp : Nat → Nat × Nat
  | 0 => (0, 1)
  | n + 1 => match fbp n with
    | (a, b) => (b, a + b)
def fb (n : Nat) : Nat := (fbp n).1
theorem fbp_2 (n : Nat) : (fbp n).2 = fb (n + 1) := rfl
theorem fb_s (n : Nat) : fb (n + 2) = fb n + fb (n + 1) := rfl
theorem fb_93 : 9223372036854775808 < fb 93 := by decide +kernel
def I64 (x : Int) : Prop := -9223372036854775808 ≤ x ∧ x < 9223372036854775808
theorem I64.w {x : Int} (h : I64 x) : w64 x = x := w64_id h.1 h.2
theorem lc_pos {a : Int} (h : I64 a) : 0 < w32 (lCmp a 0) ↔ 0 < a := by rw [lCmp_gt, w64_0, h.w]
theorem lc_neg {a : Int} (h : I64 a) : w32 (lCmp a 0) < 0 ↔ a < 0 := by rw [lCmp_lt, w64_0, h.w]
theorem lc_zero {a : Int} (h : I64 a) : w32 (lCmp a 0) = 0 ↔ a = 0 := by rw [lCmp_eq, w64_0, h.w]
section
variable {L : Nat} {s : hh_Sv}
theorem jma_absL_ok {a : Int} (h : -9223372036854775808 < a) (h2 : a < 9223372036854775808) : jma_absL L a s = ok L ((a.natAbs : Nat) : Int) s := by
  rw [jma_absL_eq]
  by_cases e : a < 0
  · rw [if_pos ((lc_neg ⟨by omega, h2⟩).mpr e), show -a = ((a.natAbs : Nat) : Int) by omega]
  · rw [if_neg (fun q => e ((lc_neg ⟨by omega, h2⟩).mp q)), show a = ((a.natAbs : Nat) : Int) by omega]
    rfl
theorem pb_step {a b w l9 : Int} {x y : Nat} (hx : x < 9223372036854775808) (hy : y < 9223372036854775808) (h0 : y ≠ 0) (hl : 0 ≤ l9 ∧ l9 < 100) : hx_part_b2 L a b w (x : Int) (y : Int) l9 s = hx_part_b2 L a b w (y : Int) ((x % y : Nat) : Int) (l9 + 1) s := by
  rw [hx_part_b2_eq, if_pos (by rw [w32_id (by omega) (by omega)]; omega), if_neg (fun q => h0 (by have := (lc_zero ⟨by omega, by omega⟩).mp q; omega)), if_neg (by rw [w64_id (by omega) (by omega)]; omega), w64_id (by omega) (by omega), w64_id (by omega) (by omega), tMod_nn (by omega) (by omega)]
  rfl
theorem pb_stop {a b w l9 : Int} {x : Nat} : hx_part_b2 L a b w (x : Int) ((0 : Nat) : Int) l9 s = hx_part_b3 L a b w (x : Int) s := by
  rw [hx_part_b2_eq]
  split
  · rw [if_pos ((lc_zero (a := ((0 : Nat) : Int)) ⟨by decide, by decide⟩).mpr rfl)]
  · rfl
theorem gcd_step (x y : Nat) : Nat.gcd x y = Nat.gcd y (x % y) := by
  rw [Nat.gcd_comm x y, Nat.gcd_rec y x, Nat.gcd_comm]
theorem pb_all {a b w : Int} : ∀ (n x y : Nat) (l9 : Int), y < x → x < fb (n + 2) → x < 9223372036854775808 → 0 ≤ l9 → l9 + n ≤ 100 → hx_part_b2 L a b w (x : Int) (y : Int) l9 s = hx_part_b3 L a b w ((Nat.gcd x y : Nat) : Int) s
  | 0, x, y, l9, h1, h2, h3, h4, h5 => by
    have h2 : x < 1 := h2
    omega
  | 1, x, y, l9, h1, h2, h3, h4, h5 => by
    have h2 : x < 2 := h2
    have : y = 0 := by omega
    subst this
    rw [pb_stop, Nat.gcd_zero_right]
  | n + 2, x, y, l9, h1, h2, h3, h4, h5 => by
    by_cases h0 : y = 0
    · subst h0
      rw [pb_stop, Nat.gcd_zero_right]
    · have hr : x % y < y := Nat.mod_lt _ (by omega)
      rw [pb_step h3 (by omega) h0 (by omega), gcd_step]
      by_cases hy : y < fb (n + 3)
      · exact pb_all (n + 1) y (x % y) (l9 + 1) hr hy (by omega) (by omega) (by omega)
      · by_cases hr0 : x % y = 0
        · rw [hr0, pb_stop, Nat.gcd_zero_right]
        · have e : fb (n + 2 + 2) = fb (n + 2) + fb (n + 3) := rfl
          have hx2 : x % y ≤ x - y := by
            rw [Nat.mod_eq_sub_mod (by omega)]
            exact Nat.mod_le _ _
          have hr2 : y % (x % y) < x % y := Nat.mod_lt _ (by omega)
          rw [pb_step (by omega) (by omega) hr0 (by omega), gcd_step]
          exact pb_all n (x % y) (y % (x % y)) (l9 + 1 + 1) hr2 (by omega) (by omega) (by omega) (by omega)
/-- a fraction's part: the upper number (0) or the lower one -/
def frc (a b w : Int) : Int := if w = 0 then Int.tdiv a ((Nat.gcd a.natAbs b.toNat : Nat) : Int) else Int.tdiv b ((Nat.gcd a.natAbs b.toNat : Nat) : Int)
theorem hx_part_ok {a b w : Int} (ha : -9223372036854775808 < a ∧ a < 9223372036854775808) (hb : 0 < b ∧ b < 9223372036854775808) (hw : I32 w) : hx_part L a b w s = ok L (frc a b w) s := by
  rw [hx_part_eq, if_pos ((lc_pos ⟨by omega, by omega⟩).mpr hb.1), jma_absL_ok ha.1 ha.2, ok_bind]
  dsimp only
  have e93 := fb_93
  obtain ⟨y, hy⟩ := Int.eq_ofNat_of_zero_le (Int.le_of_lt hb.1)
  have hx : a.natAbs < 9223372036854775808 := by omega
  have hg : 0 < Nat.gcd a.natAbs y := Nat.gcd_pos_of_pos_right _ (by omega)
  have hg2 : Nat.gcd a.natAbs y ≤ y := Nat.gcd_le_right _ (by omega)
  have key : hx_part_b2 L a b w ((a.natAbs : Nat) : Int) b 0 s = hx_part_b3 L a b w ((Nat.gcd a.natAbs y : Nat) : Int) s := by
    rw [hy]
    have hr : a.natAbs % y < y := Nat.mod_lt _ (by omega)
    rw [pb_step hx (by omega) (by omega) (by decide), gcd_step, pb_all 91 y (a.natAbs % y) (0 + 1) hr (Nat.lt_trans (by omega) fb_93) (by omega) (by decide) (by decide)]
  rw [key, hx_part_b3_eq, if_neg (fun q => by have := (lc_zero ⟨by omega, by omega⟩).mp q; omega)]
  unfold frc
  rw [show b.toNat = y by omega, w64_id (by omega) (by omega), w64_id (by omega) (by omega), w64_id (by omega) (by omega), hw.w]
  unfold tDiv
  rw [opq_eq, opq_eq]
  by_cases ew : w = 0
  · rw [if_pos ew, if_pos ew, if_neg (by omega)]
  · rw [if_neg ew, if_neg ew, if_neg (by omega)]
theorem hx_part_no {a b w : Int} (hb : -9223372036854775808 ≤ b ∧ b ≤ 0) : hx_part L a b w s = ok L (-1000000000000) s := by
  rw [hx_part_eq, if_neg (fun q => by have := (lc_pos ⟨by omega, by omega⟩).mp q; omega)]
theorem md_div_ok : ∀ (n x y : Nat), y < n → x < 9223372036854775808 → y < 9223372036854775808 → md_divisor_b1 L (x : Int) (y : Int) s = ok L ((Nat.gcd x y : Nat) : Int) s
  | 0, x, y, h, _, _ => by omega
  | n + 1, x, y, h, hx, hy => by
    rw [md_divisor_b1_eq]
    by_cases h0 : y = 0
    · subst h0
      rw [if_neg (fun q => by have := (lc_pos ⟨by decide, by decide⟩).mp q; omega), Nat.gcd_zero_right]
    · have hr : x % y < y := Nat.mod_lt _ (by omega)
      rw [if_pos ((lc_pos ⟨by omega, by omega⟩).mpr (by omega)), if_neg (by rw [w64_id (by omega) (by omega)]; omega), w64_id (by omega) (by omega), w64_id (by omega) (by omega), tMod_nn (by omega) (by omega), gcd_step]
      exact md_div_ok n y (x % y) (by omega) hy (by omega)
theorem md_is_ok {a b : Int} (ha : -9223372036854775808 < a ∧ a < 9223372036854775808) (hb : 0 < b ∧ b < 9223372036854775808) : md_is L a b s = ok L 0 (up (up s 242 0 (frc a b 0)) 242 1 (frc a b 1)) := by
  obtain ⟨y, hy⟩ := Int.eq_ofNat_of_zero_le (Int.le_of_lt hb.1)
  have hx : a.natAbs < 9223372036854775808 := by omega
  have hg : 0 < Nat.gcd a.natAbs y := Nat.gcd_pos_of_pos_right _ (by omega)
  have hg2 : Nat.gcd a.natAbs y ≤ y := Nat.gcd_le_right _ (by omega)
  rw [md_is_eq, md_divisor_eq, jma_absL_ok ha.1 ha.2, ok_bind]
  dsimp only
  rw [jma_absL_ok (by omega) hb.2, ok_bind]
  dsimp only
  rw [show b.natAbs = y by omega, md_div_ok (y + 1) _ y (by omega) hx (by omega), ok_bind]
  dsimp only
  rw [w64_id (by omega) (by omega), if_neg (by omega), if_neg (by omega), w64_id (by omega) (by omega), w64_id (by omega) (by omega)]
  unfold frc tDiv
  rw [opq_eq, opq_eq, show b.toNat = y by omega]
  rfl
theorem md_tells_ok {w x y : Int} (hw : I32 w) : md_tells L w (up (up s 242 0 x) 242 1 y) = ok L (if w = 0 then x else y) (up (up s 242 0 x) 242 1 y) := by
  rw [md_tells_eq, hw.w]
  by_cases e : w = 0
  · rw [if_pos e, if_pos e, up_j (by decide), up_s]
  · rw [if_neg e, if_neg e, up_s]
theorem frc_w {a b w : Int} : (if w = 0 then frc a b 0 else frc a b 1) = frc a b w := by
  unfold frc
  by_cases e : w = 0
  · rw [if_pos e, if_pos rfl, if_pos e]
  · rw [if_neg e, if_neg (by decide), if_neg e]
theorem up01 {x y : Int} : Eqh s (up (up s 242 0 x) 242 1 y) := (Eqh.rf.up (scr_f (by omega))).up (scr_f (by omega))
end
