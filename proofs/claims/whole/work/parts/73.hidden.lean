/-! hidden -/
def hf (x p : Nat) (hot cold : Int) (k : Nat) : Int := if bt x k = 1 then (if bt p k = 1 then hot else cold) else 10 - (if bt p k = 1 then hot else cold)
def sf (p : Nat) (st : Int) (k : Nat) : Int := if k = 0 then 1 else if bt p k = bt p (k - 1) then st else 10 - st
/-- a path's weight -/
def wt (x p : Nat) (st hot cold : Int) : Nat → Int
  | 0 => 1
  | k + 1 => wt x p st hot cold k * hf x p hot cold k * sf p st k
section
variable {L : Nat} {s : hh_Sv}
theorem co_isHitAt_ok {r x k : Nat} (hr : r < 60) (hx : s 12 r = (x : Int)) (hx2 : x < 16777216) (hk : k < 32) : co_isHitAt L (r : Int) (k : Int) s = ok L (zb (bt x k = 1)) s := by
  have hb := bt_01 x k
  rw [co_isHitAt_eq, if_pos (by omega), Int.toNat_natCast, hx, bit_at (by omega) rfl hk, w32_id (by omega) (by omega)]
  by_cases e : bt x k = 1
  · rw [if_pos (by omega), zb_1 e]
  · rw [if_neg (by omega), zb_0 e]
theorem hx_pw_ok {r x n p : Nat} {st hot cold : Int} (hr : r < 60) (hx : s 12 r = (x : Int)) (hx2 : x < 16777216) (hn : s 11 r = (n : Int)) (hn2 : n ≤ 24) (hp : p < 2147483648) (h1 : 0 ≤ st ∧ st ≤ 10) (h2 : 0 ≤ hot ∧ hot ≤ 10) (h3 : 0 ≤ cold ∧ cold ≤ 10) : ∀ (j i : Nat), i + j = n → hx_pathWeight_b1 L (r : Int) (p : Int) st hot cold (wt x p st hot cold i) (i : Int) s = ok L (wt x p st hot cold n) s
  | 0, i, e => by
    rw [Nat.add_zero] at e
    subst e
    rw [hx_pathWeight_b1_eq, if_pos (by omega), if_neg (show ¬ w32 (i : Int) < w32 (s 11 (r : Int).toNat) by rw [Int.toNat_natCast, hn]; omega)]
  | j + 1, i, e => by
    have ih := hx_pw_ok (p := p) hr hx hx2 hn hn2 hp h1 h2 h3 j (i + 1) (by omega)
    have hb := bt_01 p i
    have hb2 := bt_01 p (i - 1)
    have b8 : ∀ z c : Int, z * c = wt x p st hot cold (i + 1) → hx_pathWeight_b8 L (r : Int) (p : Int) st hot cold (i : Int) z c s = ok L (wt x p st hot cold n) s := fun z c hz => by
      rw [hx_pathWeight_b8_eq, hz]
      exact ih
    have b4 : ∀ z : Int, z * hf x p hot cold i = wt x p st hot cold (i + 1) → hx_pathWeight_b4 L (r : Int) (p : Int) st hot cold z (i : Int) ((bt p i : Nat) : Int) s = ok L (wt x p st hot cold n) s := fun z hz => by
      have b6 : ∀ c : Int, 0 ≤ c ∧ c ≤ 10 → (if bt p i = 1 then hot else cold) = c → hx_pathWeight_b6 L (r : Int) (p : Int) st hot cold z (i : Int) c s = ok L (wt x p st hot cold n) s := fun c hc ec => by
        rw [hx_pathWeight_b6_eq, tst (co_isHitAt_ok hr hx hx2 (by omega))]
        unfold hf at hz
        rw [ec] at hz
        by_cases e1 : bt x i = 1
        · rw [if_pos e1, w32_id (by omega) (by omega)]
          rw [if_pos e1] at hz
          exact b8 _ _ hz
        · rw [if_neg e1, w32_id (by omega) (by omega)]
          rw [if_neg e1] at hz
          exact b8 _ _ hz
      rw [hx_pathWeight_b4_eq, w32_id (by omega) (by omega)]
      by_cases e1 : bt p i = 1
      · rw [if_pos (by omega)]
        exact b6 _ h2 (if_pos e1)
      · rw [if_neg (by omega)]
        exact b6 _ h3 (if_neg e1)
    rw [hx_pathWeight_b1_eq, if_pos (by omega), if_pos (show w32 (i : Int) < w32 (s 11 (r : Int).toNat) by rw [Int.toNat_natCast, hn, w32_id (by omega) (by omega), w32_id (by omega) (by omega)]; omega), bit_at hp rfl (by omega), w32_id (i := (i : Int)) (by omega) (by omega)]
    have ew : wt x p st hot cold (i + 1) = wt x p st hot cold i * hf x p hot cold i * sf p st i := rfl
    by_cases e0 : 0 < (i : Int)
    · rw [if_pos e0, bit_at (k := i - 1) hp (by omega) (by omega), w32_id (by omega) (by omega), w32_id (by omega) (by omega)]
      have es : ∀ c : Int, sf p st i = c → wt x p st hot cold i * c * hf x p hot cold i = wt x p st hot cold (i + 1) := fun c hc => by
        rw [ew, hc, Int.mul_assoc, Int.mul_comm c, ← Int.mul_assoc]
      by_cases e1 : bt p i = bt p (i - 1)
      · rw [if_pos (by omega), hx_pathWeight_b3_eq, w32_id (by omega) (by omega)]
        exact b4 _ (es st (by unfold sf; rw [if_neg (by omega), if_pos e1]))
      · rw [if_neg (by omega), hx_pathWeight_b3_eq, w32_id (by omega) (by omega)]
        exact b4 _ (es (10 - st) (by unfold sf; rw [if_neg (by omega), if_neg e1]))
    · rw [if_neg e0]
      refine b4 _ ?_
      rw [ew, sf, if_pos (by omega), Int.mul_one]
theorem md_pw_ok {x n p : Nat} {st hot cold : Int} (hx2 : x < 16777216) (hn2 : n ≤ 24) (hp : p < 16777216) (h1 : 0 ≤ st ∧ st ≤ 10) (h2 : 0 ≤ hot ∧ hot ≤ 10) (h3 : 0 ≤ cold ∧ cold ≤ 10) : ∀ (j i : Nat), i + j = n → md_weightOf_b1 L (x : Int) (n : Int) (p : Int) st hot cold (wt x p st hot cold i) (i : Int) s = ok L (wt x p st hot cold n) s
  | 0, i, e => by
    rw [Nat.add_zero] at e
    subst e
    rw [md_weightOf_b1_eq, if_neg (by omega)]
  | j + 1, i, e => by
    have ih := md_pw_ok (p := p) hx2 hn2 hp h1 h2 h3 j (i + 1) (by omega)
    have hb := bt_01 p i
    have hb2 := bt_01 p (i - 1)
    have hb3 := bt_01 x i
    have b7 : ∀ z c : Int, z * c = wt x p st hot cold (i + 1) → md_weightOf_b7 L (x : Int) (n : Int) (p : Int) st hot cold (i : Int) z c s = ok L (wt x p st hot cold n) s := fun z c hz => by
      rw [md_weightOf_b7_eq, hz]
      exact ih
    have ew : wt x p st hot cold (i + 1) = wt x p st hot cold i * hf x p hot cold i * sf p st i := rfl
    have b5 : ∀ c : Int, c = hf x p hot cold i → md_weightOf_b5 L (x : Int) (n : Int) (p : Int) st hot cold (i : Int) (wt x p st hot cold i) c s = ok L (wt x p st hot cold n) s := fun c hc => by
      rw [md_weightOf_b5_eq, w32_id (i := (i : Int)) (by omega) (by omega), hc]
      by_cases e0 : 0 < (i : Int)
      · rw [if_pos e0, md_isOf_ok hp rfl (by omega), ok_bind]
        dsimp only
        rw [md_isOf_ok (k := i - 1) hp (by omega) (by omega), ok_bind]
        dsimp only
        rw [w32_id (by omega) (by omega), w32_id (by omega) (by omega)]
        by_cases e1 : bt p i = bt p (i - 1)
        · rw [if_pos (by omega), w32_id (by omega) (by omega)]
          refine b7 _ _ ?_
          rw [ew, sf, if_neg (by omega), if_pos e1]
        · rw [if_neg (by omega), w32_id (by omega) (by omega)]
          refine b7 _ _ ?_
          rw [ew, sf, if_neg (by omega), if_neg e1]
      · have e2 : wt x p st hot cold i * hf x p hot cold i = wt x p st hot cold (i + 1) := by rw [ew, sf, if_pos (by omega), Int.mul_one]
        rw [if_neg e0, e2]
        exact ih
    have b3 : ∀ c : Int, 0 ≤ c ∧ c ≤ 10 → (if bt p i = 1 then hot else cold) = c → md_weightOf_b3 L (x : Int) (n : Int) (p : Int) st hot cold (wt x p st hot cold i) (i : Int) c s = ok L (wt x p st hot cold n) s := fun c hc ec => by
      rw [md_weightOf_b3_eq, md_isOf_ok hx2 rfl (by omega), ok_bind]
      dsimp only
      rw [w32_id (i := ((bt x i : Nat) : Int)) (by omega) (by omega)]
      by_cases e1 : bt x i = 1
      · rw [if_pos (by omega), w32_id (by omega) (by omega)]
        refine b5 _ ?_
        rw [hf, if_pos e1, ec]
      · rw [if_neg (by omega), w32_id (by omega) (by omega)]
        refine b5 _ ?_
        rw [hf, if_neg e1, ec]
    rw [md_weightOf_b1_eq, if_pos (by rw [w32_id (by omega) (by omega), w32_id (by omega) (by omega)]; omega), md_isOf_ok hp rfl (by omega), ok_bind]
    dsimp only
    rw [w32_id (by omega) (by omega)]
    by_cases e1 : bt p i = 1
    · rw [if_pos (by omega)]
      exact b3 _ h2 (if_pos e1)
    · rw [if_neg (by omega)]
      exact b3 _ h3 (if_neg e1)
theorem c_hidden {a1 a2 a3 a4 a5 : Int} (h1 : I32 a1) (h2 : I32 a2) (h3 : I32 a3) (h4 : I32 a4) (h5 : I32 a5) (h : Inv s) : Cal L s (hx_hidden L a1 a2 a3 a4 a5) (md_hidden L a1 a2 a3 a4 a5) w64 := by
  obtain ⟨R1, R2, R3⟩ := h.R
  have hX := hx_hidden_eq L a1 a2 a3 a4 a5 s
  have hY := md_hidden_eq L a1 a2 a3 a4 a5 s
  rw [tst (co_hasRow_ok h1 (by omega))] at hX
  rw [tst (md_isRow_ok h1 (by omega))] at hY
  by_cases e1 : 0 ≤ a1 ∧ a1 < s 242 3
  case neg => exact Cal.pure (hX.trans (if_neg (by omega))) (hY.trans (if_neg e1)) rfl h
  rw [if_pos (by omega)] at hX
  rw [if_pos e1] at hY
  dsimp only at hX hY
  obtain ⟨r, rfl⟩ := Int.eq_ofNat_of_zero_le e1.1
  obtain ⟨x, n, x1, x2, n1, n2, n3, n4, n5⟩ := row_x h (r := r) e1.2
  have hin : (0 : Int) ≤ (r : Int) ∧ (r : Int) < 60 := by omega
  rw [tst (hx_isIn_ok h2 i_lit i_lit)] at hX
  dsimp only at hX
  rw [tst (hx_isIn_ok h3 i_lit i_lit)] at hX
  dsimp only at hX
  rw [tst (hx_isIn_ok h4 i_lit i_lit)] at hX
  dsimp only at hX
  rw [tst (hx_isIn_ok h5 i_lit i_lit)] at hX
  dsimp only at hX
  rw [if_pos hin, Int.toNat_natCast, n2, tst (hx_isIn_ok (a := (n : Int)) ⟨by omega, by omega⟩ i_lit i_lit)] at hX
  dsimp only at hX
  rw [if_pos hin, Int.toNat_natCast, n1, tst (md_isIn_ok (a := (n : Int)) ⟨by omega, by omega⟩ i_lit i_lit)] at hY
  dsimp only at hY
  rw [tst (md_isIn_ok h2 i_lit i_lit)] at hY
  dsimp only at hY
  rw [tst (md_isIn_ok h3 i_lit i_lit)] at hY
  dsimp only at hY
  rw [tst (md_isIn_ok h4 i_lit i_lit)] at hY
  dsimp only at hY
  rw [tst (md_isIn_ok h5 i_lit i_lit)] at hY
  dsimp only at hY
  by_cases c : (1 ≤ (n : Int) ∧ (n : Int) ≤ 9) ∧ (0 ≤ a2 ∧ a2 ≤ 10) ∧ (0 ≤ a3 ∧ a3 ≤ 10) ∧ (0 ≤ a4 ∧ a4 ≤ 10) ∧ (0 ≤ a5 ∧ a5 ≤ 2)
  case neg =>
    refine Cal.pure (v := -1) (v2 := -1) (hX.trans ?_) (hY.trans ?_) rfl h
    · (repeat' split) <;> first | rfl | exact absurd ⟨by assumption, by assumption, by assumption, by assumption, by assumption⟩ c
    · (repeat' split) <;> first | rfl | exact absurd ⟨by assumption, by assumption, by assumption, by assumption, by assumption⟩ c
  obtain ⟨d1, d2, d3, d4, d5⟩ := c
  rw [if_pos d2, if_pos d3, if_pos d4, if_pos d5, if_pos d1] at hX
  rw [if_pos d1, if_pos d2, if_pos d3, if_pos d4, if_pos d5] at hY
  have hp2 : 2 ^ n ≤ 2 ^ 9 := Nat.pow_le_pow_right (by decide) (by omega)
  have e11 : w32 (iShl 1 (s 11 (r : Int).toNat)) = ((2 ^ n : Nat) : Int) := by
    rw [Int.toNat_natCast, n2, iShl_id rfl (by omega), Int.one_mul, ← p2_c, w32_id (by omega) (by omega)]
  have e244 : w32 (iShl 1 (s 244 (r : Int).toNat)) = ((2 ^ n : Nat) : Int) := by
    rw [Int.toNat_natCast, n1, iShl_id rfl (by omega), Int.one_mul, ← p2_c, w32_id (by omega) (by omega)]
  have key : ∀ (j p : Nat) (al be li : Int), p + j = 2 ^ n → ∃ v, hx_hidden_b3 L (r : Int) a2 a3 a4 a5 al be li (p : Int) s = ok L v s ∧ md_hidden_b3 L (r : Int) a2 a3 a4 a5 li be al (p : Int) s = ok L v s := by
    intro j
    induction j with
    | zero =>
      intro p al be li e
      rw [hx_hidden_b3_eq, md_hidden_b3_eq, if_pos hin, if_pos hin, if_neg (show ¬ w32 (p : Int) < w32 (iShl 1 (s 11 (r : Int).toNat)) by rw [e11, w32_id (by omega) (by omega)]; omega), if_neg (show ¬ w32 (p : Int) < w32 (iShl 1 (s 244 (r : Int).toNat)) by rw [e244, w32_id (by omega) (by omega)]; omega)]
      by_cases q1 : w32 a5 = 0
      · exact ⟨_, if_pos q1, if_pos q1⟩
      · rw [if_neg q1]
        by_cases q2 : w32 a5 = 1
        · exact ⟨_, if_pos q2, if_pos q2⟩
        · exact ⟨_, if_neg q2, if_neg q2⟩
    | succ j ih =>
      intro p al be li e
      have hw := hx_pw_ok (L := L) (s := s) (r := r) (x := x) (n := n) (p := p) (by omega) x2 n5 n2 n3 (by omega) d2 d3 d4 n 0 (by omega)
      have hw2 := md_pw_ok (L := L) (s := s) (x := x) (n := n) (p := p) n5 n3 (by omega) d2 d3 d4 n 0 (by omega)
      have hw : hx_pathWeight_b1 L (r : Int) (p : Int) a2 a3 a4 1 0 s = _ := hw
      have hw2 : md_weightOf_b1 L (x : Int) (n : Int) (p : Int) a2 a3 a4 1 0 s = _ := hw2
      rw [hx_hidden_b3_eq, md_hidden_b3_eq, if_pos hin, if_pos hin, if_pos (show w32 (p : Int) < w32 (iShl 1 (s 11 (r : Int).toNat)) by rw [e11, w32_id (by omega) (by omega)]; omega), if_pos (show w32 (p : Int) < w32 (iShl 1 (s 244 (r : Int).toNat)) by rw [e244, w32_id (by omega) (by omega)]; omega), if_pos hin, if_pos hin, hx_pathWeight_eq, hw, Int.toNat_natCast, x1, n1, md_weightOf_eq, hw2, ok_bind, ok_bind]
      dsimp only
      by_cases q : 0 < w32 (lCmp (wt x p a2 a3 a4 n) be)
      · rw [if_pos q, if_pos q]
        exact ih (p + 1) _ _ _ (by omega)
      · rw [if_neg q, if_neg q]
        exact ih (p + 1) _ _ _ (by omega)
  obtain ⟨v, v1, v2⟩ := key (2 ^ n) 0 0 (-1) 0 (by omega)
  have v1 : hx_hidden_b3 L (r : Int) a2 a3 a4 a5 0 (-1) 0 0 s = ok L v s := v1
  have v2 : md_hidden_b3 L (r : Int) a2 a3 a4 a5 0 (-1) 0 0 s = ok L v s := v2
  exact Cal.pure (hX.trans v1) (hY.trans v2) rfl h
end
