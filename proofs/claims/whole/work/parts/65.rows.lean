/-! a row, a throw -/
theorem pk_bd {f : Nat → Int} : ∀ {n : Nat}, (∀ k, k < n → 0 ≤ f k ∧ f k ≤ 3) → 0 ≤ pk f n ∧ pk f n < 4 ^ n
  | 0, _ => ⟨Int.le_refl _, by show (0 : Int) < 4 ^ 0; decide⟩
  | n + 1, h => by
    obtain ⟨h1, h2⟩ := pk_bd (fun k hk => h k (by omega)) (n := n)
    obtain ⟨h3, h4⟩ := h n (by omega)
    have hp : (0 : Int) < 4 ^ n := Int.pow_pos (by decide)
    have h5 : 0 ≤ f n * 4 ^ n := Int.mul_nonneg h3 (Int.le_of_lt hp)
    have h6 : f n * 4 ^ n ≤ 3 * 4 ^ n := Int.mul_le_mul_of_nonneg_right h4 (Int.le_of_lt hp)
    rw [pk, Int.pow_succ]
    constructor <;> omega
theorem bOr_add {a b : Int} {n : Nat} (ha : 0 ≤ a) (ha2 : a < 2 ^ n) (hb : 0 ≤ b) (hs : a + b * 2 ^ n < 9223372036854775808) : bOr a (b * 2 ^ n) = a + b * 2 ^ n := by
  obtain ⟨x, rfl⟩ := Int.eq_ofNat_of_zero_le ha
  obtain ⟨y, rfl⟩ := Int.eq_ofNat_of_zero_le hb
  have e : ((y : Int) * 2 ^ n) = ((2 ^ n * y : Nat) : Int) := by
    rw [Int.natCast_mul, Int.natCast_pow, Int.mul_comm]
    rfl
  have hx : x < 2 ^ n := by
    have : ((2 ^ n : Nat) : Int) = 2 ^ n := by rw [Int.natCast_pow]; rfl
    omega
  rw [e] at hs ⊢
  rw [bOr_nat (by omega) (by omega), Nat.or_comm, ← Nat.two_pow_add_eq_or_of_lt hx]
  omega
theorem four_two (n : Nat) : (4 : Int) ^ n = 2 ^ (2 * n) := by rw [Int.pow_mul]; rfl
theorem up_same {s : hh_Sv} {k j : Nat} : up s k j (s k j) = s := by
  funext a b
  unfold up
  split
  next h => rw [h.1, h.2]
  · rfl
theorem pow_le4 {l : Nat} (h : l < 24) : (4 : Int) ^ l ≤ 70368744177664 ∧ (2 : Int) ^ l ≤ 8388608 ∧ (0 : Int) < 4 ^ l ∧ (0 : Int) < 2 ^ l := by
  have h1 : 4 ^ l ≤ 4 ^ 23 := Nat.pow_le_pow_right (by decide) (by omega)
  have h2 : 2 ^ l ≤ 2 ^ 23 := Nat.pow_le_pow_right (by decide) (by omega)
  have e1 : ((4 ^ l : Nat) : Int) = 4 ^ l := by rw [Int.natCast_pow]; rfl
  have e2 : ((2 ^ l : Nat) : Int) = 2 ^ l := by rw [Int.natCast_pow]; rfl
  exact ⟨by omega, by omega, Int.pow_pos (by decide), Int.pow_pos (by decide)⟩
section
variable {L : Nat} {s : hh_Sv}
/-- what a throw writes, in both -/
def adC (s : hh_Sv) (r l : Nat) (b hd gd : Int) : hh_Sv := up (up (up (up s 12 r (s 12 r + b * 2 ^ l)) 13 r (s 13 r + hd * 4 ^ l)) 14 r (s 14 r + gd * 4 ^ l)) 11 r ((l : Int) + 1)
def adM (s : hh_Sv) (r l : Nat) (b hd gd : Int) : hh_Sv := up (up (up (up s 246 (24 * r + l) hd) 247 (24 * r + l) gd) 245 r (s 245 r + b * 2 ^ l)) 244 r ((l : Int) + 1)
theorem co_addThrow_ok {r l : Nat} {a2 hd gd : Int} (hr : r < 60) (hl : s 11 r = (l : Int)) (hl2 : l < 24) (hh : 0 ≤ s 12 r ∧ s 12 r < 2 ^ l) (h13 : 0 ≤ s 13 r ∧ s 13 r < 4 ^ l) (h14 : 0 ≤ s 14 r ∧ s 14 r < 4 ^ l) (hhd : 0 ≤ hd ∧ hd ≤ 3) (hgd : 0 ≤ gd ∧ gd ≤ 3) : co_addThrow L (r : Int) a2 hd gd s = ok L 0 (adC s r l (if w32 a2 = 0 then 0 else 1) hd gd) := by
  obtain ⟨p1, p2, p3, p4⟩ := pow_le4 hl2
  have hin : (0 : Int) ≤ (r : Int) ∧ (r : Int) < 60 := by omega
  have b1 : hd * 4 ^ l ≤ 3 * 4 ^ l := Int.mul_le_mul_of_nonneg_right hhd.2 (Int.le_of_lt p3)
  have b2 : gd * 4 ^ l ≤ 3 * 4 ^ l := Int.mul_le_mul_of_nonneg_right hgd.2 (Int.le_of_lt p3)
  have e13 : bOr (s 13 r) (lShl (w32 hd) (2 * (l : Int))) = s 13 r + hd * 4 ^ l := by
    rw [w32_id (by omega) (by omega), lShl_id (k := 2 * l) (by omega) (by omega), four_two]
    rw [four_two] at b1 p1 h13
    exact bOr_add h13.1 h13.2 hhd.1 (by omega)
  have e14 : bOr (s 14 r) (lShl (w32 gd) (2 * (l : Int))) = s 14 r + gd * 4 ^ l := by
    rw [w32_id (by omega) (by omega), lShl_id (k := 2 * l) (by omega) (by omega), four_two]
    rw [four_two] at b2 p1 h14
    exact bOr_add h14.1 h14.2 hgd.1 (by omega)
  have e12 : ∀ b : Int, b = 0 ∨ b = 1 → bOr (s 12 r) (b * 2 ^ l) = s 12 r + b * 2 ^ l := fun b hb => bOr_add hh.1 hh.2 (by omega) (by rcases hb with rfl | rfl <;> omega)
  rw [co_addThrow_eq, Int.toNat_natCast, hl, if_pos hin, if_pos hin]
  have key : ∀ b k3 : Int, (b = 0 ∨ b = 1) → k3 = b * 2 ^ l → co_addThrow_b2 L (r : Int) hd gd (l : Int) (r : Int) (s 12 r) k3 s = ok L 0 (adC s r l b hd gd) := by
    intro b k3 hb hk
    rw [co_addThrow_b2_eq, Int.toNat_natCast, hk, e12 b hb, e13, e14]
    rw [if_pos hin, if_pos hin, if_pos hin, if_pos hin, if_pos hin, if_pos hin]
    rfl
  by_cases ha : w32 a2 = 0
  · rw [if_pos ha, if_pos ha]
    exact key 0 0 (Or.inl rfl) (by omega)
  · rw [if_neg ha, if_neg ha]
    exact key 1 _ (Or.inr rfl) (iShl_id rfl (by omega))
theorem md_adds_ok {r l : Nat} {a2 hd gd : Int} (hr : r < 60) (hl : s 244 r = (l : Int)) (hl2 : l < 24) (hh : 0 ≤ s 245 r ∧ s 245 r < 2 ^ l) : md_adds L (r : Int) a2 hd gd s = ok L 0 (adM s r l (if w32 a2 = 0 then 0 else 1) hd gd) := by
  obtain ⟨p1, p2, p3, p4⟩ := pow_le4 hl2
  have hin : (0 : Int) ≤ (r : Int) ∧ (r : Int) < 60 := by omega
  have hat : (0 : Int) ≤ 24 * (r : Int) + (l : Int) ∧ 24 * (r : Int) + (l : Int) < 1440 := by omega
  have hn : (24 * (r : Int) + (l : Int)).toNat = 24 * r + l := by omega
  rw [md_adds_eq, Int.toNat_natCast, hl, if_pos hin, if_pos hat, if_pos hat, hn]
  by_cases ha : w32 a2 = 0
  · rw [if_pos ha, if_pos ha, md_adds_b1_eq, Int.toNat_natCast, if_pos hin, if_pos hin]
    unfold adM
    have e : up (up s 246 (24 * r + l) hd) 247 (24 * r + l) gd 244 r = (l : Int) := by rw [up_k (by decide), up_k (by decide), hl]
    have e2 : s 245 r + 0 * 2 ^ l = (up (up s 246 (24 * r + l) hd) 247 (24 * r + l) gd) 245 r := by rw [up_k (by decide), up_k (by decide)]; omega
    rw [e, e2, up_same]
  · rw [if_neg ha, if_neg ha, if_pos hin, if_pos hin, if_pos hin, iShl_id (k := l) rfl (by omega), md_adds_b1_eq, Int.toNat_natCast, if_pos hin, if_pos hin, bOr_add hh.1 hh.2 (by decide) (by omega)]
    unfold adM
    have e : up (up (up s 246 (24 * r + l) hd) 247 (24 * r + l) gd) 245 r (s 245 r + 1 * 2 ^ l) 244 r = (l : Int) := by rw [up_k (by decide), up_k (by decide), up_k (by decide), hl]
    rw [e]
/-- a throw keeps what holds -/
theorem Inv.add {r l : Nat} {b hd gd : Int} (h : Inv s) (hr : (r : Int) < s 242 3) (hl : s 244 r = (l : Int)) (hl2 : l < 24) (hb : b = 0 ∨ b = 1) (hhd : 0 ≤ hd ∧ hd ≤ 3) (hgd : 0 ≤ gd ∧ gd ≤ 3) : Inv (adM (adC s r l b hd gd) r l b hd gd) := by
  obtain ⟨R1, R2, R3⟩ := h.R
  refine h.court ?_ (fun k j h1 h2 h3 => ?_)
  · obtain ⟨c1, c2, c3, c4, c5, c6, c7⟩ := h.1.2.1
    have g : ∀ j, adM (adC s r l b hd gd) r l b hd gd 242 j = s 242 j := fun j => by
      unfold adM adC
      rw [up_k (by decide), up_k (by decide), up_k (by decide), up_k (by decide), up_k (by decide), up_k (by decide), up_k (by decide), up_k (by decide)]
    have g9 : ∀ j, adM (adC s r l b hd gd) r l b hd gd 9 j = s 9 j := fun j => by
      unfold adM adC
      rw [up_k (by decide), up_k (by decide), up_k (by decide), up_k (by decide), up_k (by decide), up_k (by decide), up_k (by decide), up_k (by decide)]
    refine ⟨by rw [g, g9]; exact c1, by rw [g, g9]; exact c2, by rw [g, g9]; exact c3, by rw [g]; exact c4, by rw [g]; exact c5, fun q hq => ?_, fun a q z1 z2 z3 z4 => ?_⟩
    case refine_2 =>
      rw [g] at z3
      have e : q ≠ r := by omega
      unfold adM adC
      rw [up_k (by omega), up_k (by omega), up_k (by omega), up_k (by omega), up_j e, up_j e, up_j e, up_j e]
      exact c7 a q z1 z2 z3 z4
    rw [g] at hq
    have hrow := c6 q hq
    by_cases e : q = r
    · subst e
      obtain ⟨a1, a2, a3, a4, a5, a6, a7, a8, a9⟩ := hrow
      rw [hl] at a2 a5 a6 a7 a8 a9
      rw [Int.toNat_natCast] at a6 a7 a8 a9
      obtain ⟨p1, p2, p3, p4⟩ := pow_le4 hl2
      have v10 : adM (adC s q l b hd gd) q l b hd gd 10 q = s 10 q := by unfold adM adC; rw [up_k (by decide), up_k (by decide), up_k (by decide), up_k (by decide), up_k (by decide), up_k (by decide), up_k (by decide), up_k (by decide)]
      have v11 : adM (adC s q l b hd gd) q l b hd gd 11 q = (l : Int) + 1 := by unfold adM adC; rw [up_k (by decide), up_k (by decide), up_k (by decide), up_k (by decide), up_s]
      have v12 : adM (adC s q l b hd gd) q l b hd gd 12 q = s 12 q + b * 2 ^ l := by unfold adM adC; rw [up_k (by decide), up_k (by decide), up_k (by decide), up_k (by decide), up_k (by decide), up_k (by decide), up_k (by decide), up_s]
      have v13 : adM (adC s q l b hd gd) q l b hd gd 13 q = s 13 q + hd * 4 ^ l := by unfold adM adC; rw [up_k (by decide), up_k (by decide), up_k (by decide), up_k (by decide), up_k (by decide), up_k (by decide), up_s]
      have v14 : adM (adC s q l b hd gd) q l b hd gd 14 q = s 14 q + gd * 4 ^ l := by unfold adM adC; rw [up_k (by decide), up_k (by decide), up_k (by decide), up_k (by decide), up_k (by decide), up_s]
      have w243 : adM (adC s q l b hd gd) q l b hd gd 243 q = s 243 q := by unfold adM adC; rw [up_k (by decide), up_k (by decide), up_k (by decide), up_k (by decide), up_k (by decide), up_k (by decide), up_k (by decide), up_k (by decide)]
      have w244 : adM (adC s q l b hd gd) q l b hd gd 244 q = (l : Int) + 1 := by unfold adM; rw [up_s]
      have w245 : adM (adC s q l b hd gd) q l b hd gd 245 q = s 245 q + b * 2 ^ l := by unfold adM adC; rw [up_k (by decide), up_s, up_k (by decide), up_k (by decide), up_k (by decide), up_k (by decide)]
      have w246 : ∀ j, adM (adC s q l b hd gd) q l b hd gd 246 j = if j = 24 * q + l then hd else s 246 j := fun j => by
        unfold adM adC
        rw [up_k (by decide), up_k (by decide), up_k (by decide)]
        by_cases ej : j = 24 * q + l
        · rw [if_pos ej, ej, up_s]
        · rw [if_neg ej, up_j ej, up_k (by decide), up_k (by decide), up_k (by decide), up_k (by decide)]
      have w247 : ∀ j, adM (adC s q l b hd gd) q l b hd gd 247 j = if j = 24 * q + l then gd else s 247 j := fun j => by
        unfold adM adC
        rw [up_k (by decide), up_k (by decide)]
        by_cases ej : j = 24 * q + l
        · rw [if_pos ej, ej, up_s]
        · rw [if_neg ej, up_j ej, up_k (by decide), up_k (by decide), up_k (by decide), up_k (by decide), up_k (by decide)]
      have el : ((l : Int) + 1).toNat = l + 1 := by omega
      have e6 : ∀ k, k < l → adM (adC s q l b hd gd) q l b hd gd 246 (24 * q + k) = s 246 (24 * q + k) := fun k hk => by rw [w246, if_neg (by omega)]
      have e7 : ∀ k, k < l → adM (adC s q l b hd gd) q l b hd gd 247 (24 * q + k) = s 247 (24 * q + k) := fun k hk => by rw [w247, if_neg (by omega)]
      unfold iv_Row
      rw [v10, v11, v12, v13, v14, w243, w244, w245, el, pk, pk, w246, if_pos rfl, w247, if_pos rfl, pk_congr e6, pk_congr e7]
      refine ⟨a1, rfl, by rw [a3], a4, ⟨by omega, by omega⟩, ⟨?_, ?_⟩, by rw [a7], by rw [a8], fun k hk => ?_⟩
      · rcases hb with rfl | rfl <;> omega
      · rw [Int.pow_succ]
        rcases hb with rfl | rfl <;> omega
      · by_cases ek : k = l
        · subst ek
          rw [w246, if_pos rfl, w247, if_pos rfl]
          exact ⟨hhd, hgd⟩
        · rw [e6 k (by omega), e7 k (by omega)]
          exact a9 k (by omega)
    · refine hrow.eqv (fun a a1 a5 => ?_) ?_ ?_ ?_ (fun k hk => ?_) (fun k hk => ?_) <;> unfold adM adC
      · rw [up_k (by omega), up_k (by omega), up_k (by omega), up_k (by omega), up_j e, up_j e, up_j e, up_j e]
      · rw [up_k (by decide), up_k (by decide), up_k (by decide), up_k (by decide), up_k (by decide), up_k (by decide), up_k (by decide), up_k (by decide)]
      · rw [up_j e, up_k (by decide), up_k (by decide), up_k (by decide), up_k (by decide), up_k (by decide), up_k (by decide), up_k (by decide)]
      · rw [up_k (by decide), up_j e, up_k (by decide), up_k (by decide), up_k (by decide), up_k (by decide), up_k (by decide), up_k (by decide)]
      · rw [up_k (by decide), up_k (by decide), up_k (by decide), up_j (by omega), up_k (by decide), up_k (by decide), up_k (by decide), up_k (by decide)]
      · rw [up_k (by decide), up_k (by decide), up_j (by omega), up_k (by decide), up_k (by decide), up_k (by decide), up_k (by decide), up_k (by decide)]
  · unfold adM adC
    rw [up_k (by omega), up_k (by omega), up_k (by omega), up_k (by omega), up_k (by omega), up_k (by omega), up_k (by omega), up_k (by omega)]
theorem adC_m {r l k : Nat} {b hd gd : Int} {j : Nat} (hk : ¬ (11 ≤ k ∧ k ≤ 14)) : adC s r l b hd gd k j = s k j := by
  unfold adC
  rw [up_k (by omega), up_k (by omega), up_k (by omega), up_k (by omega)]
theorem adM_c {r l k : Nat} {b hd gd : Int} {j : Nat} (hk : ¬ (244 ≤ k ∧ k ≤ 247)) : adM s r l b hd gd k j = s k j := by
  unfold adM
  rw [up_k (by omega), up_k (by omega), up_k (by omega), up_k (by omega)]
theorem c_thrown {a1 a2 a3 a4 : Int} (h1 : I32 a1) (h3 : I32 a3) (h4 : I32 a4) (h : Inv s) : Cal L s (hx_thrown L a1 a2 a3 a4) (md_thrown L a1 a2 a3 a4) w32 := by
  obtain ⟨R1, R2, R3⟩ := h.R
  have hX := hx_thrown_eq L a1 a2 a3 a4 s
  have hY := fun t => md_thrown_eq L a1 a2 a3 a4 t
  rw [tst (co_hasRow_ok h1 (by omega))] at hX
  have none : hx_thrown L a1 a2 a3 a4 s = ok L (-1) s → md_thrown L a1 a2 a3 a4 s = ok L (-1) s → Cal L s (hx_thrown L a1 a2 a3 a4) (md_thrown L a1 a2 a3 a4) w32 := fun e1 e2 => Cal.pure e1 e2 rfl h
  by_cases e1 : 0 ≤ a1 ∧ a1 < s 9 1
  case neg =>
    refine none ?_ ?_
    · rw [hX, if_neg e1]
    · rw [hY, tst (md_isRow_ok h1 (by omega)), if_neg (by omega)]
  rw [if_pos e1] at hX
  dsimp only at hX
  rw [tst (hx_isIn_ok h3 i_lit i_lit)] at hX
  by_cases e3 : 0 ≤ a3 ∧ a3 ≤ 3
  case neg =>
    refine none ?_ ?_
    · rw [hX, if_neg e3]
    · rw [hY, tst (md_isRow_ok h1 (by omega)), if_pos (by omega)]
      dsimp only
      rw [tst (md_isIn_ok h3 i_lit i_lit), if_neg e3]
  rw [if_pos e3] at hX
  dsimp only at hX
  rw [tst (hx_isIn_ok h4 i_lit i_lit)] at hX
  by_cases e4 : 0 ≤ a4 ∧ a4 ≤ 3
  case neg =>
    refine none ?_ ?_
    · rw [hX, if_neg e4]
    · rw [hY, tst (md_isRow_ok h1 (by omega)), if_pos (by omega)]
      dsimp only
      rw [tst (md_isIn_ok h3 i_lit i_lit), if_pos e3]
      dsimp only
      rw [tst (md_isIn_ok h4 i_lit i_lit), if_neg e4]
  rw [if_pos e4] at hX
  dsimp only at hX
  obtain ⟨r, rfl⟩ := Int.eq_ofNat_of_zero_le e1.1
  have hin : (0 : Int) ≤ (r : Int) ∧ (r : Int) < 60 := by omega
  have hr : (r : Int) < s 242 3 := by omega
  have hrow := h.row hr
  have hrow2 := hrow
  obtain ⟨b1, b2, b3, b4, b5, b6, b7, b8, b9⟩ := hrow
  have b2 : s 11 r = s 244 r := b2
  obtain ⟨l, hl⟩ := Int.eq_ofNat_of_zero_le b5.1
  rw [Int.toNat_natCast] at hX
  rw [if_pos hin] at hX
  have e24 : w32 (s 11 r) = (l : Int) := by rw [b2, hl, w32_id (by omega) (by omega)]
  have f24 : w32 (s 244 r) = (l : Int) := by rw [hl, w32_id (by omega) (by omega)]
  by_cases e5 : (l : Int) < 24
  case neg =>
    refine none ?_ ?_
    · rw [hX, if_neg (show ¬ w32 (s 11 r) < 24 by rw [e24]; exact e5)]
    · rw [hY, tst (md_isRow_ok h1 (by omega)), if_pos (by omega)]
      dsimp only
      rw [tst (md_isIn_ok h3 i_lit i_lit), if_pos e3]
      dsimp only
      rw [tst (md_isIn_ok h4 i_lit i_lit), if_pos e4, if_pos hin, Int.toNat_natCast, if_pos (show w32 (s 244 r) = 24 by rw [f24]; omega)]
  rw [hl, Int.toNat_natCast] at b6 b7 b8 b9
  have q13 := pk_bd (f := fun k => s 246 (24 * r + k)) (n := l) (fun k hk => (b9 k hk).1)
  have q14 := pk_bd (f := fun k => s 247 (24 * r + k)) (n := l) (fun k hk => (b9 k hk).2)
  have b3 : s 12 r = s 245 r := b3
  have b7 : s 13 r = _ := b7
  have b8 : s 14 r = _ := b8
  have eC := co_addThrow_ok (L := L) (s := s) (r := r) (l := l) (a2 := a2) (hd := a3) (gd := a4) (by omega) (b2.trans hl) (by omega) (by rw [b3]; exact b6) (by rw [b7]; exact q13) (by rw [b8]; exact q14) e3 e4
  rw [if_pos (show w32 (s 11 r) < 24 by rw [e24]; exact e5), eC, ok_bind] at hX
  dsimp only at hX
  rw [if_pos hin] at hX
  have n11 : adC s r l (if w32 a2 = 0 then 0 else 1) a3 a4 11 r = (l : Int) + 1 := by unfold adC; rw [up_s]
  rw [n11] at hX
  have m : ∀ {k j : Nat}, ¬ (11 ≤ k ∧ k ≤ 14) → adC s r l (if w32 a2 = 0 then 0 else 1) a3 a4 k j = s k j := fun hk => adC_m hk
  have eM := md_adds_ok (L := L) (s := adC s r l (if w32 a2 = 0 then 0 else 1) a3 a4) (r := r) (l := l) (a2 := a2) (hd := a3) (gd := a4) (by omega) (by rw [m (by decide)]; exact hl) (by omega) (by rw [m (by decide)]; exact b6)
  have hYY : md_thrown L (r : Int) a2 a3 a4 (adC s r l (if w32 a2 = 0 then 0 else 1) a3 a4) = ok L ((l : Int) + 1) (adM (adC s r l (if w32 a2 = 0 then 0 else 1) a3 a4) r l (if w32 a2 = 0 then 0 else 1) a3 a4) := by
    rw [hY, tst (md_isRow_ok h1 (by rw [m (by decide)]; omega)), m (by decide), if_pos (by omega)]
    dsimp only
    rw [tst (md_isIn_ok h3 i_lit i_lit), if_pos e3]
    dsimp only
    rw [tst (md_isIn_ok h4 i_lit i_lit), if_pos e4, if_pos hin, Int.toNat_natCast, if_neg (show ¬ w32 (adC s r l (if w32 a2 = 0 then 0 else 1) a3 a4 244 r) = 24 by rw [m (by decide), f24]; omega), eM, ok_bind, if_pos hin]
    dsimp only
    have n244 : adM (adC s r l (if w32 a2 = 0 then 0 else 1) a3 a4) r l (if w32 a2 = 0 then 0 else 1) a3 a4 244 r = (l : Int) + 1 := by unfold adM; rw [up_s]
    rw [n244]
  refine ⟨_, _, _, _, hX, hYY, rfl, h.add hr hl (by omega) (by split <;> omega) e3 e4, fun k hk => funext fun j => m (by omega), fun k hk => funext fun j => (adM_c (by omega)).trans (m (by omega))⟩
end
