/-! a new row; sums over rows -/
section
variable {L : Nat} {s : hh_Sv}
theorem c_row {a : Int} (ha : I32 a) (h : Inv s) : Cal L s (hx_row L a) (md_row L a) w32 := by
  obtain ⟨T1, T2, T3⟩ := h.T
  obtain ⟨R1, R2, R3⟩ := h.R
  have hX := hx_row_eq L a s
  have hY := fun t => md_row_eq L a t
  rw [tst (co_hasThrower_ok ha (by omega))] at hX
  by_cases e1 : 0 ≤ a ∧ a < s 9 0
  case neg =>
    refine Cal.pure (v := -1) (v2 := -1) ?_ ?_ rfl h
    · rw [hX, if_neg e1]
    · rw [hY, tst (md_isThrower_ok ha (by omega)), if_neg (by omega)]
  rw [if_pos e1] at hX
  dsimp only at hX
  have w1 : w32 (s 9 1) = s 242 3 := by rw [R1, w32_id (by omega) (by omega)]
  have w2 : w32 (s 242 3) = s 242 3 := w32_id (by omega) (by omega)
  by_cases e2 : s 242 3 < 60
  case neg =>
    refine Cal.pure (v := -1) (v2 := -1) ?_ ?_ rfl h
    · rw [hX, if_neg (show ¬ w32 (s 9 1) < 60 by rw [w1]; exact e2)]
    · rw [hY, tst (md_isThrower_ok ha (by omega)), if_pos (by omega)]
      dsimp only
      rw [if_pos (show w32 (s 242 3) = 60 by rw [w2]; omega)]
  rw [if_pos (show w32 (s 9 1) < 60 by rw [w1]; exact e2), co_addRow_eq] at hX
  have hin : 0 ≤ s 9 1 ∧ s 9 1 < 60 := by omega
  rw [if_pos hin, ok_bind] at hX
  dsimp only at hX
  obtain ⟨r, hr⟩ := Int.eq_ofNat_of_zero_le R2
  have hr9 : s 9 1 = (r : Int) := R1.trans hr
  rw [hr9, Int.toNat_natCast] at hX
  generalize hs1 : up (up s 10 r a) 9 1 ((r : Int) + 1) = s1 at hX
  have m1 : ∀ k j, ¬ (9 ≤ k ∧ k ≤ 14) → s1 k j = s k j := fun k j hk => by
    rw [← hs1, up_k (by omega), up_k (by omega)]
  have q1 : ∀ j, j ≠ 1 → s1 9 j = s 9 j := fun j hj => by
    rw [← hs1, up_j hj, up_k (by decide)]
  have q2 : s1 9 1 = (r : Int) + 1 := by rw [← hs1, up_s]
  have q3 : ∀ k j, 10 ≤ k → k ≤ 14 → s1 k j = if j = r then (if k = 10 then a else 0) else s k j := fun k j k1 k2 => by
    rw [← hs1, up_k (by omega)]
    by_cases ej : j = r
    · subst ej
      rw [if_pos rfl]
      rcases (show k = 10 ∨ k = 11 ∨ k = 12 ∨ k = 13 ∨ k = 14 by omega) with rfl | rfl | rfl | rfl | rfl
      · rw [up_s]; rfl
      · rw [up_k (by decide), if_neg (by decide)]; exact h.zr (a := 2) (by decide) (by decide) (by omega) (by omega)
      · rw [up_k (by decide), if_neg (by decide)]; exact h.zr (a := 3) (by decide) (by decide) (by omega) (by omega)
      · rw [up_k (by decide), if_neg (by decide)]; exact h.zr (a := 4) (by decide) (by decide) (by omega) (by omega)
      · rw [up_k (by decide), if_neg (by decide)]; exact h.zr (a := 5) (by decide) (by decide) (by omega) (by omega)
    · rw [if_neg ej]
      by_cases ek : k = 10
      · subst ek; rw [up_j ej]
      · rw [up_k ek]
  have hYY : md_row L a s1 = ok L ((r : Int) + 1 - 1) (up (up (up (up s1 243 r a) 244 r 0) 245 r 0) 242 3 ((r : Int) + 1)) := by
    rw [hY, tst (md_isThrower_ok ha (by rw [m1 _ _ (by omega)]; omega)), if_pos (by rw [m1 _ _ (by omega)]; omega)]
    dsimp only
    have g3 : s1 242 3 = (r : Int) := by rw [m1 _ _ (by omega)]; exact hr
    have hin2 : 0 ≤ s1 242 3 ∧ s1 242 3 < 60 := by rw [g3]; omega
    rw [if_neg (show ¬ w32 (s1 242 3) = 60 by rw [g3, w32_id (by omega) (by omega)]; omega), if_pos hin2, if_pos hin2, if_pos hin2, g3, Int.toNat_natCast]
  generalize hs2 : up (up (up (up s1 243 r a) 244 r 0) 245 r 0) 242 3 ((r : Int) + 1) = s2 at hYY
  have m2 : ∀ k j, ¬ (k = 242 ∧ j = 3) → ¬ (243 ≤ k ∧ k ≤ 245) → s2 k j = s1 k j := fun k j h1 h2 => by
    rw [← hs2]
    by_cases e : k = 242
    · subst e
      rw [up_j (by omega), up_k (by decide), up_k (by decide), up_k (by decide)]
    · rw [up_k e, up_k (by omega), up_k (by omega), up_k (by omega)]
  have p2 : s2 242 3 = (r : Int) + 1 := by rw [← hs2, up_s]
  have p3 : ∀ k j, 243 ≤ k → k ≤ 245 → s2 k j = if j = r then (if k = 243 then a else 0) else s k j := fun k j k1 k2 => by
    rw [← hs2, up_k (by omega)]
    by_cases ej : j = r
    · subst ej
      rw [if_pos rfl]
      rcases (show k = 243 ∨ k = 244 ∨ k = 245 by omega) with rfl | rfl | rfl
      · rw [up_k (by decide), up_k (by decide), up_s]; rfl
      · rw [up_k (by decide), up_s]; rfl
      · rw [up_s]; rfl
    · rw [up_j ej, up_j ej, up_j ej, if_neg ej, m1 _ _ (by omega)]
  refine ⟨_, _, _, _, hX, hYY, rfl, ?_, fun k hk => funext fun j => m1 _ _ (by omega), fun k hk => funext fun j => (m2 _ _ (by omega) (by omega)).trans (m1 _ _ (by omega))⟩
  refine h.court ?_ (fun k j h1 h2 h3 => (m2 _ _ (by omega) (by omega)).trans (m1 _ _ (by omega)))
  obtain ⟨c1, c2, c3, c4, c5, c6, c7⟩ := h.1.2.1
  refine ⟨?_, ?_, ?_, ?_, ?_, fun n hn => ?_, fun b n z1 z2 z3 z4 => ?_⟩
  · rw [m2 _ _ (by decide) (by decide), q1 _ (by decide), m2 _ _ (by decide) (by decide), m1 _ _ (by decide)]; exact c1
  · rw [m2 _ _ (by decide) (by decide), q2, p2]
  · rw [m2 _ _ (by decide) (by decide), q1 _ (by decide), m2 _ _ (by decide) (by decide), m1 _ _ (by decide)]; exact c3
  · rw [m2 _ _ (by decide) (by decide), m1 _ _ (by decide)]; exact c4
  · rw [p2]; omega
  · rw [p2] at hn
    by_cases en : n = r
    · subst en
      have u : ∀ k, 10 ≤ k → k ≤ 14 → s2 k n = if k = 10 then a else 0 := fun k k1 k2 => by rw [m2 _ _ (by omega) (by omega), q3 _ _ k1 k2, if_pos rfl]
      have w : ∀ k, 243 ≤ k → k ≤ 245 → s2 k n = if k = 243 then a else 0 := fun k k1 k2 => by rw [p3 _ _ k1 k2, if_pos rfl]
      have w3 : s2 243 n = a := w 243 (by decide) (by decide)
      have w4 : s2 244 n = 0 := w 244 (by decide) (by decide)
      have w5 : s2 245 n = 0 := w 245 (by decide) (by decide)
      unfold iv_Row
      rw [w3, w4, w5]
      exact ⟨u 10 (by decide) (by decide), u 11 (by decide) (by decide), u 12 (by decide) (by decide), ⟨by omega, by omega⟩, ⟨by decide, by decide⟩, ⟨by decide, by decide⟩, u 13 (by decide) (by decide), u 14 (by decide) (by decide), fun k hk => absurd hk (Nat.not_lt_zero k)⟩
    · refine (c6 n (by omega)).eqv (fun b b1 b5 => ?_) ?_ ?_ ?_ (fun k hk => ?_) (fun k hk => ?_)
      · rw [m2 _ _ (by omega) (by omega), q3 _ _ (by omega) (by omega), if_neg en]
      · rw [p3 _ _ (by decide) (by decide), if_neg en]
      · rw [p3 _ _ (by decide) (by decide), if_neg en]
      · rw [p3 _ _ (by decide) (by decide), if_neg en]
      · rw [m2 _ _ (by omega) (by omega), m1 _ _ (by omega)]
      · rw [m2 _ _ (by omega) (by omega), m1 _ _ (by omega)]
  · rw [p2] at z3
    rw [m2 _ _ (by omega) (by omega), q3 _ _ (by omega) (by omega), if_neg (by omega)]
    exact c7 b n z1 z2 (by omega) z4
/-! sums over the rows of one, or of all -/
/-- the row r is asked for -/
def of (s : hh_Sv) (t : Int) (r : Nat) : Prop := t = -1 ∨ s 243 r = t
theorem co_isOf_ok {t : Int} {r : Nat} (h : Inv s) (ht : I32 t) (hr : (r : Int) < s 242 3) : co_isOf L (r : Int) t s = ok L (zb (t = -1 ∨ s 243 r = t)) s := by
  obtain ⟨R1, R2, R3⟩ := h.R
  obtain ⟨b1, b2, b3, b4, b5, b6, b7, b8, b9⟩ := h.row hr
  have b1 : s 10 r = s 243 r := b1
  rw [co_isOf_eq, ht.w]
  by_cases e : t = -1
  · rw [if_pos e, zb_1 (Or.inl e)]
  · rw [if_neg e, if_pos (by omega), Int.toNat_natCast]
    by_cases e2 : s 243 r = t
    · rw [if_pos (show w32 (s 10 r) = t by rw [b1, w32_id (by omega) (by omega)]; exact e2), zb_1 (Or.inr e2)]
    · rw [if_neg (show ¬ w32 (s 10 r) = t by rw [b1, w32_id (by omega) (by omega)]; exact e2), zb_0 (by omega)]
def fThrows (s : hh_Sv) (t : Int) (r : Nat) : Int := if t = -1 ∨ s 243 r = t then s 244 r else 0
def fHits (s : hh_Sv) (t : Int) (r : Nat) : Int := if t = -1 ∨ s 243 r = t then ((pcf 32 (s 245 r).toNat : Nat) : Int) else 0
theorem row_n (h : Inv s) : ∃ n : Nat, s 242 3 = (n : Int) ∧ n ≤ 60 := ⟨(s 242 3).toNat, by have := h.R; omega, by have := h.R; omega⟩
theorem row_h (h : Inv s) {r : Nat} (hr : (r : Int) < s 242 3) : ∃ x : Nat, s 245 r = (x : Int) ∧ s 12 r = (x : Int) ∧ x < 16777216 := by
  obtain ⟨b1, b2, b3, b4, b5, b6, b7, b8, b9⟩ := h.row hr
  have b3 : s 12 r = s 245 r := b3
  have h2 : 2 ^ (s 244 r).toNat ≤ 2 ^ 24 := Nat.pow_le_pow_right (by decide) (by omega)
  have e2 : ((2 ^ (s 244 r).toNat : Nat) : Int) = 2 ^ (s 244 r).toNat := by rw [Int.natCast_pow]; rfl
  refine ⟨(s 245 r).toNat, by omega, by omega, ?_⟩
  have : ((s 245 r).toNat : Int) < ((2 ^ 24 : Nat) : Int) := by omega
  exact Int.ofNat_lt.mp this
theorem co_countThrows_ok {t : Int} (h : Inv s) (ht : I32 t) : co_countThrows L t s = ok L (sg (fThrows s t) (s 242 3).toNat) s := by
  obtain ⟨n, hn, hn2⟩ := row_n h
  obtain ⟨R1, R2, R3⟩ := h.R
  rw [co_countThrows_eq, hn, Int.toNat_natCast]
  have e0 : w32 (s 9 1) = (n : Int) := by rw [R1, hn, w32_id (by omega) (by omega)]
  refine lp_sum (L := L) (n := n) (f := fThrows s t) (s := s) (fun z i => co_countThrows_b1 L t z i s) (fun i z hi hz => ?_) ?_ n 0 (by omega)
  · show co_countThrows_b1 L t z (i : Int) s = co_countThrows_b1 L t (z + fThrows s t i) ((i : Int) + 1) s
    rw [co_countThrows_b1_eq, if_pos (show w32 (i : Int) < w32 (s 9 1) by rw [e0, w32_id (by omega) (by omega)]; omega), co_isOf_ok h ht (by omega), ok_bind]
    obtain ⟨b1, b2, -⟩ := h.row (r := i) (by omega)
    have b2 : s 11 i = s 244 i := b2
    dsimp only
    unfold fThrows
    by_cases e : t = -1 ∨ s 243 i = t
    · rw [if_neg (show ¬ w32 (zb (t = -1 ∨ s 243 i = t)) = 0 from fun q => zb_w.mp q e), if_pos (by omega), Int.toNat_natCast, b2, co_countThrows_b3_eq, if_pos e]
    · rw [if_pos (zb_w.mpr e), co_countThrows_b3_eq, if_neg e]
  · show co_countThrows_b1 L t (sg (fThrows s t) n) (n : Int) s = _
    rw [co_countThrows_b1_eq, if_neg (show ¬ w32 (n : Int) < w32 (s 9 1) by rw [e0, w32_id (by omega) (by omega)]; omega)]
theorem co_countHits_ok {t : Int} (h : Inv s) (ht : I32 t) : co_countHits L t s = ok L (sg (fHits s t) (s 242 3).toNat) s := by
  obtain ⟨n, hn, hn2⟩ := row_n h
  obtain ⟨R1, R2, R3⟩ := h.R
  rw [co_countHits_eq, hn, Int.toNat_natCast]
  have e0 : w32 (s 9 1) = (n : Int) := by rw [R1, hn, w32_id (by omega) (by omega)]
  refine lp_sum (L := L) (n := n) (f := fHits s t) (s := s) (fun z i => co_countHits_b1 L t z i s) (fun i z hi hz => ?_) ?_ n 0 (by omega)
  · show co_countHits_b1 L t z (i : Int) s = co_countHits_b1 L t (z + fHits s t i) ((i : Int) + 1) s
    rw [co_countHits_b1_eq, if_pos (show w32 (i : Int) < w32 (s 9 1) by rw [e0, w32_id (by omega) (by omega)]; omega), co_isOf_ok h ht (by omega), ok_bind]
    obtain ⟨x, x1, x2, x3⟩ := row_h h (r := i) (by omega)
    dsimp only
    unfold fHits
    by_cases e : t = -1 ∨ s 243 i = t
    · rw [if_neg (show ¬ w32 (zb (t = -1 ∨ s 243 i = t)) = 0 from fun q => zb_w.mp q e), if_pos (by omega), Int.toNat_natCast, x2, jin_bitCount_ok L (by omega), ok_bind, co_countHits_b3_eq, if_pos e, x1, Int.toNat_natCast]
    · rw [if_pos (zb_w.mpr e), co_countHits_b3_eq, if_neg e]
  · show co_countHits_b1 L t (sg (fHits s t) n) (n : Int) s = _
    rw [co_countHits_b1_eq, if_neg (show ¬ w32 (n : Int) < w32 (s 9 1) by rw [e0, w32_id (by omega) (by omega)]; omega)]
theorem fThrows_bd (h : Inv s) (t : Int) : ∀ r, r < (s 242 3).toNat → 0 ≤ fThrows s t r ∧ fThrows s t r ≤ 24 := by
  intro r hr
  have hr2 : (r : Int) < s 242 3 := by have := h.R; omega
  obtain ⟨b1, b2, b3, b4, b5, -⟩ := h.row hr2
  unfold fThrows
  split <;> omega
theorem fHits_bd (h : Inv s) (t : Int) : ∀ r, r < (s 242 3).toNat → 0 ≤ fHits s t r ∧ fHits s t r ≤ fThrows s t r := by
  intro r hr
  have hr2 : (r : Int) < s 242 3 := by have := h.R; omega
  obtain ⟨b1, b2, b3, b4, b5, b6, -⟩ := h.row hr2
  obtain ⟨x, x1, x2, x3⟩ := row_h h hr2
  have hx : x < 2 ^ (s 244 r).toNat := by
    have e2 : ((2 ^ (s 244 r).toNat : Nat) : Int) = 2 ^ (s 244 r).toNat := by rw [Int.natCast_pow]; rfl
    omega
  unfold fHits fThrows
  rw [x1, Int.toNat_natCast, pcf_big hx (by omega)]
  have := pcf_le (s 244 r).toNat x
  split <;> omega
end
