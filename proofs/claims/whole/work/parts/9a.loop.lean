/-! the law's loop -/
section
variable {L : Nat}
/-- the three calls with texts -/
def TxC (L : Nat) : Prop := (∀ (s : hh_Sv) (a b : Int), I32 a → I32 b → Inv s → s 3 1 = 0 → Cal L s (hx_law L a b) (md_law L a b) w32) ∧ (∀ (s : hh_Sv) (a b : Int), I32 a → I32 b → Inv s → s 3 1 = 0 → Cal L s (hx_belief L a b) (md_belief L a b) w32) ∧ ∀ (s : hh_Sv) (a : Int), I32 a → Inv s → s 3 1 = 0 → Cal L s (hx_measure L a) (md_measure L a) w32
theorem lp_law (hT : TxC L) (hL : L < 2147483648) : ∀ (n i : Nat) (s : hh_Sv), i + n = L → Inv s → (∀ j, j < L → I32 (s 1 j)) → s 3 1 = 0 → ∃ y, lw_law_b1 L (i : Int) s = ok L 1 y := by
  intro n
  induction n using Nat.strongRecOn with
  | ind n ih =>
    intro i s hin h hI h3
    rw [lw_law_b1_eq]
    by_cases q0 : w32 ((L : Int) - 7) < w32 (i : Int)
    · exact ⟨s, if_pos q0⟩
    rw [if_neg q0, if_pos (show (0 : Int) ≤ (i : Int) ∧ (i : Int) < (L : Int) by rw [w32_id (by omega) (by omega), w32_id (by omega) (by omega)] at q0; omega)]
    have h7 : i + 7 ≤ L := by rw [w32_id (by omega) (by omega), w32_id (by omega) (by omega)] at q0; omega
    have nx : ∀ y : hh_Sv, Inv y → (∀ k, k < 8 → y k = s k) → ∃ z, lw_law_b1 L ((i : Int) + 7) y = ok L 1 z := fun y hy e => ih (n - 7) (by omega) (i + 7) y (by omega) hy (fun j hj => by rw [e 1 (by decide)]; exact hI j hj) (by rw [e 3 (by decide)]; exact h3)
    have b1 : (0 : Int) ≤ (i : Int) + 1 ∧ (i : Int) + 1 < (L : Int) := by omega
    have I1 : I32 (s 1 ((i : Int) + 1).toNat) := hI _ (by omega)
    have b2 : (0 : Int) ≤ (i : Int) + 2 ∧ (i : Int) + 2 < (L : Int) := by omega
    have I2 : I32 (s 1 ((i : Int) + 2).toNat) := hI _ (by omega)
    have b3 : (0 : Int) ≤ (i : Int) + 3 ∧ (i : Int) + 3 < (L : Int) := by omega
    have I3 : I32 (s 1 ((i : Int) + 3).toNat) := hI _ (by omega)
    have b4 : (0 : Int) ≤ (i : Int) + 4 ∧ (i : Int) + 4 < (L : Int) := by omega
    have I4 : I32 (s 1 ((i : Int) + 4).toNat) := hI _ (by omega)
    have b5 : (0 : Int) ≤ (i : Int) + 5 ∧ (i : Int) + 5 < (L : Int) := by omega
    have I5 : I32 (s 1 ((i : Int) + 5).toNat) := hI _ (by omega)
    have b6 : (0 : Int) ≤ (i : Int) + 6 ∧ (i : Int) + 6 < (L : Int) := by omega
    have I6 : I32 (s 1 ((i : Int) + 6).toNat) := hI _ (by omega)
    by_cases q : w32 (bAnd (s 1 ((i : Int)).toNat) 63) = 0
    · obtain ⟨v, s1, v2, s2, x1, x2, x3, x4, x5, x6⟩ := c_feed (L := L) (a1 := s 1 ((i : Int) + 1).toNat) (a2 := s 1 ((i : Int) + 2).toNat) (a3 := s 1 ((i : Int) + 3).toNat) (a4 := s 1 ((i : Int) + 4).toNat) (a5 := s 1 ((i : Int) + 5).toNat) h
      have e1 : s1 1 = s 1 := x5 1 (by decide)
      rw [if_pos q, if_pos b1, if_pos b2, if_pos b3, if_pos b4, if_pos b5, x1, ok_bind]
      dsimp only
      rw [if_pos b1, if_pos b2, if_pos b3, if_pos b4, if_pos b5, e1, x2, ok_bind]
      dsimp only
      rw [if_pos x3]
      exact nx s2 x4 x6
    rw [if_neg q]
    clear q
    by_cases q : w32 (bAnd (s 1 ((i : Int)).toNat) 63) = 1
    · obtain ⟨v, s1, v2, s2, x1, x2, x3, x4, x5, x6⟩ := c_thrower (L := L) h
      have e1 : s1 1 = s 1 := x5 1 (by decide)
      rw [if_pos q, x1, ok_bind]
      dsimp only
      rw [x2, ok_bind]
      dsimp only
      rw [if_pos x3]
      exact nx s2 x4 x6
    rw [if_neg q]
    clear q
    by_cases q : w32 (bAnd (s 1 ((i : Int)).toNat) 63) = 2
    · obtain ⟨v, s1, v2, s2, x1, x2, x3, x4, x5, x6⟩ := hT.1 s _ _ I1 I2 h h3
      have e1 : s1 1 = s 1 := x5 1 (by decide)
      rw [if_pos q, if_pos b1, if_pos b2, x1, ok_bind]
      dsimp only
      rw [if_pos b1, if_pos b2, e1, x2, ok_bind]
      dsimp only
      rw [if_pos x3]
      exact nx s2 x4 x6
    rw [if_neg q]
    clear q
    by_cases q : w32 (bAnd (s 1 ((i : Int)).toNat) 63) = 3
    · obtain ⟨v, s1, v2, s2, x1, x2, x3, x4, x5, x6⟩ := hT.2.1 s _ _ I1 I2 h h3
      have e1 : s1 1 = s 1 := x5 1 (by decide)
      rw [if_pos q, if_pos b1, if_pos b2, x1, ok_bind]
      dsimp only
      rw [if_pos b1, if_pos b2, e1, x2, ok_bind]
      dsimp only
      rw [if_pos x3]
      exact nx s2 x4 x6
    rw [if_neg q]
    clear q
    by_cases q : w32 (bAnd (s 1 ((i : Int)).toNat) 63) = 4
    · obtain ⟨v, s1, v2, s2, x1, x2, x3, x4, x5, x6⟩ := hT.2.2 s _ I1 h h3
      have e1 : s1 1 = s 1 := x5 1 (by decide)
      rw [if_pos q, if_pos b1, x1, ok_bind]
      dsimp only
      rw [if_pos b1, e1, x2, ok_bind]
      dsimp only
      rw [if_pos x3]
      exact nx s2 x4 x6
    rw [if_neg q]
    clear q
    by_cases q : w32 (bAnd (s 1 ((i : Int)).toNat) 63) = 5
    · obtain ⟨v, s1, v2, s2, x1, x2, x3, x4, x5, x6⟩ := c_fault (L := L) h
      have e1 : s1 1 = s 1 := x5 1 (by decide)
      rw [if_pos q, x1, ok_bind]
      dsimp only
      rw [x2, ok_bind]
      dsimp only
      rw [if_pos x3]
      exact nx s2 x4 x6
    rw [if_neg q]
    clear q
    by_cases q : w32 (bAnd (s 1 ((i : Int)).toNat) 63) = 6
    · obtain ⟨v, s1, v2, s2, x1, x2, x3, x4, x5, x6⟩ := c_seed (L := L) I1 h
      have e1 : s1 1 = s 1 := x5 1 (by decide)
      rw [if_pos q, if_pos b1, x1, ok_bind]
      dsimp only
      rw [if_pos b1, e1, x2, ok_bind]
      dsimp only
      rw [if_pos x3]
      exact nx s2 x4 x6
    rw [if_neg q]
    clear q
    by_cases q : w32 (bAnd (s 1 ((i : Int)).toNat) 63) = 7
    · obtain ⟨v, s1, v2, s2, x1, x2, x3, x4, x5, x6⟩ := c_row (L := L) I1 h
      have e1 : s1 1 = s 1 := x5 1 (by decide)
      rw [if_pos q, if_pos b1, x1, ok_bind]
      dsimp only
      rw [if_pos b1, e1, x2, ok_bind]
      dsimp only
      rw [if_pos x3]
      exact nx s2 x4 x6
    rw [if_neg q]
    clear q
    by_cases q : w32 (bAnd (s 1 ((i : Int)).toNat) 63) = 8
    · rw [if_pos q, if_pos b1, if_pos b2]
      by_cases f : w32 (s 1 ((i : Int) + 2).toNat) = 0
      · obtain ⟨v, s1, v2, s2, x1, x2, x3, x4, x5, x6⟩ := c_thrown (L := L) (a2 := 0) I1 I3 I4 h
        have x1 : hx_thrown L (s 1 ((i : Int) + 1).toNat) 0 (s 1 ((i : Int) + 3).toNat) (s 1 ((i : Int) + 4).toNat) s = ok L v s1 := x1
        have x2 : md_thrown L (s 1 ((i : Int) + 1).toNat) 0 (s 1 ((i : Int) + 3).toNat) (s 1 ((i : Int) + 4).toNat) s1 = ok L v2 s2 := x2
        have e1 : s1 1 = s 1 := x5 1 (by decide)
        rw [if_pos f, lw_law_b12_eq, if_pos b3, if_pos b4, x1, ok_bind]
        dsimp only
        rw [if_pos b1, if_pos b2, if_pos (by rw [e1]; exact f), e1, lw_law_b14_eq, if_pos b3, if_pos b4, e1, x2, ok_bind]
        dsimp only
        rw [if_pos x3]
        exact nx s2 x4 x6
      · obtain ⟨v, s1, v2, s2, x1, x2, x3, x4, x5, x6⟩ := c_thrown (L := L) (a2 := 1) I1 I3 I4 h
        have x1 : hx_thrown L (s 1 ((i : Int) + 1).toNat) 1 (s 1 ((i : Int) + 3).toNat) (s 1 ((i : Int) + 4).toNat) s = ok L v s1 := x1
        have x2 : md_thrown L (s 1 ((i : Int) + 1).toNat) 1 (s 1 ((i : Int) + 3).toNat) (s 1 ((i : Int) + 4).toNat) s1 = ok L v2 s2 := x2
        have e1 : s1 1 = s 1 := x5 1 (by decide)
        rw [if_neg f, lw_law_b12_eq, if_pos b3, if_pos b4, x1, ok_bind]
        dsimp only
        rw [if_pos b1, if_pos b2, if_neg (by rw [e1]; exact f), e1, lw_law_b14_eq, if_pos b3, if_pos b4, e1, x2, ok_bind]
        dsimp only
        rw [if_pos x3]
        exact nx s2 x4 x6
    rw [if_neg q]
    clear q
    by_cases q : w32 (bAnd (s 1 ((i : Int)).toNat) 63) = 9
    · obtain ⟨v, s1, v2, s2, x1, x2, x3, x4, x5, x6⟩ := c_deal (L := L) I1 I2 h
      have e1 : s1 1 = s 1 := x5 1 (by decide)
      rw [if_pos q, if_pos b1, if_pos b2, x1, ok_bind]
      dsimp only
      rw [if_pos b1, if_pos b2, e1, x2, ok_bind]
      dsimp only
      rw [if_pos x3]
      exact nx s2 x4 x6
    rw [if_neg q]
    clear q
    by_cases q : w32 (bAnd (s 1 ((i : Int)).toNat) 63) = 10
    · obtain ⟨v, s1, v2, s2, x1, x2, x3, x4, x5, x6⟩ := c_told (L := L) I1 I2 I3 h
      have e1 : s1 1 = s 1 := x5 1 (by decide)
      rw [if_pos q, if_pos b1, if_pos b2, if_pos b3, x1, ok_bind]
      dsimp only
      rw [if_pos b1, if_pos b2, if_pos b3, e1, x2, ok_bind]
      dsimp only
      rw [if_pos x3]
      exact nx s2 x4 x6
    rw [if_neg q]
    clear q
    by_cases q : w32 (bAnd (s 1 ((i : Int)).toNat) 63) = 11
    · obtain ⟨v, s1, v2, s2, x1, x2, x3, x4, x5, x6⟩ := c_next (L := L) I1 I2 h
      have e1 : s1 1 = s 1 := x5 1 (by decide)
      rw [if_pos q, if_pos b1, if_pos b2, x1, ok_bind]
      dsimp only
      rw [if_pos b1, if_pos b2, e1, x2, ok_bind]
      dsimp only
      rw [if_pos x3]
      exact nx s2 x4 x6
    rw [if_neg q]
    clear q
    by_cases q : w32 (bAnd (s 1 ((i : Int)).toNat) 63) = 12
    · obtain ⟨v, s1, v2, s2, x1, x2, x3, x4, x5, x6⟩ := c_value (L := L) I1 I2 I3 h
      have e1 : s1 1 = s 1 := x5 1 (by decide)
      rw [if_pos q, if_pos b1, if_pos b2, if_pos b3, x1, ok_bind]
      dsimp only
      rw [if_pos b1, if_pos b2, if_pos b3, e1, x2, ok_bind]
      dsimp only
      rw [if_pos (lCmp_eq.mpr x3)]
      exact nx s2 x4 x6
    rw [if_neg q]
    clear q
    by_cases q : w32 (bAnd (s 1 ((i : Int)).toNat) 63) = 13
    · obtain ⟨v, s1, v2, s2, x1, x2, x3, x4, x5, x6⟩ := c_mean (L := L) I1 I2 I3 h
      have e1 : s1 1 = s 1 := x5 1 (by decide)
      rw [if_pos q, if_pos b1, if_pos b2, if_pos b3, x1, ok_bind]
      dsimp only
      rw [if_pos b1, if_pos b2, if_pos b3, e1, x2, ok_bind]
      dsimp only
      rw [if_pos (lCmp_eq.mpr x3)]
      exact nx s2 x4 x6
    rw [if_neg q]
    clear q
    by_cases q : w32 (bAnd (s 1 ((i : Int)).toNat) 63) = 14
    · rw [if_pos q, if_pos b1, if_pos b2]
      by_cases f : w32 (s 1 ((i : Int) + 2).toNat) = 0
      · obtain ⟨v, s1, v2, s2, x1, x2, x3, x4, x5, x6⟩ := c_joined (L := L) (o := 0) I1 (Or.inl rfl) I3 I4 h
        have x1 : hx_joined L (s 1 ((i : Int) + 1).toNat) 0 (s 1 ((i : Int) + 3).toNat) (s 1 ((i : Int) + 4).toNat) s = ok L v s1 := x1
        have x2 : md_joined L (s 1 ((i : Int) + 1).toNat) 0 (s 1 ((i : Int) + 3).toNat) (s 1 ((i : Int) + 4).toNat) s1 = ok L v2 s2 := x2
        have e1 : s1 1 = s 1 := x5 1 (by decide)
        rw [if_pos f, lw_law_b22_eq, if_pos b3, if_pos b4, x1, ok_bind]
        dsimp only
        rw [if_pos b1, if_pos b2, if_pos (by rw [e1]; exact f), e1, lw_law_b24_eq, if_pos b3, if_pos b4, e1, x2, ok_bind]
        dsimp only
        rw [if_pos x3]
        exact nx s2 x4 x6
      · obtain ⟨v, s1, v2, s2, x1, x2, x3, x4, x5, x6⟩ := c_joined (L := L) (o := 1) I1 (Or.inr rfl) I3 I4 h
        have x1 : hx_joined L (s 1 ((i : Int) + 1).toNat) 1 (s 1 ((i : Int) + 3).toNat) (s 1 ((i : Int) + 4).toNat) s = ok L v s1 := x1
        have x2 : md_joined L (s 1 ((i : Int) + 1).toNat) 1 (s 1 ((i : Int) + 3).toNat) (s 1 ((i : Int) + 4).toNat) s1 = ok L v2 s2 := x2
        have e1 : s1 1 = s 1 := x5 1 (by decide)
        rw [if_neg f, lw_law_b22_eq, if_pos b3, if_pos b4, x1, ok_bind]
        dsimp only
        rw [if_pos b1, if_pos b2, if_neg (by rw [e1]; exact f), e1, lw_law_b24_eq, if_pos b3, if_pos b4, e1, x2, ok_bind]
        dsimp only
        rw [if_pos x3]
        exact nx s2 x4 x6
    rw [if_neg q]
    clear q
    by_cases q : w32 (bAnd (s 1 ((i : Int)).toNat) 63) = 15
    · obtain ⟨v, s1, v2, s2, x1, x2, x3, x4, x5, x6⟩ := c_lean (L := L) I1 I2 I3 I4 h
      have e1 : s1 1 = s 1 := x5 1 (by decide)
      rw [if_pos q, if_pos b1, if_pos b2, if_pos b3, if_pos b4, x1, ok_bind]
      dsimp only
      rw [if_pos b1, if_pos b2, if_pos b3, if_pos b4, e1, x2, ok_bind]
      dsimp only
      rw [if_pos (lCmp_eq.mpr x3)]
      exact nx s2 x4 x6
    rw [if_neg q]
    clear q
    by_cases q : w32 (bAnd (s 1 ((i : Int)).toNat) 63) = 16
    · obtain ⟨v, s1, v2, s2, x1, x2, x3, x4, x5, x6⟩ := c_right (L := L) I1 I2 I3 I4 h
      have e1 : s1 1 = s 1 := x5 1 (by decide)
      rw [if_pos q, if_pos b1, if_pos b2, if_pos b3, if_pos b4, x1, ok_bind]
      dsimp only
      rw [if_pos b1, if_pos b2, if_pos b3, if_pos b4, e1, x2, ok_bind]
      dsimp only
      rw [if_pos (lCmp_eq.mpr x3)]
      exact nx s2 x4 x6
    rw [if_neg q]
    clear q
    by_cases q : w32 (bAnd (s 1 ((i : Int)).toNat) 63) = 17
    · obtain ⟨v, s1, v2, s2, x1, x2, x3, x4, x5, x6⟩ := c_shuffle (L := L) I1 I2 I3 h
      have e1 : s1 1 = s 1 := x5 1 (by decide)
      rw [if_pos q, if_pos b1, if_pos b2, if_pos b3, x1, ok_bind]
      dsimp only
      rw [if_pos b1, if_pos b2, if_pos b3, e1, x2, ok_bind]
      dsimp only
      rw [if_pos (lCmp_eq.mpr x3)]
      exact nx s2 x4 x6
    rw [if_neg q]
    clear q
    by_cases q : w32 (bAnd (s 1 ((i : Int)).toNat) 63) = 18
    · obtain ⟨v, s1, v2, s2, x1, x2, x3, x4, x5, x6⟩ := c_together (L := L) I1 I2 h
      have e1 : s1 1 = s 1 := x5 1 (by decide)
      rw [if_pos q, if_pos b1, if_pos b2, x1, ok_bind]
      dsimp only
      rw [if_pos b1, if_pos b2, e1, x2, ok_bind]
      dsimp only
      rw [if_pos (lCmp_eq.mpr x3)]
      exact nx s2 x4 x6
    rw [if_neg q]
    clear q
    by_cases q : w32 (bAnd (s 1 ((i : Int)).toNat) 63) = 19
    · obtain ⟨v, s1, v2, s2, x1, x2, x3, x4, x5, x6⟩ := c_streak (L := L) I1 I2 h
      have e1 : s1 1 = s 1 := x5 1 (by decide)
      rw [if_pos q, if_pos b1, if_pos b2, x1, ok_bind]
      dsimp only
      rw [if_pos b1, if_pos b2, e1, x2, ok_bind]
      dsimp only
      rw [if_pos (lCmp_eq.mpr x3)]
      exact nx s2 x4 x6
    rw [if_neg q]
    clear q
    by_cases q : w32 (bAnd (s 1 ((i : Int)).toNat) 63) = 20
    · obtain ⟨v, s1, v2, s2, x1, x2, x3, x4, x5, x6⟩ := c_power (L := L) I1 I2 I3 I4 I5 h
      have e1 : s1 1 = s 1 := x5 1 (by decide)
      rw [if_pos q, if_pos b1, if_pos b2, if_pos b3, if_pos b4, if_pos b5, x1, ok_bind]
      dsimp only
      rw [if_pos b1, if_pos b2, if_pos b3, if_pos b4, if_pos b5, e1, x2, ok_bind]
      dsimp only
      rw [if_pos (lCmp_eq.mpr x3)]
      exact nx s2 x4 x6
    rw [if_neg q]
    clear q
    by_cases q : w32 (bAnd (s 1 ((i : Int)).toNat) 63) = 21
    · obtain ⟨v, s1, v2, s2, x1, x2, x3, x4, x5, x6⟩ := c_need (L := L) I1 I2 I3 I4 h
      have e1 : s1 1 = s 1 := x5 1 (by decide)
      rw [if_pos q, if_pos b1, if_pos b2, if_pos b3, if_pos b4, x1, ok_bind]
      dsimp only
      rw [if_pos b1, if_pos b2, if_pos b3, if_pos b4, e1, x2, ok_bind]
      dsimp only
      rw [if_pos x3]
      exact nx s2 x4 x6
    rw [if_neg q]
    clear q
    by_cases q : w32 (bAnd (s 1 ((i : Int)).toNat) 63) = 22
    · obtain ⟨v, s1, v2, s2, x1, x2, x3, x4, x5, x6⟩ := c_strong (L := L) I1 I2 I3 I4 h
      have e1 : s1 1 = s 1 := x5 1 (by decide)
      rw [if_pos q, if_pos b1, if_pos b2, if_pos b3, if_pos b4, x1, ok_bind]
      dsimp only
      rw [if_pos b1, if_pos b2, if_pos b3, if_pos b4, e1, x2, ok_bind]
      dsimp only
      rw [if_pos x3]
      exact nx s2 x4 x6
    rw [if_neg q]
    clear q
    by_cases q : w32 (bAnd (s 1 ((i : Int)).toNat) 63) = 23
    · obtain ⟨v, s1, v2, s2, x1, x2, x3, x4, x5, x6⟩ := c_hards (L := L) I1 I2 I3 h
      have e1 : s1 1 = s 1 := x5 1 (by decide)
      rw [if_pos q, if_pos b1, if_pos b2, if_pos b3, x1, ok_bind]
      dsimp only
      rw [if_pos b1, if_pos b2, if_pos b3, e1, x2, ok_bind]
      dsimp only
      rw [if_pos x3]
      exact nx s2 x4 x6
    rw [if_neg q]
    clear q
    by_cases q : w32 (bAnd (s 1 ((i : Int)).toNat) 63) = 24
    · obtain ⟨v, s1, v2, s2, x1, x2, x3, x4, x5, x6⟩ := c_off (L := L) I1 I2 h
      have e1 : s1 1 = s 1 := x5 1 (by decide)
      rw [if_pos q, if_pos b1, if_pos b2, x1, ok_bind]
      dsimp only
      rw [if_pos b1, if_pos b2, e1, x2, ok_bind]
      dsimp only
      rw [if_pos (lCmp_eq.mpr x3)]
      exact nx s2 x4 x6
    rw [if_neg q]
    clear q
    by_cases q : w32 (bAnd (s 1 ((i : Int)).toNat) 63) = 25
    · obtain ⟨v, s1, v2, s2, x1, x2, x3, x4, x5, x6⟩ := c_chosen (L := L) I1 I2 h
      have e1 : s1 1 = s 1 := x5 1 (by decide)
      rw [if_pos q, if_pos b1, if_pos b2, x1, ok_bind]
      dsimp only
      rw [if_pos b1, if_pos b2, e1, x2, ok_bind]
      dsimp only
      rw [if_pos (lCmp_eq.mpr x3)]
      exact nx s2 x4 x6
    rw [if_neg q]
    clear q
    by_cases q : w32 (bAnd (s 1 ((i : Int)).toNat) 63) = 26
    · obtain ⟨v, s1, v2, s2, x1, x2, x3, x4, x5, x6⟩ := c_hundredths (L := L) I1 h
      have e1 : s1 1 = s 1 := x5 1 (by decide)
      rw [if_pos q, if_pos b1, x1, ok_bind]
      dsimp only
      rw [if_pos b1, e1, x2, ok_bind]
      dsimp only
      rw [if_pos x3]
      exact nx s2 x4 x6
    rw [if_neg q]
    clear q
    by_cases q : w32 (bAnd (s 1 ((i : Int)).toNat) 63) = 27
    · obtain ⟨v, s1, v2, s2, x1, x2, x3, x4, x5, x6⟩ := c_groups (L := L) I1 I2 h
      have e1 : s1 1 = s 1 := x5 1 (by decide)
      rw [if_pos q, if_pos b1, if_pos b2, x1, ok_bind]
      dsimp only
      rw [if_pos b1, if_pos b2, e1, x2, ok_bind]
      dsimp only
      rw [if_pos x3]
      exact nx s2 x4 x6
    rw [if_neg q]
    clear q
    by_cases q : w32 (bAnd (s 1 ((i : Int)).toNat) 63) = 28
    · obtain ⟨v, s1, v2, s2, x1, x2, x3, x4, x5, x6⟩ := c_above (L := L) I1 h
      have e1 : s1 1 = s 1 := x5 1 (by decide)
      rw [if_pos q, if_pos b1, x1, ok_bind]
      dsimp only
      rw [if_pos b1, e1, x2, ok_bind]
      dsimp only
      rw [if_pos x3]
      exact nx s2 x4 x6
    rw [if_neg q]
    clear q
    by_cases q : w32 (bAnd (s 1 ((i : Int)).toNat) 63) = 29
    · obtain ⟨v, s1, v2, s2, x1, x2, x3, x4, x5, x6⟩ := c_hidden (L := L) I1 I2 I3 I4 I5 h
      have e1 : s1 1 = s 1 := x5 1 (by decide)
      rw [if_pos q, if_pos b1, if_pos b2, if_pos b3, if_pos b4, if_pos b5, x1, ok_bind]
      dsimp only
      rw [if_pos b1, if_pos b2, if_pos b3, if_pos b4, if_pos b5, e1, x2, ok_bind]
      dsimp only
      rw [if_pos (lCmp_eq.mpr x3)]
      exact nx s2 x4 x6
    rw [if_neg q]
    clear q
    by_cases q : w32 (bAnd (s 1 ((i : Int)).toNat) 63) = 30
    · obtain ⟨v, s1, v2, s2, x1, x2, x3, x4, x5, x6⟩ := c_bets (L := L) I1 I2 I3 h
      have e1 : s1 1 = s 1 := x5 1 (by decide)
      rw [if_pos q, if_pos b1, if_pos b2, if_pos b3, x1, ok_bind]
      dsimp only
      rw [if_pos b1, if_pos b2, if_pos b3, e1, x2, ok_bind]
      dsimp only
      rw [if_pos x3]
      exact nx s2 x4 x6
    rw [if_neg q]
    clear q
    by_cases q : w32 (bAnd (s 1 ((i : Int)).toNat) 63) = 31
    · obtain ⟨v, s1, v2, s2, x1, x2, x3, x4, x5, x6⟩ := c_odds (L := L) I1 I2 I3 h
      have e1 : s1 1 = s 1 := x5 1 (by decide)
      rw [if_pos q, if_pos b1, if_pos b2, if_pos b3, x1, ok_bind]
      dsimp only
      rw [if_pos b1, if_pos b2, if_pos b3, e1, x2, ok_bind]
      dsimp only
      rw [if_pos (lCmp_eq.mpr x3)]
      exact nx s2 x4 x6
    rw [if_neg q]
    clear q
    by_cases q : w32 (bAnd (s 1 ((i : Int)).toNat) 63) = 32
    · obtain ⟨v, s1, v2, s2, x1, x2, x3, x4, x5, x6⟩ := c_give (L := L) I1 I2 I3 I4 I5 I6 h
      have e1 : s1 1 = s 1 := x5 1 (by decide)
      rw [if_pos q, if_pos b1, if_pos b2, if_pos b3, if_pos b4, if_pos b5, if_pos b6, x1, ok_bind]
      dsimp only
      rw [if_pos b1, if_pos b2, if_pos b3, if_pos b4, if_pos b5, if_pos b6, e1, x2, ok_bind]
      dsimp only
      rw [if_pos (lCmp_eq.mpr x3)]
      exact nx s2 x4 x6
    rw [if_neg q]
    clear q
    by_cases q : w32 (bAnd (s 1 ((i : Int)).toNat) 63) = 33
    · obtain ⟨v, s1, v2, s2, x1, x2, x3, x4, x5, x6⟩ := c_worlds (L := L) I1 I2 I3 I4 I5 h
      have e1 : s1 1 = s 1 := x5 1 (by decide)
      rw [if_pos q, if_pos b1, if_pos b2, if_pos b3, if_pos b4, if_pos b5, x1, ok_bind]
      dsimp only
      rw [if_pos b1, if_pos b2, if_pos b3, if_pos b4, if_pos b5, e1, x2, ok_bind]
      dsimp only
      rw [if_pos (lCmp_eq.mpr x3)]
      exact nx s2 x4 x6
    rw [if_neg q]
    clear q
    by_cases q : w32 (bAnd (s 1 ((i : Int)).toNat) 63) = 34
    · obtain ⟨v, s1, v2, s2, x1, x2, x3, x4, x5, x6⟩ := c_foretold (L := L) I1 I2 I3 I4 h
      have e1 : s1 1 = s 1 := x5 1 (by decide)
      rw [if_pos q, if_pos b1, if_pos b2, if_pos b3, if_pos b4, x1, ok_bind]
      dsimp only
      rw [if_pos b1, if_pos b2, if_pos b3, if_pos b4, e1, x2, ok_bind]
      dsimp only
      rw [if_pos x3]
      exact nx s2 x4 x6
    rw [if_neg q]
    clear q
    by_cases q : w32 (bAnd (s 1 ((i : Int)).toNat) 63) = 35
    · obtain ⟨v, s1, v2, s2, x1, x2, x3, x4, x5, x6⟩ := c_heat (L := L) I1 I2 h
      have e1 : s1 1 = s 1 := x5 1 (by decide)
      rw [if_pos q, if_pos b1, if_pos b2, x1, ok_bind]
      dsimp only
      rw [if_pos b1, if_pos b2, e1, x2, ok_bind]
      dsimp only
      rw [if_pos x3]
      exact nx s2 x4 x6
    rw [if_neg q]
    clear q
    by_cases q : w32 (bAnd (s 1 ((i : Int)).toNat) 63) = 36
    · obtain ⟨v, s1, v2, s2, x1, x2, x3, x4, x5, x6⟩ := c_pooled (L := L) I1 h
      have e1 : s1 1 = s 1 := x5 1 (by decide)
      rw [if_pos q, if_pos b1, x1, ok_bind]
      dsimp only
      rw [if_pos b1, e1, x2, ok_bind]
      dsimp only
      rw [if_pos x3]
      exact nx s2 x4 x6
    rw [if_neg q]
    clear q
    by_cases q : w32 (bAnd (s 1 ((i : Int)).toNat) 63) = 37
    · rw [if_pos q, if_pos b1, if_pos b2, if_pos b3]
      by_cases f : w32 (s 1 ((i : Int) + 3).toNat) = 0
      · obtain ⟨v, s1, v2, s2, x1, x2, x3, x4, x5, x6⟩ := c_season (L := L) (o := 0) I1 I2 (Or.inl rfl) I4 I5 h
        have x1 : hx_season L (s 1 ((i : Int) + 1).toNat) (s 1 ((i : Int) + 2).toNat) 0 (s 1 ((i : Int) + 4).toNat) (s 1 ((i : Int) + 5).toNat) s = ok L v s1 := x1
        have x2 : md_season L (s 1 ((i : Int) + 1).toNat) (s 1 ((i : Int) + 2).toNat) 0 (s 1 ((i : Int) + 4).toNat) (s 1 ((i : Int) + 5).toNat) s1 = ok L v2 s2 := x2
        have e1 : s1 1 = s 1 := x5 1 (by decide)
        rw [if_pos f, lw_law_b49_eq, if_pos b4, if_pos b5, x1, ok_bind]
        dsimp only
        rw [if_pos b1, if_pos b2, if_pos b3, if_pos (by rw [e1]; exact f), e1, lw_law_b51_eq, if_pos b4, if_pos b5, e1, x2, ok_bind]
        dsimp only
        rw [if_pos x3]
        exact nx s2 x4 x6
      · obtain ⟨v, s1, v2, s2, x1, x2, x3, x4, x5, x6⟩ := c_season (L := L) (o := 1) I1 I2 (Or.inr rfl) I4 I5 h
        have x1 : hx_season L (s 1 ((i : Int) + 1).toNat) (s 1 ((i : Int) + 2).toNat) 1 (s 1 ((i : Int) + 4).toNat) (s 1 ((i : Int) + 5).toNat) s = ok L v s1 := x1
        have x2 : md_season L (s 1 ((i : Int) + 1).toNat) (s 1 ((i : Int) + 2).toNat) 1 (s 1 ((i : Int) + 4).toNat) (s 1 ((i : Int) + 5).toNat) s1 = ok L v2 s2 := x2
        have e1 : s1 1 = s 1 := x5 1 (by decide)
        rw [if_neg f, lw_law_b49_eq, if_pos b4, if_pos b5, x1, ok_bind]
        dsimp only
        rw [if_pos b1, if_pos b2, if_pos b3, if_neg (by rw [e1]; exact f), e1, lw_law_b51_eq, if_pos b4, if_pos b5, e1, x2, ok_bind]
        dsimp only
        rw [if_pos x3]
        exact nx s2 x4 x6
    rw [if_neg q]
    clear q
    by_cases q : w32 (bAnd (s 1 ((i : Int)).toNat) 63) = 38
    · obtain ⟨v, s1, v2, s2, x1, x2, x3, x4, x5, x6⟩ := c_say (L := L) I1 I2 I3 h
      have e1 : s1 1 = s 1 := x5 1 (by decide)
      rw [if_pos q, if_pos b1, if_pos b2, if_pos b3, x1, ok_bind]
      dsimp only
      rw [if_pos b1, if_pos b2, if_pos b3, e1, x2, ok_bind]
      dsimp only
      rw [if_pos x3]
      exact nx s2 x4 x6
    rw [if_neg q]
    clear q
    by_cases q : w32 (bAnd (s 1 ((i : Int)).toNat) 63) = 39
    · obtain ⟨v, s1, v2, s2, x1, x2, x3, x4, x5, x6⟩ := c_image (L := L) h
      have e1 : s1 1 = s 1 := x5 1 (by decide)
      rw [if_pos q, x1, ok_bind]
      dsimp only
      rw [x2, ok_bind]
      dsimp only
      rw [if_pos x3]
      exact nx s2 x4 x6
    rw [if_neg q]
    clear q
    by_cases q : w32 (bAnd (s 1 ((i : Int)).toNat) 63) = 40
    · obtain ⟨v, s1, v2, s2, x1, x2, x3, x4, x5, x6⟩ := c_back (L := L) I1 h
      have e1 : s1 1 = s 1 := x5 1 (by decide)
      rw [if_pos q, if_pos b1, x1, ok_bind]
      dsimp only
      rw [if_pos b1, e1, x2, ok_bind]
      dsimp only
      rw [if_pos x3]
      exact nx s2 x4 x6
    rw [if_neg q]
    clear q
    by_cases q : w32 (bAnd (s 1 ((i : Int)).toNat) 63) = 41
    · obtain ⟨v, s1, v2, s2, x1, x2, x3, x4, x5, x6⟩ := c_count (L := L) I1 h
      have e1 : s1 1 = s 1 := x5 1 (by decide)
      rw [if_pos q, if_pos b1, x1, ok_bind]
      dsimp only
      rw [if_pos b1, e1, x2, ok_bind]
      dsimp only
      rw [if_pos x3]
      exact nx s2 x4 x6
    rw [if_neg q]
    clear q
    exact nx s h (fun _ _ => rfl)
end
